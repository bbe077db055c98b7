section CHK
variable {rs : List (List Nat)} {n : Nat}
def plusR (rs : List (List Nat)) (n : Nat) : Rw := (rs, (List.range n).map (fun _ => 1))
theorem plus_n : rwn (plusR rs n) = n := by show ((List.range n).map _).length = n; rw [List.length_map, List.length_range]
theorem plus_s {c : Nat} (h : c < n) : (plusR rs n).2.getD c 0 = 1 := gd_rmap h
theorem fT_eq {tP tX tA tV : Nat} (ok : rwOk (plusR rs n)) (hP : ∀ p, p < 2 * n → fg tP p = rs.flatten.getD p 0) (hX : ∀ p, p < 2 * n → fg tX p = rwNx (plusR rs n) p) (hA : ∀ p, p < 2 * n → fg tA p = rwAh (plusR rs n) p) (hV : ∀ p, p < 2 * n → fg tV (rs.flatten.getD p 0) = p) : ∀ w, w < 4 * n → fT tP tX tA tV w = rwT (plusR rs n) w := by
  intro w hw
  have lenP : rs.flatten.length = 2 * n := by have := ok.len; rw [plus_n] at this; exact this
  have lenR : (rwP (plusR rs n)).length = 2 * n := lenP
  have eP : ∀ p, (rwP (plusR rs n)).getD p 0 = rs.flatten.getD p 0 := fun _ => rfl
  have Llt : ∀ p, p < 2 * n → rs.flatten.getD p 0 < 2 * n := fun p hp => by
    have := ok.lt p (by rw [plus_n]; exact hp)
    rw [plus_n] at this
    exact this
  have sur : ∀ v, v < 2 * n → fg tV v < 2 * n ∧ rs.flatten.getD (fg tV v) 0 = v := fun v hv => by
    obtain ⟨p, hp, e⟩ := ok.sur (x := v) (by rw [plus_n]; exact hv)
    rw [plus_n] at hp
    have e : rs.flatten.getD p 0 = v := e
    have := hV p hp
    rw [e] at this
    rw [this]
    exact ⟨hp, e⟩
  -- the end at which a pass comes
  have eE : ∀ p, p < 2 * n → rwE (plusR rs n) p = if rs.flatten.getD p 0 % 2 = 0 then 0 else 3 := by
    intro p hp
    have l := Llt p hp
    unfold rwE
    rw [eP]
    by_cases z : rs.flatten.getD p 0 % 2 = 0
    · rw [if_pos z, if_pos z]
    · rw [if_neg z, if_neg z, plus_s (by omega), if_pos rfl]
  have eI : ∀ p, p < 2 * n → rwI (plusR rs n) p = 4 * (rs.flatten.getD p 0 / 2) + (if rs.flatten.getD p 0 % 2 = 0 then 0 else 3) := fun p hp => by
    unfold rwI; rw [eE p hp, eP]
  have eO : ∀ p, p < 2 * n → rwO (plusR rs n) p = 4 * (rs.flatten.getD p 0 / 2) + (if rs.flatten.getD p 0 % 2 = 0 then 2 else 1) := fun p hp => by
    unfold rwO; rw [eE p hp, eP]
    by_cases z : rs.flatten.getD p 0 % 2 = 0
    · rw [if_pos z, if_pos z]
    · rw [if_neg z, if_neg z]
  -- leaving at an end
  have lv : ∀ v, v < 2 * n → v % 2 = 1 → rwLv (plusR rs n) (4 * (v / 2) + 3) = 2 * rwAh (plusR rs n) (fg tV v) + 1 ∧ rwLv (plusR rs n) (4 * (v / 2) + 1) = 2 * fg tV v := by
    intro v hv h1
    obtain ⟨a, b⟩ := sur v hv
    have i1 := rwLv_I ok (p := fg tV v) (by rw [lenR]; exact a)
    have o1 := rwLv_O ok (p := fg tV v) (by rw [lenR]; exact a)
    rw [eI _ a, b, if_neg (by omega)] at i1
    rw [eO _ a, b, if_neg (by omega)] at o1
    exact ⟨i1, o1⟩
  have lv0 : ∀ v, v < 2 * n → v % 2 = 0 → rwLv (plusR rs n) (4 * (v / 2)) = 2 * rwAh (plusR rs n) (fg tV v) + 1 ∧ rwLv (plusR rs n) (4 * (v / 2) + 2) = 2 * fg tV v := by
    intro v hv h1
    obtain ⟨a, b⟩ := sur v hv
    have i1 := rwLv_I ok (p := fg tV v) (by rw [lenR]; exact a)
    have o1 := rwLv_O ok (p := fg tV v) (by rw [lenR]; exact a)
    rw [eI _ a, b, if_pos (by omega)] at i1
    rw [eO _ a, b, if_pos (by omega)] at o1
    exact ⟨i1, o1⟩
  have e : fT tP tX tA tV w = if w % 2 = 1 then fTu tA tV (fg tP (w / 2)) else fTd tA tV (fg tP (fg tX (w / 2))) := cond_if (fo_iff w)
  have eu : ∀ v, fTu tA tV v = if v % 2 = 1 then 2 * fg tV (v - 1) else 2 * fg tA (fg tV (v + 1)) + 1 := fun v => cond_if (fo_iff v)
  have ed : ∀ v, fTd tA tV v = if v % 2 = 1 then 2 * fg tA (fg tV (v - 1)) + 1 else 2 * fg tV (v + 1) := fun v => cond_if (fo_iff v)
  have hw2 : w / 2 < 2 * n := by omega
  have core : ∀ (v r : Nat), r = 4 * (v / 2) + r % 4 → 4 * (r / 4) = 4 * (v / 2) := fun v r h => by omega
  rw [e]
  unfold rwT
  by_cases o : w % 2 = 1
  · rw [if_pos o, hP _ hw2, eu]
    have er : rwRe (plusR rs n) w = rwO (plusR rs n) (w / 2) := by unfold rwRe; rw [if_neg (by omega)]
    have l := Llt _ hw2
    rw [er, eO _ hw2]
    generalize rs.flatten.getD (w / 2) 0 = v at *
    by_cases z : v % 2 = 1
    · rw [if_pos z, if_neg (by omega)]
      have := (lv0 (v - 1) (by omega) (by omega)).2
      rw [show 4 * ((4 * (v / 2) + 1) / 4) + (4 * (v / 2) + 1 + 1) % 4 = 4 * ((v - 1) / 2) + 2 by omega, this]
    · rw [if_neg z, if_pos (by omega)]
      have := (lv (v + 1) (by omega) (by omega)).1
      rw [show 4 * ((4 * (v / 2) + 2) / 4) + (4 * (v / 2) + 2 + 1) % 4 = 4 * ((v + 1) / 2) + 3 by omega, this, hA _ (sur (v + 1) (by omega)).1]
  · rw [if_neg o, hX _ hw2]
    have nx : rwNx (plusR rs n) (w / 2) < 2 * n := by rw [← lenR]; exact rwNx_lt (by rw [lenR]; exact hw2)
    rw [hP _ nx, ed]
    have er : rwRe (plusR rs n) w = rwI (plusR rs n) (rwNx (plusR rs n) (w / 2)) := by unfold rwRe; rw [if_pos (by omega)]
    have l := Llt _ nx
    rw [er, eI _ nx]
    generalize rs.flatten.getD (rwNx (plusR rs n) (w / 2)) 0 = v at *
    by_cases z : v % 2 = 1
    · rw [if_pos z, if_neg (by omega)]
      have := (lv0 (v - 1) (by omega) (by omega)).1
      rw [show 4 * ((4 * (v / 2) + 3) / 4) + (4 * (v / 2) + 3 + 1) % 4 = 4 * ((v - 1) / 2) by omega, this, hA _ (sur (v - 1) (by omega)).1]
    · rw [if_neg z, if_pos (by omega)]
      have := (lv (v + 1) (by omega) (by omega)).2
      rw [show 4 * ((4 * (v / 2) + 0) / 4) + (4 * (v / 2) + 0 + 1) % 4 = 4 * ((v + 1) / 2) + 1 by omega, this]
theorem fU_parts {tP tX : Nat} (hn : n ≤ 8) (ok : rwOk (plusR rs n)) (hP : ∀ p, p < 2 * n → fg tP p = rs.flatten.getD p 0) (hX : ∀ p, p < 2 * n → fg tX p = rwNx (plusR rs n) p) : ∀ m, m ≤ 2 * n → (fU n tP tX m).2 = (ufRun n (rwPp (plusR rs n) m)).2 ∧ ∀ k, k < n → fg (fU n tP tX m).1 k = (ufRun n (rwPp (plusR rs n) m)).1 k ∧ (ufRun n (rwPp (plusR rs n) m)).1 k < n := by
  have lenR : (rwP (plusR rs n)).length = 2 * n := by have := ok.len; rw [plus_n] at this; exact this
  have Llt : ∀ p, p < 2 * n → rs.flatten.getD p 0 < 2 * n := fun p hp => by
    have := ok.lt p (by rw [plus_n]; exact hp)
    rw [plus_n] at this
    exact this
  intro m
  induction m with
  | zero =>
    intro _
    refine ⟨rfl, fun k hk => ⟨tab_get n (fun k hk => by omega) k hk, hk⟩⟩
  | succ m ih =>
    intro hm
    obtain ⟨a, b⟩ := ih (by omega)
    have nx : rwNx (plusR rs n) m < 2 * n := by rw [← lenR]; exact rwNx_lt (by rw [lenR]; omega)
    have l1 := Llt m (by omega)
    have l2 := Llt _ nx
    have eR : ufRun n (rwPp (plusR rs n) (m + 1)) = ufStep (ufRun n (rwPp (plusR rs n) m)) (rs.flatten.getD m 0 / 2, rs.flatten.getD (rwNx (plusR rs n) m) 0 / 2) := by
      unfold ufRun rwPp
      rw [List.range_succ, List.map_append, List.foldl_append]
      rfl
    have e : fU n tP tX (m + 1) = if fg (fU n tP tX m).1 (fg tP m / 2) = fg (fU n tP tX m).1 (fg tP (fg tX m) / 2) then fU n tP tX m else (tab (fun j => cond (Nat.beq (fg (fU n tP tX m).1 j) (fg (fU n tP tX m).1 (fg tP m / 2))) (fg (fU n tP tX m).1 (fg tP (fg tX m) / 2)) (fg (fU n tP tX m).1 j)) n, (fU n tP tX m).2 - 1) := cond_if nbeq
    rw [e, eR, hX m (by omega), hP m (by omega), hP _ nx]
    obtain ⟨u1, u2⟩ := b (rs.flatten.getD m 0 / 2) (by omega)
    obtain ⟨w1, w2⟩ := b (rs.flatten.getD (rwNx (plusR rs n) m) 0 / 2) (by omega)
    rw [u1, w1]
    unfold ufStep
    dsimp only
    by_cases q : (ufRun n (rwPp (plusR rs n) m)).1 (rs.flatten.getD m 0 / 2) = (ufRun n (rwPp (plusR rs n) m)).1 (rs.flatten.getD (rwNx (plusR rs n) m) 0 / 2)
    · rw [if_pos q, if_pos q]; exact ⟨a, b⟩
    · rw [if_neg q, if_neg q]
      refine ⟨by dsimp only; rw [a], fun k hk => ?_⟩
      have ej : ∀ j, j < n → (cond (Nat.beq (fg (fU n tP tX m).1 j) ((ufRun n (rwPp (plusR rs n) m)).1 (rs.flatten.getD m 0 / 2))) ((ufRun n (rwPp (plusR rs n) m)).1 (rs.flatten.getD (rwNx (plusR rs n) m) 0 / 2)) (fg (fU n tP tX m).1 j)) = ufJ (ufRun n (rwPp (plusR rs n) m)).1 (rs.flatten.getD m 0 / 2) (rs.flatten.getD (rwNx (plusR rs n) m) 0 / 2) j := by
        intro j hj
        rw [cond_if (p := fg (fU n tP tX m).1 j = (ufRun n (rwPp (plusR rs n) m)).1 (rs.flatten.getD m 0 / 2)) nbeq, (b j hj).1]
        rfl
      have lt : ∀ j, j < n → ufJ (ufRun n (rwPp (plusR rs n) m)).1 (rs.flatten.getD m 0 / 2) (rs.flatten.getD (rwNx (plusR rs n) m) 0 / 2) j < n := by
        intro j hj
        unfold ufJ
        split
        · exact w2
        · exact (b j hj).2
      refine ⟨?_, lt k hk⟩
      dsimp only
      rw [tab_get n (fun j hj => by rw [ej j hj]; have := lt j hj; omega) k hk]
      exact ej k hk
theorem chkR_ok (hn : n ≤ 8) (h : chkR rs n = true) : rwOk (plusR rs n) ∧ rwPl (plusR rs n) := by
  unfold chkR at h
  cases h1 : rs.flatten.isPerm (List.range (fd n)) with
  | false => rw [h1] at h; exact Bool.noConfusion h
  | true =>
    rw [h1] at h
    cases h2 : Nat.ble rs.length (nat_lit 4) with
    | false => rw [h2] at h; exact Bool.noConfusion h
    | true =>
      rw [h2] at h
      cases h3 : chV (tbW rs.flatten (nat_lit 0)) rs.flatten (nat_lit 0) with
      | false => rw [h3] at h; exact Bool.noConfusion h
      | true =>
        rw [h3] at h
        have h4 := Nat.eq_of_beq_eq_true h
        have pm : rs.flatten.Perm (List.range (2 * n)) := List.isPerm_iff.mp h1
        have ok : rwOk (plusR rs n) := by
          refine ⟨Nat.le_of_ble_eq_true h2, by rw [plus_n]; exact hn, by rw [plus_n]; exact pm, fun s hs => ?_⟩
          obtain ⟨_, _, e⟩ := List.mem_map.mp hs
          exact Or.inl e.symm
        have lenP : rs.flatten.length = 2 * n := by have := ok.len; rw [plus_n] at this; exact this
        have mem : ∀ x, x ∈ rs.flatten → x < 64 := fun x hx => by
          have := List.mem_range.mp ((pm.mem_iff).mp hx)
          omega
        have hP : ∀ p, p < 2 * n → fg (tbM rs.flatten) p = rs.flatten.getD p 0 := fun p hp => tbM_get _ _ mem (by rw [lenP]; exact hp)
        have lenR : (rwP (plusR rs n)).length = 2 * n := lenP
        have nxl : (nxM rs 0).length = 2 * n := by rw [nxM_len]; exact lenP
        have ahl : (ahM rs 0).length = 2 * n := by rw [ahM_len]; exact lenP
        have nxv : ∀ p, p < 2 * n → (nxM rs 0).getD p 0 = rwNx (plusR rs n) p := fun p hp => by
          obtain ⟨i, j, hi, hj, e⟩ := rw_split (R := plusR rs n) (p := p) (by rw [lenR]; exact hp)
          rw [e, rwNx_F hi hj]
          have := nxM_get rs 0 i j hi hj
          rw [Nat.zero_add] at this
          exact this
        have ahv : ∀ p, p < 2 * n → (ahM rs 0).getD p 0 = rwAh (plusR rs n) p := fun p hp => by
          obtain ⟨i, j, hi, hj, e⟩ := rw_split (R := plusR rs n) (p := p) (by rw [lenR]; exact hp)
          rw [e, rwAh_F hi hj]
          have := ahM_get rs 0 i j hi hj
          rw [Nat.zero_add] at this
          exact this
        have hX : ∀ p, p < 2 * n → fg (tbM (nxM rs 0)) p = rwNx (plusR rs n) p := fun p hp => by
          rw [tbM_get _ _ (fun x hx => ?_) (by rw [nxl]; exact hp)]
          · exact nxv p hp
          · obtain ⟨q, hq, e⟩ := List.getElem_of_mem hx
            rw [nxl] at hq
            have := nxv q hq
            rw [gd_lt (by rw [nxl]; exact hq), e] at this
            have l : rwNx (plusR rs n) q < (rwP (plusR rs n)).length := rwNx_lt (by rw [lenR]; exact hq)
            rw [lenR] at l
            omega
        have hA : ∀ p, p < 2 * n → fg (tbM (ahM rs 0)) p = rwAh (plusR rs n) p := fun p hp => by
          rw [tbM_get _ _ (fun x hx => ?_) (by rw [ahl]; exact hp)]
          · exact ahv p hp
          · obtain ⟨q, hq, e⟩ := List.getElem_of_mem hx
            rw [ahl] at hq
            have := ahv q hq
            rw [gd_lt (by rw [ahl]; exact hq), e] at this
            have l : rwAh (plusR rs n) q < (rwP (plusR rs n)).length := rwAh_lt (by rw [lenR]; exact hq)
            rw [lenR] at l
            omega
        have hV : ∀ p, p < 2 * n → fg (tbW rs.flatten 0) (rs.flatten.getD p 0) = p := fun p hp => by
          have := chV_get _ _ h3 p (by rw [lenP]; exact hp)
          rw [Nat.zero_add] at this
          exact this
        refine ⟨ok, ?_⟩
        have hT : ∀ w, w < 4 * n → rwT (plusR rs n) w < 4 * n ∧ fT (tbM rs.flatten) (tbM (nxM rs 0)) (tbM (ahM rs 0)) (tbW rs.flatten 0) w = rwT (plusR rs n) w := fun w hw => by
          refine ⟨?_, fT_eq ok hP hX hA hV w hw⟩
          have := rwT_lt ok (w := w) (by rw [lenR]; omega)
          rw [lenR] at this
          omega
        have f1 := (fC_faces hT (4 * n) (Nat.le_refl _)).1
        have u1 := (fU_parts hn ok hP hX (2 * n) (Nat.le_refl _)).1
        unfold rwPl rwFc rwParts rwPu
        rw [plus_n, lenR, show 2 * (2 * n) = 4 * n by omega, ← f1, ← u1]
        exact h4
end CHK
/-! other signs, other ways over: the same faces -/
section TPL
variable {R : Rw} {m : Nat}
theorem rwTurn_plen : (rwP (rwTurn m R)).length = (rwP R).length := by rw [rwTurn_P, List.length_map]
theorem rwTurn_Nx {p : Nat} (hp : p < (rwP R).length) : rwNx (rwTurn m R) p = rwNx R p ∧ rwAh (rwTurn m R) p = rwAh R p := by
  obtain ⟨i, j, hi, hj, e⟩ := rw_split hp
  have hi' : i < (rwTurn m R).1.length := by rw [rwTurn_len]; exact hi
  have hj' : j < rwL (rwTurn m R) i := by rw [rwTurn_L hi]; exact hj
  have a := rwNx_F hi' hj'
  have b := rwAh_F hi' hj'
  rw [rwTurn_F, rwTurn_L hi] at a b
  rw [e, rwNx_F hi hj, rwAh_F hi hj]
  exact ⟨a, b⟩
def rdl (m : Nat) (R : Rw) (c : Nat) : Nat := if m / 2 ^ c % 2 = 1 then (if R.2.getD c 0 = 1 then 1 else 3) else 0
def rrot (m : Nat) (R : Rw) (e : Nat) : Nat := 4 * (e / 4) + (e % 4 + rdl m R (e / 4)) % 4
theorem rwTurn_E (ok : rwOk R) {p : Nat} (hp : p < (rwP R).length) : rwE (rwTurn m R) p = (rwE R p + rdl m R ((rwP R).getD p 0 / 2)) % 4 ∧ (rwP (rwTurn m R)).getD p 0 / 2 = (rwP R).getD p 0 / 2 ∧ rwE R p < 4 := by
  have lt := ok.lt p (by rw [← ok.len]; exact hp)
  have eP : (rwP (rwTurn m R)).getD p 0 = rwTurnP m ((rwP R).getD p 0) := by rw [rwTurn_P, gd_map (z := 0) hp]
  have sg := ok.sg ((rwP R).getD p 0 / 2) (by omega)
  have eS : (rwTurn m R).2.getD ((rwP R).getD p 0 / 2) 0 = if m / 2 ^ ((rwP R).getD p 0 / 2) % 2 = 1 then - R.2.getD ((rwP R).getD p 0 / 2) 0 else R.2.getD ((rwP R).getD p 0 / 2) 0 := by
    show ((List.range (rwn R)).map _).getD _ 0 = _
    rw [gd_rmap (by omega)]
  unfold rwE rdl
  rw [eP]
  rcases rwTurnP_cases m ((rwP R).getD p 0) with ⟨a, b⟩ | ⟨a, b, c⟩
  · rw [a, eS, if_neg (show ¬ m / 2 ^ ((rwP R).getD p 0 / 2) % 2 = 1 by omega), if_neg (show ¬ m / 2 ^ ((rwP R).getD p 0 / 2) % 2 = 1 by omega)]
    refine ⟨?_, rfl, ?_⟩
    · (repeat' split) <;> rfl
    · (repeat' split) <;> decide
  · rw [b, eS, if_pos a, if_pos a, c]
    refine ⟨?_, rfl, ?_⟩
    · by_cases z : (rwP R).getD p 0 % 2 = 0
      · rw [if_neg (by omega), if_pos z]
        rcases sg with q | q
        · rw [q, if_neg (by decide), if_pos rfl]
        · rw [q, if_pos (by decide), if_neg (by decide)]
      · rw [if_pos (by omega), if_neg z]
        rcases sg with q | q
        · rw [q, if_pos rfl, if_pos rfl]
        · rw [q, if_neg (by decide), if_neg (by decide)]
    · (repeat' split) <;> decide
theorem rwTurn_IO (ok : rwOk R) {p : Nat} (hp : p < (rwP R).length) : rwI (rwTurn m R) p = rrot m R (rwI R p) ∧ rwO (rwTurn m R) p = rrot m R (rwO R p) := by
  obtain ⟨a, b, c⟩ := rwTurn_E (m := m) ok hp
  unfold rwI rwO rrot
  rw [a, b, show (4 * ((rwP R).getD p 0 / 2) + rwE R p) / 4 = (rwP R).getD p 0 / 2 by omega, show (4 * ((rwP R).getD p 0 / 2) + (rwE R p + 2) % 4) / 4 = (rwP R).getD p 0 / 2 by omega]
  constructor
  · congr 1; omega
  · congr 1; omega
theorem rwTurn_Lv (ok : rwOk R) {e : Nat} (he : e < 2 * (rwP R).length) : rwLv (rwTurn m R) (rrot m R e) = rwLv R e := by
  have ok' : rwOk (rwTurn m R) := rwTurn_ok ok
  obtain ⟨p, hp, h | h⟩ := rwIO_all ok he
  · rw [h, ← (rwTurn_IO ok hp).1, rwLv_I ok' (by rw [rwTurn_plen]; exact hp), rwLv_I ok hp, (rwTurn_Nx hp).2]
  · rw [h, ← (rwTurn_IO ok hp).2, rwLv_O ok' (by rw [rwTurn_plen]; exact hp), rwLv_O ok hp]
theorem rwTurn_T (ok : rwOk R) {w : Nat} (hw : w < 2 * (rwP R).length) : rwT (rwTurn m R) w = rwT R w := by
  have er : rwRe (rwTurn m R) w = rrot m R (rwRe R w) := by
    unfold rwRe
    split
    · have hp : w / 2 < (rwP R).length := by omega
      rw [(rwTurn_Nx hp).1, (rwTurn_IO ok (rwNx_lt hp)).1]
    · exact (rwTurn_IO ok (by omega)).2
  have lr := rwRe_lt ok hw
  have ln := ok.len
  unfold rwT
  rw [er, ← rwTurn_Lv (m := m) ok (e := 4 * (rwRe R w / 4) + (rwRe R w + 1) % 4) (by omega)]
  congr 1
  unfold rrot
  rw [show (4 * (rwRe R w / 4) + (rwRe R w + 1) % 4) / 4 = rwRe R w / 4 by omega, show (4 * (rwRe R w / 4) + (rwRe R w % 4 + rdl m R (rwRe R w / 4)) % 4) / 4 = rwRe R w / 4 by omega]
  congr 1
  omega
theorem rwWalk_cong {T T' : Nat → Nat} {N : Nat} (h : ∀ w, w < N → T w < N ∧ T' w = T w) : ∀ (f : Nat) (seen : List Nat) (w : Nat), w < N → rwWalk T' seen f w = rwWalk T seen f w := by
  intro f
  induction f with
  | zero => intro seen w _; rfl
  | succ f ih =>
    intro seen w hw
    unfold rwWalk
    split
    · rfl
    · rw [(h w hw).2, ih _ _ (h w hw).1]
theorem rwFs_cong {T T' : Nat → Nat} {N : Nat} (h : ∀ w, w < N → T w < N ∧ T' w = T w) : ∀ k, k ≤ N → rwFs T' N k = rwFs T N k := by
  intro k
  induction k with
  | zero => intro _; rfl
  | succ k ih =>
    intro hk
    unfold rwFs
    rw [ih (by omega), rwWalk_cong h _ _ _ (by omega)]
theorem rwTurn_pl (ok : rwOk R) (h : rwPl R) : rwPl (rwTurn m R) := by
  unfold rwPl rwFc rwParts rwPu at h ⊢
  have e : rwPp (rwTurn m R) (rwP (rwTurn m R)).length = rwPp R (rwP R).length := by
    unfold rwPp
    rw [rwTurn_plen]
    refine List.map_congr_left (fun k hk => ?_)
    have hk := List.mem_range.mp hk
    rw [(rwTurn_E (m := m) ok hk).2.1, (rwTurn_Nx hk).1, (rwTurn_E (m := m) ok (rwNx_lt hk)).2.1]
  rw [e, rwTurn_n, rwTurn_plen, rwFs_cong (T := rwT R) (fun w hw => ⟨rwT_lt ok hw, rwTurn_T ok hw⟩) _ (Nat.le_refl _)]
  exact h
end TPL

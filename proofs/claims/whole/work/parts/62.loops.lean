/-! loops of a state -/
theorem lv_re {R : Rw} (ok : rwOk R) {w : Nat} (hw : w < 2 * (rwP R).length) : rwLv R (rwRe R w) = w ^^^ 1 := by
  have x1 := xor1 w
  unfold rwRe
  by_cases h : w % 2 = 0
  · have b : w / 2 < (rwP R).length := by omega
    rw [if_pos h, rwLv_I ok (rwNx_lt b), rwAh_Nx b]; omega
  · rw [if_neg h, rwLv_O ok (by omega)]; omega
theorem re_lv {R : Rw} (ok : rwOk R) {x : Nat} (hx : x < 2 * (rwP R).length) : rwRe R (rwLv R x ^^^ 1) = x := by
  obtain ⟨p, hp, h | h⟩ := rwIO_all ok hx
  · have a := rwAh_lt hp
    have x1 := xor1 (2 * rwAh R p + 1)
    rw [h, rwLv_I ok hp, show (2 * rwAh R p + 1) ^^^ 1 = 2 * rwAh R p by omega]
    unfold rwRe
    rw [if_pos (by omega), show 2 * rwAh R p / 2 = rwAh R p by omega, rwNx_Ah hp]
  · have x1 := xor1 (2 * p)
    rw [h, rwLv_O ok hp, show (2 * p) ^^^ 1 = 2 * p + 1 by omega]
    unfold rwRe
    rw [if_neg (by omega), show (2 * p + 1) / 2 = p by omega]
/-- the end with which one is one in a state -/
def rwMt (s x : Nat) : Nat := 4 * (x / 4) + (if s / 2 ^ (x / 4) % 2 = 1 then 3 - x % 4 else if x % 2 = 0 then x % 4 + 1 else x % 4 - 1)
theorem rwMt_c (s x : Nat) : rwMt s x / 4 = x / 4 ∧ rwMt s (rwMt s x) = x ∧ rwMt s x ≠ x := by
  have e : rwMt s x / 4 = x / 4 := by
    unfold rwMt
    split
    · omega
    · split <;> omega
  refine ⟨e, ?_, ?_⟩
  · have h : rwMt s (rwMt s x) = 4 * (rwMt s x / 4) + (if s / 2 ^ (rwMt s x / 4) % 2 = 1 then 3 - rwMt s x % 4 else if rwMt s x % 2 = 0 then rwMt s x % 4 + 1 else rwMt s x % 4 - 1) := rfl
    rw [h, e]
    unfold rwMt
    by_cases h1 : s / 2 ^ (x / 4) % 2 = 1
    · rw [if_pos h1, if_pos h1]; omega
    · rw [if_neg h1, if_neg h1]
      by_cases h2 : x % 2 = 0
      · rw [if_pos h2, if_neg (by omega)]; omega
      · rw [if_neg h2, if_pos (by omega)]; omega
  · unfold rwMt
    split
    · omega
    · split <;> omega
theorem mt_code1 : ∀ x, x < 32 → x ^^^ 1 = 4 * (x / 4) + (if x % 2 = 0 then x % 4 + 1 else x % 4 - 1) := by decide
theorem mt_code3 : ∀ x, x < 32 → x ^^^ 3 = 4 * (x / 4) + (3 - x % 4) := by decide
def rwSi (R : Rw) (s w : Nat) : Nat := rwLv R (rwMt s (rwRe R w))
def rwEd (R : Rw) (x : Nat) : Nat := rwLv R x / 2
def rwPr (R : Rw) (s c : Nat) : List (Nat × Nat) := [(rwEd R (4 * c), rwEd R (rwMt s (4 * c))), (rwEd R (4 * c + 2), rwEd R (rwMt s (4 * c + 2)))]
def rwPs (R : Rw) (s m : Nat) : List (Nat × Nat) := (List.range m).flatMap (rwPr R s)
def rwUf (R : Rw) (s : Nat) : (Nat → Nat) × Nat := ufRun (rwP R).length (rwPs R s (rwn R))
def rwLoops (R : Rw) (s : Nat) : Nat := (rwUf R s).2 + rwLo R
theorem rwMt_lt {R : Rw} (ok : rwOk R) (s : Nat) {x : Nat} (hx : x < 2 * (rwP R).length) : rwMt s x < 2 * (rwP R).length := by
  have l := ok.len
  have := (rwMt_c s x).1
  omega
theorem rwEd_lt {R : Rw} (ok : rwOk R) {x : Nat} (hx : x < 2 * (rwP R).length) : rwEd R x < (rwP R).length := by
  have := rwLv_lt ok hx
  unfold rwEd
  omega
theorem rwPs_mem {R : Rw} (ok : rwOk R) {s m : Nat} (hm : m ≤ rwn R) {p : Nat × Nat} (hp : p ∈ rwPs R s m) : ∃ x, x < 2 * (rwP R).length ∧ p = (rwEd R x, rwEd R (rwMt s x)) := by
  have l := ok.len
  unfold rwPs at hp
  obtain ⟨c, hc, hp⟩ := List.mem_flatMap.mp hp
  have hc := List.mem_range.mp hc
  unfold rwPr at hp
  rcases List.mem_cons.mp hp with e | e
  · exact ⟨4 * c, by omega, e⟩
  · exact ⟨4 * c + 2, by omega, List.mem_singleton.mp e⟩
theorem rwPs_lt {R : Rw} (ok : rwOk R) {s m : Nat} (hm : m ≤ rwn R) : ∀ p, p ∈ rwPs R s m → p.1 < (rwP R).length ∧ p.2 < (rwP R).length := by
  intro p hp
  obtain ⟨x, hx, rfl⟩ := rwPs_mem ok hm hp
  exact ⟨rwEd_lt ok hx, rwEd_lt ok (rwMt_lt ok s hx)⟩
theorem rwUf_ok {R : Rw} (ok : rwOk R) (s : Nat) {m : Nat} (hm : m ≤ rwn R) : ufOk (rwP R).length (ufRun (rwP R).length (rwPs R s m)) := ufRun_ok _ _ (uf0_ok _) (rwPs_lt ok hm)
theorem rwEd_w {R : Rw} (ok : rwOk R) {w : Nat} (hw : w < 2 * (rwP R).length) : rwEd R (rwRe R w) = w / 2 := by
  unfold rwEd
  rw [lv_re ok hw, (xor1 w).1]
theorem rwUf_end {R : Rw} (ok : rwOk R) (s : Nat) {x : Nat} (hx : x < 2 * (rwP R).length) : (rwUf R s).1 (rwEd R x) = (rwUf R s).1 (rwEd R (rwMt s x)) := by
  have l := ok.len
  have c := rwMt_c s x
  have mem : ∀ y, y < 2 * (rwP R).length → (y % 4 = 0 ∨ y % 4 = 2) → (rwEd R y, rwEd R (rwMt s y)) ∈ rwPs R s (rwn R) := by
    intro y hy h
    unfold rwPs
    refine List.mem_flatMap.mpr ⟨y / 4, List.mem_range.mpr (by omega), ?_⟩
    unfold rwPr
    rcases h with h | h
    · rw [show 4 * (y / 4) = y by omega]; exact List.mem_cons_self
    · rw [show 4 * (y / 4) + 2 = y by omega]; exact List.mem_cons_of_mem _ (List.mem_singleton.mpr rfl)
  by_cases h : x % 4 = 0 ∨ x % 4 = 2
  · exact ufRun_pair _ _ _ (mem x hx h)
  · have h2 : rwMt s x % 4 = 0 ∨ rwMt s x % 4 = 2 := by
      unfold rwMt
      split
      · omega
      · split <;> omega
    have := ufRun_pair (rwPs R s (rwn R)) (fun k => k, (rwP R).length) _ (mem _ (rwMt_lt ok s hx) h2)
    rw [c.2.1] at this
    exact this.symm
theorem rwSi_lt {R : Rw} (ok : rwOk R) (s : Nat) {w : Nat} (hw : w < 2 * (rwP R).length) : rwSi R s w < 2 * (rwP R).length := rwLv_lt ok (rwMt_lt ok s (rwRe_lt ok hw))
theorem rwLoops_eq {R : Rw} (ok : rwOk R) (s : Nat) : (lpF (rwSi R s) (rwP R).length (rwP R).length).2.length = (rwUf R s).2 := by
  have hmin : ∀ f : Nat → Nat, (∀ w, w < 2 * (rwP R).length → f (w / 2) = f (rwSi R s w / 2)) → ∀ j k, j < (rwP R).length → k < (rwP R).length → (rwUf R s).1 j = (rwUf R s).1 k → f j = f k := by
    intro f hf
    refine ufRun_min (N := (rwP R).length) _ _ (fun j k _ _ h => congrArg f h) (fun p hp => ?_)
    obtain ⟨x, hx, rfl⟩ := rwPs_mem ok (Nat.le_refl _) hp
    refine ⟨rwEd_lt ok hx, rwEd_lt ok (rwMt_lt ok s hx), ?_⟩
    have h1 := rwLv_lt ok hx
    have x1 := xor1 (rwLv R x)
    have := hf (rwLv R x ^^^ 1) (by omega)
    unfold rwSi at this
    rw [re_lv ok hx, x1.1] at this
    exact this
  obtain ⟨h1, h2, h3, h4, h5, h6⟩ := lpF_count (sg := rwSi R s) (lab := (rwUf R s).1) (N := (rwP R).length) (fun w hw => rwSi_lt ok s hw) (fun w hw => by
      unfold rwSi
      rw [re_lv ok (rwMt_lt ok s (rwRe_lt ok hw)), (rwMt_c s _).2.1, lv_re ok hw]) (fun w hw h => by
      unfold rwSi at h
      rw [← lv_re ok hw] at h
      have hx := rwRe_lt ok hw
      have q1 := re_lv ok (rwMt_lt ok s hx)
      rw [h, re_lv ok hx] at q1
      exact (rwMt_c s _).2.2 q1.symm) (fun w hw => by
      rw [← rwEd_w ok hw, rwUf_end ok s (rwRe_lt ok hw)]
      rfl) hmin (rwP R).length (Nat.le_refl _)
  exact ufCount (rwUf_ok ok s (Nat.le_refl _)) h3 h4 (fun k hk => (h5 k hk).mp (h6 k hk))
section LOA
variable {xs : Nat → Int32} {Lx d : Nat} {V : km_V} {t r a : Nat} {R : Rw}
theorem sp_loopsOf {s : Nat} {K : Int → km_V → Prop} (ht : km_sh[t]? = some (2, 11)) (hr : km_sh[r]? = some (5, 5)) (hR : kRC V r R) (ok : rwOk R) (hE : kDE V t R) (hs : s < 256) (k : K (rwLoops R s : Int) V) : kCI xs Lx (d + 1) 35 10 [.ref t, .ref r, kI s] V K := by
  have o1 := ok.1
  have o2 := ok.2.1
  have o3 := ok.len
  have hlo : rwLo R ≤ 4 := by
    unfold rwLo
    have := List.countP_le_length (p := fun (l : List Nat) => l.length == 0) (l := R.1)
    omega
  refine b35_0 ht hr (sp_loose hr hR ok (fun z hz => ?_))
  have hz : z = ((rwP R).length : Int) := by rw [hz, hR.2.1]; omega
  subst hz
  have sglt : ∀ w, w < 2 * (rwP R).length → rwSi R s w < 2 * (rwP R).length := fun w hw => rwSi_lt ok s hw
  have nd : ∀ k, k ≤ (rwP R).length → (lpF (rwSi R s) (rwP R).length k).1.Nodup ∧ (∀ x, x ∈ (lpF (rwSi R s) (rwP R).length k).1 → x < (rwP R).length) := by
    intro k
    induction k with
    | zero => intro _; exact ⟨List.nodup_nil, fun x hx => absurd hx List.not_mem_nil⟩
    | succ k ih =>
      intro hk
      obtain ⟨h1, h2⟩ := ih (by omega)
      unfold lpF
      by_cases hm : k ∈ (lpF (rwSi R s) (rwP R).length k).1
      · rw [if_pos hm]; exact ⟨h1, h2⟩
      · rw [if_neg hm]
        have hll := nodup_le _ _ h1 h2
        obtain ⟨m, -, q1, q2, q3, -, -⟩ := lpW_it (sg := rwSi R s) (N := (rwP R).length) (w0 := 2 * k) (G := (lpF (rwSi R s) (rwP R).length k).1) sglt (by omega) ((rwP R).length - (lpF (rwSi R s) (rwP R).length k).1.length) 0 (by omega) (by rw [List.range_zero, List.map_nil, List.append_nil]; exact h1) (by rw [List.range_zero, List.map_nil, List.append_nil]; exact h2) (by show 2 * k < _; omega)
        rw [List.range_zero, List.map_nil, List.append_nil, List.nil_append] at q1
        have q1 : lpW (rwSi R s) ((rwP R).length - (lpF (rwSi R s) (rwP R).length k).1.length) (lpF (rwSi R s) (rwP R).length k).1 (2 * k) = _ := q1
        dsimp only
        rw [q1]
        exact ⟨q2, q3⟩
  have sl : ∀ k, (lpF (rwSi R s) (rwP R).length k).2.length ≤ k := by
    intro k
    induction k with
    | zero => exact Nat.le_refl _
    | succ k ih =>
      unfold lpF
      split
      · omega
      · dsimp only; rw [List.length_append, List.length_singleton]; omega
  suffices H : ∀ c, c ≤ (rwP R).length → ∀ m : Nat, m < 2 ^ 16 → (∀ i, i < 16 → (m / 2 ^ i % 2 = 1 ↔ i ∈ (lpF (rwSi R s) (rwP R).length c).1)) → kGo xs Lx (d + 1) 35 17 [some (.ref t), none, some (kI s), some (kI (((lpF (rwSi R s) (rwP R).length c).2.length + rwLo R : Nat) : Int)), some (kI ((rwP R).length : Int)), some (kI (m : Int)), some (kI (c : Int)), none, none, none] [] V (fun r V' => ∃ x, r = some (kI x) ∧ K x V') from by
    have := H 0 (Nat.zero_le _) 0 (by decide) (fun i _ => by simp [lpF])
    have e : (((lpF (rwSi R s) (rwP R).length 0).2.length + rwLo R : Nat) : Int) = (rwLo R : Int) := by
      show ((0 + rwLo R : Nat) : Int) = _
      rw [Nat.zero_add]
    rw [e] at this
    exact this
  refine kloop0 (rwP R).length _ ?_ (fun c hc ih => ?_)
  · intro m hm hb
    refine b35_17 ht ⟨by omega, by omega, fun _ => ⟨_, rfl, ?_⟩, fun h => by omega⟩
    rw [rwLoops_eq ok s]
    exact k
  · intro m hm hb
    obtain ⟨n1, n2⟩ := nd c (by omega)
    have k1 := kc_div m c
    have hbc := hb c (by omega)
    have slc := sl c
    generalize hG : lpF (rwSi R s) (rwP R).length c = G at *
    refine b35_17 ht ⟨by omega, by omega, fun h => by omega, fun h => ⟨by omega, by omega, by rw [tn, k1]; omega, fun h => ?_, fun h => ?_⟩⟩
    · have hnm : c ∉ G.1 := fun z => by rw [tn, k1, hbc.mpr z] at h; exact h rfl
      have hnx : lpF (rwSi R s) (rwP R).length (c + 1) = (G.1 ++ lpW (rwSi R s) ((rwP R).length - G.1.length) G.1 (2 * c), G.2 ++ [c]) := by
        show (if c ∈ (lpF (rwSi R s) (rwP R).length c).1 then _ else _) = _
        rw [hG, if_neg hnm]
      rw [hnx] at ih
      dsimp only at ih
      rw [List.length_append (bs := [c]), List.length_singleton] at ih
      have fin : ∀ (u : List Nat) (w m : Nat), u ++ lpW (rwSi R s) ((rwP R).length - (G.1 ++ u).length) (G.1 ++ u) w = lpW (rwSi R s) ((rwP R).length - G.1.length) G.1 (2 * c) → lpW (rwSi R s) ((rwP R).length - (G.1 ++ u).length) (G.1 ++ u) w = [] → m < 2 ^ 16 → (∀ i, i < 16 → (m / 2 ^ i % 2 = 1 ↔ i ∈ G.1 ++ u)) → kGo xs Lx (d + 1) 35 17 [some (.ref t), none, some (kI s), some (kI (((G.2.length + rwLo R : Nat) : Int) + 1)), some (kI ((rwP R).length : Int)), some (kI (m : Int)), some (kI ((c : Int) + 1)), none, none, none] [] V (fun r V' => ∃ x, r = some (kI x) ∧ K x V') := by
        intro u w m hu hnil hm hb
        rw [hnil, List.append_nil] at hu
        rw [← hu] at ih
        have := ih m hm hb
        rw [show G.2.length + 1 + rwLo R = G.2.length + rwLo R + 1 by omega] at this
        exact this
      suffices H : ∀ (n : Nat) (u : List Nat) (w m : Nat), n + u.length = (rwP R).length → w < 2 * (rwP R).length → u ++ lpW (rwSi R s) ((rwP R).length - (G.1 ++ u).length) (G.1 ++ u) w = lpW (rwSi R s) ((rwP R).length - G.1.length) G.1 (2 * c) → (G.1 ++ u).Nodup → (∀ x, x ∈ G.1 ++ u → x < (rwP R).length) → m < 2 ^ 16 → (∀ i, i < 16 → (m / 2 ^ i % 2 = 1 ↔ i ∈ G.1 ++ u)) →
          kGo xs Lx (d + 1) 35 47 [some (.ref t), none, some (kI s), some (kI ((G.2.length + rwLo R : Nat) : Int)), some (kI ((rwP R).length : Int)), some (kI (m : Int)), some (kI (c : Int)), some (kI (w : Int)), some (kI (u.length : Int)), none] [] V (fun r V' => ∃ x, r = some (kI x) ∧ K x V') from
        H (rwP R).length [] (2 * c) m rfl (by omega) (by rw [List.append_nil, List.nil_append]) (by rw [List.append_nil]; exact n1) (by rw [List.append_nil]; exact n2) hm (by rw [List.append_nil]; exact hb)
      clear h hm hb k1 hbc
      intro n
      induction n with
      | zero =>
        intro u w m hn hw hu hnd hlt hm hb
        refine b35_47 ht ⟨by omega, by omega, fun _ => fin u w m hu ?_ hm hb, fun h => by omega⟩
        have hz : (rwP R).length - (G.1 ++ u).length = 0 := by rw [List.length_append]; omega
        rw [hz]
        rfl
      | succ n ihn =>
        intro u w m hn hw hu hnd hlt hm hb
        have e2 : Int.toNat ((w : Int) / 2) = w / 2 := rfl
        have k1 := kc_div m (w / 2)
        have hbw := hb (w / 2) (by omega)
        refine b35_47 ht ⟨by omega, by omega, fun h => by omega, fun h => ⟨by omega, by omega, by omega, by rw [e2, k1]; omega, fun h => ?_, fun h => ?_⟩⟩
        · have hm2 : w / 2 ∈ G.1 ++ u := by
            rw [e2, k1] at h
            exact hbw.mp (by omega)
          refine fin u w m hu ?_ hm hb
          cases (rwP R).length - (G.1 ++ u).length with
          | zero => rfl
          | succ f => unfold lpW; rw [if_pos hm2]
        · have hm2 : w / 2 ∉ G.1 ++ u := fun z => by rw [e2, k1, hbw.mpr z] at h; exact absurd h (by decide)
          have hnd2 := nodup_app1 hnd hm2
          have hlt2 : ∀ x, x ∈ (G.1 ++ u) ++ [w / 2] → x < (rwP R).length := fun x hx => by
            rcases List.mem_append.mp hx with e | e
            · exact hlt x e
            · rw [List.mem_singleton.mp e]; omega
          have hll := nodup_le _ _ hnd2 hlt2
          rw [List.length_append (bs := [w / 2]), List.length_singleton] at hll
          obtain ⟨f, hf⟩ : ∃ f, (rwP R).length - (G.1 ++ u).length = f + 1 := ⟨(rwP R).length - (G.1 ++ u).length - 1, by omega⟩
          have hf2 : (rwP R).length - ((G.1 ++ u) ++ [w / 2]).length = f := by rw [List.length_append (bs := [w / 2]), List.length_singleton]; omega
          have hw1 : lpW (rwSi R s) (f + 1) (G.1 ++ u) w = (w / 2) :: lpW (rwSi R s) f (G.1 ++ u ++ [w / 2]) (rwSi R s w) := by
            show (if w / 2 ∈ G.1 ++ u then _ else _) = _
            rw [if_neg hm2]
          rw [hf, hw1] at hu
          have r1 := hE.2.2.2 w hw
          have r2 := rwRe_lt ok hw
          have e3 : Int.toNat ((rwRe R w : Int) / 4) = rwRe R w / 4 := rfl
          have k2 := kc_div s (rwRe R w / 4)
          have next := ihn (u ++ [w / 2]) (rwSi R s w) (m ||| 2 ^ (w / 2)) (by rw [List.length_append, List.length_singleton]; omega) (sglt w hw) (by rw [← List.append_assoc, hf2, ← hu, List.append_assoc]; rfl) (by rw [← List.append_assoc]; exact hnd2) (by rw [← List.append_assoc]; exact hlt2) (bor_lt hm (by omega)) (fun i hi => by
            rw [bor_bit, hb i hi, ← List.append_assoc, List.mem_append (s := G.1 ++ u) (t := [w / 2]), List.mem_singleton])
          rw [List.length_append (as := u), List.length_singleton] at next
          have r3 := hE.2.2.1 (rwMt s (rwRe R w)) (rwMt_lt ok s r2)
          simp only [tn, e2, one_pow]
          refine ⟨by omega, one_pow0 _, fun z1 hz1 => ⟨by omega, fun z2 hz2 => ?_⟩⟩
          rw [r1] at hz2
          subst hz1 hz2
          simp only [e3, k2, tn]
          refine ⟨by omega, by omega, by omega, by omega, fun h5 => ?_, fun h5 => ?_⟩
          · have em : rwRe R w ^^^ Int.toNat 1 = rwMt s (rwRe R w) := by
              show rwRe R w ^^^ 1 = _
              have h6 : ¬ s / 2 ^ (rwRe R w / 4) % 2 = 1 := by omega
              rw [mt_code1 _ (by omega)]
              unfold rwMt
              rw [if_neg h6]
            have := rwMt_lt ok s r2
            simp only [em, tn, r3]
            refine ⟨by omega, by omega, fun z3 hz3 => ?_⟩
            subst hz3
            exact next
          · have em : rwRe R w ^^^ Int.toNat 3 = rwMt s (rwRe R w) := by
              show rwRe R w ^^^ 3 = _
              have h6 : s / 2 ^ (rwRe R w / 4) % 2 = 1 := by omega
              rw [mt_code3 _ (by omega)]
              unfold rwMt
              rw [if_pos h6]
            have := rwMt_lt ok s r2
            simp only [em, tn, r3]
            refine ⟨by omega, by omega, fun z3 hz3 => ?_⟩
            subst hz3
            exact next
    · have hmm : c ∈ G.1 := hbc.mp (by rw [tn, k1] at h; omega)
      have hnx : lpF (rwSi R s) (rwP R).length (c + 1) = G := by
        show (if c ∈ (lpF (rwSi R s) (rwP R).length c).1 then _ else _) = _
        rw [hG, if_pos hmm]
      rw [hnx] at ih
      exact ih m hm hb
end LOA
def kUf (V : km_V) (N : Nat) (lab : Nat → Nat) : Prop := ∀ k, k < N → V 322 k = (lab k : Int)
theorem ufOk_pos {N : Nat} {s : (Nat → Nat) × Nat} (h : ufOk N s) {x : Nat} (hx : x < N) : 1 ≤ s.2 := by
  rw [h.2]
  have := h.1 x hx
  exact List.countP_pos_iff.mpr ⟨s.1 x, List.mem_range.mpr this.1, beq_iff_eq.mpr this.2⟩
section LOB
variable {xs : Nat → Int32} {Lx d : Nat} {V : km_V} {a : Nat} {R : Rw}
theorem sp_joins {N x y : Nat} {s : (Nat → Nat) × Nat} {K : Int → km_V → Prop} (hU : kUf V N s.1) (ho : ufOk N s) (hN : N ≤ 16) (hx : x < N) (hy : y < N) (k : ∀ W, kUf W N (ufStep s (x, y)).1 → (∀ b j, b ≠ 322 → W b j = V b j) → K ((s.2 : Int) - ((ufStep s (x, y)).2 : Int)) W) : kCI xs Lx (d + 0) 163 7 [.ref 299, kI x, kI y, kI (N : Int)] V K := by
  have a1 := ho.1 x hx
  have b1 := ho.1 y hy
  have p1 := ufOk_pos ho hx
  refine b163_0 ?_
  simp only [tn, hU x hx, hU y hy]
  refine ⟨by omega, fun z1 h1 => ⟨by omega, fun z2 h2 => ?_⟩⟩
  subst h1 h2
  refine ⟨by omega, by omega, fun h => ?_, fun h => ⟨_, rfl, ?_⟩⟩
  · have hne : ¬ s.1 x = s.1 y := by omega
    have es : ufStep s (x, y) = (ufJ s.1 x y, s.2 - 1) := by unfold ufStep; rw [if_neg hne]
    rw [es] at k
    dsimp only at k
    refine kloop N (fun m W => (∀ k, k < N → W 322 k = if k < m then (ufJ s.1 x y k : Int) else (s.1 k : Int)) ∧ (∀ b j, b ≠ 322 → W b j = V b j)) (fun m W => kGo xs Lx (d + 0) 163 28 [some (.ref 299), none, none, some (kI (N : Int)), some (kI (s.1 x : Int)), some (kI (s.1 y : Int)), some (kI (m : Int))] [] W _) (fun W ⟨g1, g2⟩ => ?_) (fun m W hm ⟨g1, g2⟩ ih => ?_) 0 V (Nat.zero_le _) ⟨fun k hk => by rw [if_neg (by omega)]; exact hU k hk, fun _ _ _ => rfl⟩
    · refine b163_28 ⟨by omega, by omega, fun _ => ⟨_, rfl, ?_⟩, fun h => by omega⟩
      have := k W (fun j hj => by rw [g1 j hj, if_pos hj]) g2
      rwa [show (s.2 : Int) - ((s.2 - 1 : Nat) : Int) = 1 by omega] at this
    · have w1 : W 322 m = (s.1 m : Int) := by rw [g1 m hm, if_neg (by omega)]
      have c1 := ho.1 m hm
      have jm : ufJ s.1 x y m = if s.1 m = s.1 x then s.1 y else s.1 m := rfl
      refine b163_28 ⟨by omega, by omega, fun h => by omega, fun h => ?_⟩
      simp only [tn, w1]
      refine ⟨by omega, by omega, by omega, fun h5 => ih W ⟨fun j hj => ?_, g2⟩, fun h5 => ih _ ⟨fun j hj => ?_, fun b j hb => by rw [up_ne (by omega)]; exact g2 b j hb⟩⟩
      · rw [g1 j hj]
        by_cases e : j = m
        · subst e
          rw [if_neg (by omega), if_pos (by omega), jm, if_neg (by omega)]
        · by_cases e2 : j < m
          · rw [if_pos e2, if_pos (by omega)]
          · rw [if_neg e2, if_neg (by omega)]
      · by_cases e : j = m
        · subst e
          rw [up_at, if_pos (by omega), jm, if_pos (by omega)]
        · rw [up_ne (by omega), g1 j hj]
          by_cases e2 : j < m
          · rw [if_pos e2, if_pos (by omega)]
          · rw [if_neg e2, if_neg (by omega)]
  · have he : s.1 x = s.1 y := by omega
    have es : ufStep s (x, y) = s := by unfold ufStep; rw [if_pos he]
    rw [es] at k
    have := k V hU (fun _ _ _ => rfl)
    rwa [show (s.2 : Int) - (s.2 : Int) = 0 by omega] at this
theorem sp_mloose {K : Int → km_V → Prop} (ha : km_sh[a]? = some (11, 78)) (hR : kRf (V a) R) (ok : rwOk R) (k : K (rwLo R : Int) V) : kCI xs Lx (d + 0) 193 3 [.ref a] V K := by
  obtain ⟨h1, h2, h3, h4, h5⟩ := hR
  have o1 := ok.1
  refine b193_0 ha ?_
  refine kloop0 R.1.length (fun c => kGo xs Lx (d + 0) 193 4 [some (.ref a), some (kI (((R.1.take c).countP (fun l => l.length == 0) : Nat) : Int)), some (kI (c : Int))] [] V _) ?_ (fun c hc ih => ?_) 0 (Nat.zero_le _)
  · refine b193_4 ha ⟨by omega, by simp only [tn0]; omega, fun _ => ⟨_, rfl, ?_⟩, fun h => by simp only [tn0] at h; omega⟩
    rw [List.take_length]
    exact k
  · have e1 := h3 c hc
    have hl := rwL_le ok hc
    have e5 : (R.1.take (c + 1)).countP (fun l => l.length == 0) = (R.1.take c).countP (fun l => l.length == 0) + (if rwL R c = 0 then 1 else 0) := by
      rw [take_gd [] hc, List.countP_append]
      unfold rwL rwR
      simp [List.countP_cons]
    rw [e5] at ih
    refine b193_4 ha ⟨by omega, by simp only [tn0]; omega, fun h => by simp only [tn0] at h; omega, fun h => ⟨by omega, by rw [tn_2, e1]; omega, fun h => ?_, fun h => ?_⟩⟩
    · rw [tn_2, e1] at h
      rw [if_neg (by omega)] at ih
      exact ih
    · rw [tn_2, e1] at h
      rw [if_pos (by omega)] at ih
      exact ih
theorem rwPs_succ (R : Rw) (s m : Nat) : rwPs R s (m + 1) = rwPs R s m ++ rwPr R s m := by
  unfold rwPs
  rw [List.range_succ, List.flatMap_append]
  simp
theorem khas_eq (b c : Nat) : khas (b : Int) (c : Int) = if b / 2 ^ c % 2 = 1 then 1 else 0 := by
  unfold khas
  rw [tn, kc_div]
  by_cases h : b / 2 ^ c % 2 = 1
  · rw [if_pos (by omega), if_pos h]
  · rw [if_neg (by omega), if_neg h]
theorem sp_mloopsOf {s : Nat} {K : Int → km_V → Prop} (ha : km_sh[a]? = some (11, 78)) (ha2 : ¬ (313 ≤ a ∧ a ≤ 318) ∧ a ≠ 322) (hR : kRf (V a) R) (ok : rwOk R) (hE : kME V R) (hs : s < 256) (k : ∀ W, (∀ b j, b ≠ 322 → W b j = V b j) → K (rwLoops R s : Int) W) : kCI xs Lx (d + 1) 194 7 [.ref 299, .ref a, kI s] V K := by
  have o1 := ok.1
  have o2 := ok.2.1
  have o3 := ok.len
  have h25 := hE.1
  refine b194_0 ha ?_
  rw [h25]
  refine kloop (rwP R).length (fun m W => (∀ k, k < m → W 322 k = (k : Int)) ∧ (∀ b j, b ≠ 322 → W b j = V b j)) (fun m W => kGo xs Lx (d + 1) 194 8 [some (.ref 299), some (.ref a), some (kI s), some (kI ((rwP R).length : Int)), some (kI (m : Int)), none, none] [] W _) (fun W ⟨g1, g2⟩ => ?_) (fun m W hm ⟨g1, g2⟩ ih => ?_) 0 V (Nat.zero_le _) ⟨fun k hk => by omega, fun _ _ _ => rfl⟩
  · have q : W 299 25 = _ := (g2 _ _ (by omega)).trans h25
    refine b194_8 ha ⟨by omega, by omega, fun _ => ?_, fun h => by omega⟩
    refine kloop (rwn R) (fun c W => kUf W (rwP R).length (ufRun (rwP R).length (rwPs R s c)).1 ∧ (∀ b j, b ≠ 322 → W b j = V b j)) (fun c W => kGo xs Lx (d + 1) 194 35 [some (.ref 299), some (.ref a), some (kI s), some (kI ((ufRun (rwP R).length (rwPs R s c)).2 : Int)), some (kI (c : Int)), none, none] [] W _) (fun W ⟨g1, g2⟩ => ?_) (fun c W hc ⟨g1, g2⟩ ih => ?_) 0 W (Nat.zero_le _) ⟨fun k hk => g1 k hk, g2⟩
    · have e1 : W a 1 = _ := (g2 _ _ (by omega)).trans hR.2.1
      have hRW : kRf (W a) R := hR.fr ok (fun j _ => g2 a j (by omega))
      refine b194_35 ha ⟨by omega, by simp only [tnn1]; omega, fun _ => sp_mloose ha hRW ok ⟨_, rfl, k W g2⟩, fun h => by simp only [tnn1] at h; omega⟩
    · have e1 : W a 1 = _ := (g2 _ _ (by omega)).trans hR.2.1
      have q : W 299 25 = _ := (g2 _ _ (by omega)).trans h25
      have u0 := rwUf_ok ok s (show c ≤ rwn R by omega)
      have ed : ∀ x, x < 2 * (rwP R).length → W 317 x = (rwEd R x : Int) := fun x hx => by rw [g2 _ _ (by omega)]; exact (hE.2.2 x hx).1
      have hx0 : 4 * c < 2 * (rwP R).length := by omega
      have hx2 : 4 * c + 2 < 2 * (rwP R).length := by omega
      have m0 := rwMt_lt ok s hx0
      have m2 := rwMt_lt ok s hx2
      have er : ufRun (rwP R).length (rwPs R s (c + 1)) = ufStep (ufStep (ufRun (rwP R).length (rwPs R s c)) (rwEd R (4 * c), rwEd R (rwMt s (4 * c)))) (rwEd R (4 * c + 2), rwEd R (rwMt s (4 * c + 2))) := by
        unfold ufRun
        rw [rwPs_succ, List.foldl_append]
        rfl
      rw [er] at ih
      generalize ufRun (rwP R).length (rwPs R s c) = S at *
      have u1 := ufStep_ok (p := (rwEd R (4 * c), rwEd R (rwMt s (4 * c)))) u0 (rwEd_lt ok hx0) (rwEd_lt ok m0)
      have t0 : Int.toNat (4 * (c : Int)) = 4 * c := rfl
      have t1 : Int.toNat (4 * (c : Int) + 1) = 4 * c + 1 := rfl
      have t2 : Int.toNat (4 * (c : Int) + 2) = 4 * c + 2 := rfl
      have t3 : Int.toNat (4 * (c : Int) + 3) = 4 * c + 3 := rfl
      have mt0 : rwMt s (4 * c) = if s / 2 ^ c % 2 = 1 then 4 * c + 3 else 4 * c + 1 := by
        unfold rwMt
        rw [show 4 * c / 4 = c by omega]
        by_cases h : s / 2 ^ c % 2 = 1
        · rw [if_pos h, if_pos h]; omega
        · rw [if_neg h, if_neg h, if_pos (by omega)]; omega
      have mt2 : rwMt s (4 * c + 2) = if s / 2 ^ c % 2 = 1 then 4 * c + 1 else 4 * c + 3 := by
        unfold rwMt
        rw [show (4 * c + 2) / 4 = c by omega]
        by_cases h : s / 2 ^ c % 2 = 1
        · rw [if_pos h, if_pos h]; omega
        · rw [if_neg h, if_neg h, if_pos (by omega)]; omega
      have kh := khas_eq s c
      have khr : kR (khas (s : Int) (c : Int)) := by rw [kh]; split <;> omega
      refine b194_35 ha ⟨by omega, by simp only [tnn1]; omega, fun h => by simp only [tnn1] at h; omega, fun h => ⟨by omega, by omega, khr, fun h6 => ?_, fun h6 => ?_⟩⟩
      · have h7 : ¬ s / 2 ^ c % 2 = 1 := fun z => by rw [kh, if_pos z] at h6; omega
        rw [if_neg h7] at mt0 mt2
        rw [mt0] at ih u1 m0
        rw [mt2] at ih m2
        rw [t0, t1, ed _ hx0, ed _ m0, q]
        refine ⟨by omega, sp_joins g1 u0 (by omega) (rwEd_lt ok hx0) (rwEd_lt ok m0) (fun W1 j1 f1 => ?_)⟩
        rw [t2, t3, f1 _ _ (by omega), f1 _ _ (by omega), f1 _ _ (by omega), ed _ hx2, ed _ m2, q]
        refine ⟨by omega, by omega, sp_joins j1 u1 (by omega) (rwEd_lt ok hx2) (rwEd_lt ok m2) (fun W2 j2 f2 z hz => ?_)⟩
        have hz : z = ((ufStep (ufStep S (rwEd R (4 * c), rwEd R (4 * c + 1))) (rwEd R (4 * c + 2), rwEd R (4 * c + 3))).2 : Int) := by omega
        subst hz
        exact ih W2 ⟨j2, fun b j hb => by rw [f2 b j hb, f1 b j hb]; exact g2 b j hb⟩
      · have h7 : s / 2 ^ c % 2 = 1 := by
          apply Classical.byContradiction
          intro z
          rw [kh, if_neg z] at h6
          exact h6 rfl
        rw [if_pos h7] at mt0 mt2
        rw [mt0] at ih u1 m0
        rw [mt2] at ih m2
        rw [t0, t3, ed _ hx0, ed _ m0, q]
        refine ⟨by omega, sp_joins g1 u0 (by omega) (rwEd_lt ok hx0) (rwEd_lt ok m0) (fun W1 j1 f1 => ?_)⟩
        rw [t2, t1, f1 _ _ (by omega), f1 _ _ (by omega), f1 _ _ (by omega), ed _ hx2, ed _ m2, q]
        refine ⟨by omega, by omega, sp_joins j1 u1 (by omega) (rwEd_lt ok hx2) (rwEd_lt ok m2) (fun W2 j2 f2 z hz => ?_)⟩
        have hz : z = ((ufStep (ufStep S (rwEd R (4 * c), rwEd R (4 * c + 3))) (rwEd R (4 * c + 2), rwEd R (4 * c + 1))).2 : Int) := by omega
        subst hz
        exact ih W2 ⟨j2, fun b j hb => by rw [f2 b j hb, f1 b j hb]; exact g2 b j hb⟩
  · have q : W 299 25 = _ := (g2 _ _ (by omega)).trans h25
    refine b194_8 ha ⟨by omega, by omega, fun h => by omega, fun h => ⟨by omega, ih _ ⟨fun k hk => ?_, fun b j hb => by rw [up_ne (by omega)]; exact g2 b j hb⟩⟩⟩
    simp only [tn]
    by_cases e : k = m
    · subst e; rw [up_at]
    · rw [up_ne (by omega)]; exact g1 k (by omega)
end LOB

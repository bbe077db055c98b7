/-! one ring in place of another; passes set; a kink; -/
theorem rwSet_split {R : Rw} {i : Nat} (h : i < R.1.length) (l : List Nat) : (R.1.set i l).flatten = (R.1.take i).flatten ++ (l ++ (R.1.drop (i + 1)).flatten) := by
  rw [List.set_eq_take_append_cons_drop, if_pos h, List.flatten_append, List.flatten_cons]
theorem rwP_split {R : Rw} {i : Nat} (h : i < R.1.length) : rwP R = (R.1.take i).flatten ++ (rwR R i ++ (R.1.drop (i + 1)).flatten) := by
  have := rwSet_split h (rwR R i)
  unfold rwP
  rw [← this]
  unfold rwR
  rw [gd_lt h, List.set_getElem_self]
theorem rwF_set {R : Rw} {i k : Nat} (h : i < R.1.length) (l : List Nat) (sg : List Int) (hk : k ≤ R.1.length) : rwF (R.1.set i l, sg) k = if k ≤ i then rwF R k else rwF R k - rwL R i + l.length := by
  unfold rwF
  dsimp only
  by_cases hk : k ≤ i
  · rw [if_pos hk]
    have e : (R.1.set i l).take k = R.1.take k := by
      rw [List.take_set, List.set_eq_of_length_le (by rw [List.length_take]; omega)]
    rw [e]
  · rw [if_neg hk]
    have h1 : i < (R.1.take k).length := by rw [List.length_take]; omega
    have e1 := rwSet_split (R := (R.1.take k, sg)) (i := i) h1 l
    have e2 := rwP_split (R := (R.1.take k, sg)) (i := i) h1
    have e3 : rwR (R.1.take k, sg) i = rwR R i := by
      unfold rwR
      exact gd_take (by omega)
    rw [e3] at e2
    dsimp only at e1
    rw [← List.take_set] at e1
    unfold rwP at e2
    dsimp only at e2
    rw [e1, e2]
    simp only [List.length_append]
    unfold rwL
    omega
theorem rwR_set {R : Rw} {i k : Nat} (h : i < R.1.length) (l : List Nat) (sg : List Int) : rwR (R.1.set i l, sg) k = if k = i then l else rwR R k := by
  unfold rwR
  exact gd_set h
def rwCurl (e : Nat) (ov : Bool) (pl : Bool) (R : Rw) : Rw :=
  (R.1.set (rwAt R.1 e).1 ((rwR R (rwAt R.1 e).1).take ((rwAt R.1 e).2 + 1) ++ ([2 * rwn R + (if ov then 1 else 0), 2 * rwn R + (if ov then 0 else 1)] ++ (rwR R (rwAt R.1 e).1).drop ((rwAt R.1 e).2 + 1))), R.2 ++ [if pl then 1 else -1])
theorem rwCurl_n (e : Nat) (ov pl : Bool) (R : Rw) : rwn (rwCurl e ov pl R) = rwn R + 1 := by
  unfold rwCurl rwn
  simp
theorem rwCurl_len (e : Nat) (ov pl : Bool) (R : Rw) : (rwCurl e ov pl R).1.length = R.1.length := by
  unfold rwCurl
  simp
theorem rwCurl_P {e : Nat} {R : Rw} (he : e < (rwP R).length) (ov pl : Bool) : rwP (rwCurl e ov pl R) = (rwP R).take (e + 1) ++ ([2 * rwn R + (if ov then 1 else 0), 2 * rwn R + (if ov then 0 else 1)] ++ (rwP R).drop (e + 1)) := by
  obtain ⟨i, j, hi, hj, rfl⟩ := rw_split he
  unfold rwCurl
  rw [rwAt_F hi hj]
  dsimp only
  have e1 := rwP_split hi
  show (List.set _ _ _).flatten = _
  rw [rwSet_split hi, e1]
  have hF : rwF R i = (R.1.take i).flatten.length := rfl
  rw [hF, Nat.add_assoc, List.take_length_add_append, List.drop_length_add_append]
  have h2 : j + 1 ≤ (rwR R i).length := hj
  rw [List.take_append_of_le_length h2, List.drop_append_of_le_length h2]
  simp only [List.append_assoc]
theorem rwCurl_F {e k : Nat} {R : Rw} (he : e < (rwP R).length) (ov pl : Bool) (hk : k ≤ R.1.length) : rwF (rwCurl e ov pl R) k = if e < rwF R k then rwF R k + 2 else rwF R k := by
  obtain ⟨i, j, hi, hj, rfl⟩ := rw_split he
  unfold rwCurl
  rw [rwAt_F hi hj]
  dsimp only
  rw [rwF_set hi _ _ hk]
  have h2 : j + 1 ≤ (rwR R i).length := hj
  by_cases h : k ≤ i
  · have := rwF_le (R := R) h (by omega)
    rw [if_pos h, if_neg (by omega)]
  · have h3 := rwF_le (show i + 1 ≤ k by omega) hk
    rw [rwF_succ hi] at h3
    have h4 : rwF R i + j < rwF R k := by omega
    rw [if_neg h]
    simp only [List.length_append, List.length_take, List.length_drop, List.length_cons, List.length_nil, if_pos h4]
    unfold rwL at h3 hj ⊢
    omega
theorem range_two (n : Nat) : List.range (2 * (n + 1)) = List.range (2 * n) ++ [2 * n, 2 * n + 1] := by
  rw [show 2 * (n + 1) = 2 * n + 1 + 1 by omega, List.range_succ, List.range_succ, List.append_assoc]
  rfl
theorem rwCurl_ok {e : Nat} {R : Rw} (h : rwOk R) (he : e < (rwP R).length) (ov pl : Bool) (hn : rwn R < 8) : rwOk (rwCurl e ov pl R) := by
  obtain ⟨h1, h2, h3, h4⟩ := h
  refine ⟨by rw [rwCurl_len]; exact h1, by rw [rwCurl_n]; omega, ?_, ?_⟩
  · rw [rwCurl_n, range_two, rwCurl_P he]
    have p1 : ((rwP R).take (e + 1) ++ ([2 * rwn R + (if ov then 1 else 0), 2 * rwn R + (if ov then 0 else 1)] ++ (rwP R).drop (e + 1))).Perm (((rwP R).take (e + 1) ++ (rwP R).drop (e + 1)) ++ [2 * rwn R + (if ov then 1 else 0), 2 * rwn R + (if ov then 0 else 1)]) := by
      rw [List.append_assoc]
      exact List.Perm.append_left _ List.perm_append_comm
    rw [List.take_append_drop] at p1
    refine p1.trans (List.Perm.append h3 ?_)
    cases ov
    · exact List.Perm.refl _
    · exact List.Perm.swap _ _ _
  · intro s hs
    unfold rwCurl at hs
    dsimp only at hs
    rcases List.mem_append.mp hs with h | h
    · exact h4 s h
    · have := List.mem_singleton.mp h
      cases pl
      · right; exact this
      · left; exact this
section RWE
variable {xs : Nat → Int32} {Lx d : Nat} {V : km_V} {t : Nat} {R : Rw}
theorem sp_curl {e : Nat} {ov pl : Bool} {K : km_V → Prop} (ht : km_sh[t]? = some (5, 5)) (hR : kRC V t R) (ok : rwOk R) (he : e < (rwP R).length) (hn : rwn R < 8) (k : ∀ W, kRC W t (rwCurl e ov pl R) → (∀ a j, ¬ (t ≤ a ∧ a ≤ t + 3) → W a j = V a j) → K W) : kCV xs Lx (d + 1) 70 5 [.ref t, kI e, kI (if ov then 1 else 0), kI (if pl then 1 else 0)] V K := by
  obtain ⟨h1, h2, h3, h4, h5⟩ := hR
  have o1 := ok.1
  have o2 := ok.2.1
  have o3 := ok.len
  refine b70_0 ht (fun z hz => ?_)
  have hz : z = (((rwP R).length - 1 - 0 : Nat) : Int) := by omega
  subst hz
  refine kloop ((rwP R).length - 1 - e) (fun c W => (∀ a j, a ≠ t + 2 → W a j = V a j) ∧ (∀ p, p < (rwP R).length - c → W (t + 2) p = ((rwP R).getD p 0 : Int)) ∧ (∀ p, p < (rwP R).length → (rwP R).length - c ≤ p → W (t + 2) (p + 2) = ((rwP R).getD p 0 : Int)))
    (fun c W => kGo xs Lx (d + 1) 70 8 [some (.ref t), some (kI e), some (kI (if ov then 1 else 0)), some (kI (if pl then 1 else 0)), some (kI (((rwP R).length - 1 - c : Nat) : Int))] [] W _) (fun W ⟨f1, f2, f3⟩ => ?_) (fun c W hc ⟨f1, f2, f3⟩ ih => ?_) 0 V (Nat.zero_le _) ⟨fun _ _ _ => rfl, fun p hp => h4 p (by omega), fun p hp hq => by omega⟩
  · have g1 : W t 1 = (rwn R : Int) := by rw [f1 t 1 (by omega)]; exact h2
    -- the two new passes
    have fin : ∀ W1, (∀ a j, a ≠ t + 2 → W1 a j = V a j) → (∀ p, p < (rwP R).length + 2 → W1 (t + 2) p = ((rwP (rwCurl e ov pl R)).getD p 0 : Int)) → kGo xs Lx (d + 1) 70 87 [some (.ref t), some (kI e), none, some (kI (if pl then 1 else 0)), some (kI 1)] [] W1 (fun r V' => r = none ∧ K V') := by
      intro W1 a1 a2
      refine kloop (R.1.length + 1) (fun c W' => (∀ a j, ¬ (a = t + 2 ∨ a = t + 1) → W' a j = V a j) ∧ (∀ p, p < (rwP R).length + 2 → W' (t + 2) p = ((rwP (rwCurl e ov pl R)).getD p 0 : Int)) ∧ (∀ i, i ≤ R.1.length → W' (t + 1) i = if i < c then (rwF (rwCurl e ov pl R) i : Int) else (rwF R i : Int)))
        (fun c W' => kGo xs Lx (d + 1) 70 87 [some (.ref t), some (kI e), none, some (kI (if pl then 1 else 0)), some (kI (c : Int))] [] W' _) (fun W' ⟨g1, g2, g3⟩ => ?_) (fun c W' hc ⟨g1, g2, g3⟩ ih => ?_) 1 W1 (by omega) ⟨fun a j ha => a1 a j (by omega), a2, fun i hi => ?_⟩
      · have e0 : W' t 0 = (R.1.length : Int) := by rw [g1 t 0 (by omega)]; exact h1
        have e1 : W' t 1 = (rwn R : Int) := by rw [g1 t 1 (by omega)]; exact h2
        have done : ∀ x : Int, x = (if pl then 1 else -1) → K (up (up W' (t + 3) (rwn R) x) t 1 ((rwn R : Int) + 1)) := by
          intro x hx
          refine k _ ⟨?_, ?_, fun i hi => ?_, fun p hp => ?_, fun c hc => ?_⟩ (fun a j ha => ?_)
          · rw [up_ne (by omega), up_ne (by omega), rwCurl_len]; exact e0
          · rw [up_at, rwCurl_n]; rfl
          · rw [rwCurl_len] at hi
            rw [up_ne (by omega), up_ne (by omega), g3 i hi, if_pos (by omega)]
          · rw [rwCurl_P he] at hp
            simp only [List.length_append, List.length_take, List.length_drop, List.length_cons, List.length_nil] at hp
            rw [up_ne (by omega), up_ne (by omega), g2 p (by omega)]
          · rw [rwCurl_n] at hc
            rw [up_ne (by omega)]
            unfold rwCurl
            dsimp only
            by_cases e' : c = rwn R
            · subst e'
              rw [up_at, gd_appr (show R.2.length ≤ rwn R from Nat.le_refl _), hx]
              unfold rwn
              rw [Nat.sub_self]
              rfl
            · rw [up_ne (by omega), gd_appl (by unfold rwn at hc e'; omega), g1 _ _ (by omega)]
              exact h5 c (by omega)
          · rw [up_ne (by omega), up_ne (by omega), g1 a j (by omega)]
        have e2 : ∀ x : Int, up W' (t + 3) (rwn R) x t 1 = (rwn R : Int) := fun x => by rw [up_ne (by omega)]; exact e1
        refine b70_87 ht ⟨by omega, by omega, fun _ => ⟨by cases pl <;> decide, fun hx => ?_, fun hx => ?_⟩, fun h => by omega⟩
        · simp only [e1, tn, e2]
          refine ⟨by omega, True.intro, done _ ?_⟩
          cases pl
          · rfl
          · exact absurd hx (by decide)
        · simp only [e1, tn, e2]
          refine ⟨by omega, True.intro, done _ ?_⟩
          cases pl
          · exact absurd rfl hx
          · rfl
      · have e0 : W' t 0 = (R.1.length : Int) := by rw [g1 t 0 (by omega)]; exact h1
        have e1 := g3 c (by omega)
        rw [if_neg (by omega)] at e1
        have e2 := rwCurl_F he ov pl (show c ≤ R.1.length by omega)
        have e3 := rwF_le (show c ≤ R.1.length by omega) (Nat.le_refl _)
        rw [rwF_all] at e3
        have upd : ∀ x : Int, x = (rwF (rwCurl e ov pl R) c : Int) → (∀ a j, ¬ (a = t + 2 ∨ a = t + 1) → up W' (t + 1) c x a j = V a j) ∧ (∀ p, p < (rwP R).length + 2 → up W' (t + 1) c x (t + 2) p = ((rwP (rwCurl e ov pl R)).getD p 0 : Int)) ∧ (∀ i, i ≤ R.1.length → up W' (t + 1) c x (t + 1) i = if i < c + 1 then (rwF (rwCurl e ov pl R) i : Int) else (rwF R i : Int)) := by
          intro x hx
          refine ⟨fun a j ha => by rw [up_ne (by omega)]; exact g1 a j ha, fun p hp => by rw [up_ne (by omega)]; exact g2 p hp, fun i hi => ?_⟩
          by_cases e : i = c
          · subst e; rw [up_at, if_pos (by omega), hx]
          · rw [up_ne (by omega), g3 i hi]
            by_cases e' : i < c
            · rw [if_pos e', if_pos (by omega)]
            · rw [if_neg e', if_neg (by omega)]
        refine b70_87 ht ⟨by omega, by omega, fun h => by omega, fun h => ⟨by omega, by rw [tn]; omega, by omega, fun h => ?_, fun h => ?_⟩⟩
        · rw [tn] at h
          refine ih _ (upd _ ?_)
          rw [if_neg (by omega)] at e2
          rw [tn]; omega
        · rw [tn] at h
          refine ih _ (upd _ ?_)
          rw [if_pos (by omega)] at e2
          rw [tn]; omega
      · by_cases e' : i < 1
        · have : i = 0 := by omega
          subst this
          rw [if_pos e', a1 _ _ (by omega), h3 0 (by omega), rwCurl_F he ov pl (by omega), rwF_zero, if_neg (by omega)]
        · rw [if_neg e', a1 _ _ (by omega), h3 i hi]
    have P' := rwCurl_P he ov pl
    have body : ∀ x y : Int, x = ((2 * rwn R + (if ov then 1 else 0) : Nat) : Int) → y = ((2 * rwn R + (if ov then 0 else 1) : Nat) : Int) → kGo xs Lx (d + 1) 70 87 [some (.ref t), some (kI e), none, some (kI (if pl then 1 else 0)), some (kI 1)] [] (up (up W (t + 2) (e + 1) x) (t + 2) (e + 2) y) (fun r V' => r = none ∧ K V') := by
      intro x y hx hy
      refine fin _ (fun a j ha => by rw [up_ne (by omega), up_ne (by omega)]; exact f1 a j ha) (fun p hp => ?_)
      rw [P']
      have el : ((rwP R).take (e + 1)).length = e + 1 := by rw [List.length_take]; omega
      by_cases q1 : p = e + 2
      · subst q1
        rw [up_at, gd_appr (by omega), el, show e + 2 - (e + 1) = 1 by omega, hy]; rfl
      · rw [up_ne (by omega)]
        by_cases q2 : p = e + 1
        · subst q2
          rw [up_at, gd_appr (by omega), el, Nat.sub_self, hx]; rfl
        · rw [up_ne (by omega)]
          by_cases q3 : p ≤ e
          · rw [gd_appl (by omega), gd_take (by omega)]
            exact f2 p (by omega)
          · obtain ⟨q, rfl⟩ : ∃ q, p = q + 2 := ⟨p - 2, by omega⟩
            rw [f3 q (by omega) (by omega), gd_appr (by omega), el, show q + 2 - (e + 1) = (q - (e + 1)) + 1 + 1 by omega, List.cons_append, gd_cons, List.cons_append, gd_cons, List.nil_append, gd_drop, show e + 1 + (q - (e + 1)) = q by omega]
    have e1 : Int.toNat ((e : Int) + 2) = e + 2 := rfl
    have e2 : ∀ x : Int, up W (t + 2) (e + 1) x t 1 = (rwn R : Int) := fun x => by rw [up_ne (by omega)]; exact g1
    refine b70_8 ht ⟨by omega, by omega, fun _ => ⟨by cases ov <;> decide, fun hx => ?_, fun hx => ?_⟩, fun h => by omega⟩
    · simp only [tn1, e1, g1, e2]
      refine ⟨by omega, by omega, body _ _ ?_ ?_⟩ <;> cases ov
      · rfl
      · exact absurd hx (by decide)
      · rfl
      · exact absurd hx (by decide)
    · simp only [tn1, e1, g1, e2]
      refine ⟨by omega, by omega, body _ _ ?_ ?_⟩ <;> cases ov
      · exact absurd rfl hx
      · rfl
      · exact absurd rfl hx
      · rfl
  · have e1 : Int.toNat ((((rwP R).length - 1 - c : Nat) : Int) + 2) = (rwP R).length - 1 - c + 2 := rfl
    have e2 : (((rwP R).length - 1 - c : Nat) : Int) + (-1) = (((rwP R).length - 1 - (c + 1) : Nat) : Int) := by omega
    refine b70_8 ht ⟨by omega, by omega, fun h => by omega, fun h => ?_⟩
    simp only [tn, e1, e2]
    refine ⟨by omega, by omega, ih _ ⟨fun a j ha => by rw [up_ne (by omega)]; exact f1 a j ha, fun p hp => by rw [up_ne (by omega)]; exact f2 p (by omega), fun p hp hq => ?_⟩⟩
    by_cases e' : p = (rwP R).length - 1 - c
    · subst e'; rw [up_at]; exact f2 _ (by omega)
    · rw [up_ne (by omega)]; exact f3 p hp (by omega)
end RWE

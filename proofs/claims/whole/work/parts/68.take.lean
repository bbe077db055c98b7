/-! one knot more, joined to the first ring -/
def rwTake (R S : Rw) : Rw := ((rwR R 0 ++ (rwR S 0).map (· + 2 * rwn R)) :: (R.1.drop 1 ++ (S.1.drop 1).map (List.map (· + 2 * rwn R))), R.2 ++ S.2)
def rwCan (R S : Rw) : Prop := 0 < R.1.length ∧ 0 < S.1.length ∧ R.1.length + S.1.length ≤ 5 ∧ rwn R + rwn S ≤ 8
theorem rwTake_n (R S : Rw) : rwn (rwTake R S) = rwn R + rwn S := List.length_append
theorem rwTake_len {R S : Rw} (c : rwCan R S) : (rwTake R S).1.length = R.1.length + S.1.length - 1 := by
  unfold rwCan at c
  unfold rwTake
  rw [List.length_cons, List.length_append, List.length_map, List.length_drop, List.length_drop]
  omega
theorem rwTake_r0 (R S : Rw) : rwR (rwTake R S) 0 = rwR R 0 ++ (rwR S 0).map (· + 2 * rwn R) := rfl
theorem rwTake_ri {R S : Rw} {i : Nat} (hi : i < R.1.length) (h0 : i ≠ 0) : rwR (rwTake R S) i = rwR R i := by
  match i, h0 with
  | i + 1, _ =>
    unfold rwTake rwR
    rw [gd_cons, gd_appl (by rw [List.length_drop]; omega), gd_drop]
    congr 1; omega
theorem rwTake_rj {R S : Rw} {k : Nat} (h : 0 < R.1.length) (hk : 0 < k) (hk2 : k < S.1.length) : rwR (rwTake R S) (R.1.length + k - 1) = (rwR S k).map (· + 2 * rwn R) := by
  match k, hk with
  | k + 1, _ =>
    rw [show R.1.length + (k + 1) - 1 = (R.1.length - 1 + k) + 1 by omega]
    unfold rwTake rwR
    rw [gd_cons, gd_appr (by rw [List.length_drop]; omega), List.length_drop, show R.1.length - 1 + k - (R.1.length - 1) = k by omega, gd_map (z := []) (by rw [List.length_drop]; omega), gd_drop]
    congr 2; omega
theorem cons_drop {R : Rw} (h : 0 < R.1.length) : R.1 = rwR R 0 :: R.1.drop 1 := by
  have e : R.1.drop 0 = R.1[0] :: R.1.drop (0 + 1) := List.drop_eq_getElem_cons h
  rw [List.drop_zero] at e
  unfold rwR
  rw [gd_lt h]
  exact e
theorem rwTake_P {R S : Rw} : rwP (rwTake R S) = (rwR R 0 ++ (rwR S 0).map (· + 2 * rwn R)) ++ ((R.1.drop 1).flatten ++ ((S.1.drop 1).flatten).map (· + 2 * rwn R)) := by
  unfold rwTake rwP
  rw [List.flatten_cons, List.flatten_append, List.map_flatten]
theorem rwTake_ok {R S : Rw} (ok : rwOk R) (okS : rwOk S) (c : rwCan R S) : rwOk (rwTake R S) := by
  have c' := c
  unfold rwCan at c
  refine ⟨by rw [rwTake_len c']; omega, by rw [rwTake_n]; omega, ?_, fun s hs => ?_⟩
  · have pR : rwP R = rwR R 0 ++ (R.1.drop 1).flatten := by
      unfold rwP
      conv => lhs; rw [cons_drop c.1]
      rfl
    have pS : rwP S = rwR S 0 ++ (S.1.drop 1).flatten := by
      unfold rwP
      conv => lhs; rw [cons_drop c.2.1]
      rfl
    rw [rwTake_P, rwTake_n]
    have q1 : ((rwR R 0 ++ (rwR S 0).map (· + 2 * rwn R)) ++ ((R.1.drop 1).flatten ++ ((S.1.drop 1).flatten).map (· + 2 * rwn R))).Perm (rwP R ++ (rwP S).map (· + 2 * rwn R)) := by
      rw [pR, pS, List.map_append, List.append_assoc, List.append_assoc]
      refine List.Perm.append_left _ ?_
      rw [← List.append_assoc, ← List.append_assoc]
      exact List.Perm.append_right _ List.perm_append_comm
    refine q1.trans ?_
    have q2 : List.range (2 * (rwn R + rwn S)) = List.range (2 * rwn R) ++ (List.range (2 * rwn S)).map (· + 2 * rwn R) := by
      rw [Nat.mul_add, List.range_add]
      congr 1
      exact List.map_congr_left (fun x _ => Nat.add_comm _ _)
    rw [q2]
    exact List.Perm.append ok.2.2.1 (okS.2.2.1.map _)
  · rcases List.mem_append.mp hs with h | h
    · exact ok.2.2.2 s h
    · exact okS.2.2.2 s h
theorem rwTake_s {R S : Rw} {c : Nat} : (rwTake R S).2.getD c 0 = if c < rwn R then R.2.getD c 0 else S.2.getD (c - rwn R) 0 := by
  unfold rwTake
  by_cases h : c < rwn R
  · rw [if_pos h]; exact gd_appl h
  · rw [if_neg h]; exact gd_appr (Nat.le_of_not_lt h)
theorem rwTake_l0 (R S : Rw) : rwL (rwTake R S) 0 = rwL R 0 + rwL S 0 := by
  unfold rwL
  rw [rwTake_r0, List.length_append, List.length_map]
/-- where the rings begin -/
theorem rwTake_F1 {R S : Rw} (c : rwCan R S) : ∀ i, 0 < i → i ≤ R.1.length → rwF (rwTake R S) i = rwF R i + rwL S 0 := by
  have l := rwTake_len c
  have c' := c
  unfold rwCan at c
  intro i
  induction i with
  | zero => intro h; omega
  | succ i ih =>
    intro _ hi
    rw [rwF_succ (by omega), rwF_succ (R := R) (by omega)]
    by_cases e : i = 0
    · subst e
      rw [rwF_zero, rwF_zero, rwTake_l0]; omega
    · have q : rwL (rwTake R S) i = rwL R i := by unfold rwL; rw [rwTake_ri (by omega) e]
      rw [ih (by omega) (by omega), q]; omega
theorem rwTake_F2 {R S : Rw} (ok : rwOk R) (c : rwCan R S) : ∀ k, 0 < k → k ≤ S.1.length → rwF (rwTake R S) (R.1.length + k - 1) = 2 * rwn R + rwF S k := by
  have l := rwTake_len c
  have c' := c
  unfold rwCan at c
  intro k
  induction k with
  | zero => intro h; omega
  | succ k ih =>
    intro _ hk
    by_cases e : k = 0
    · subst e
      rw [show R.1.length + (0 + 1) - 1 = R.1.length by omega, rwTake_F1 c' _ c.1 (Nat.le_refl _), rwF_all, ok.len, rwF_succ (R := S) (by omega), rwF_zero]
      omega
    · have q : rwL (rwTake R S) (R.1.length + k - 1) = rwL S k := by unfold rwL; rw [rwTake_rj c.1 (by omega) (by omega), List.length_map]
      rw [show R.1.length + (k + 1) - 1 = (R.1.length + k - 1) + 1 by omega, rwF_succ (by omega), ih (by omega) (by omega), q, rwF_succ (R := S) (by omega)]
      omega
/-- the pass at each place -/
theorem rwTake_at {R S : Rw} (ok : rwOk R) (okS : rwOk S) (c : rwCan R S) {p : Nat} (hp : p < 2 * (rwn R + rwn S)) : (rwP (rwTake R S)).getD p 0 = if p < rwL R 0 then (rwP R).getD p 0 else if p < rwL R 0 + rwL S 0 then (rwP S).getD (p - rwL R 0) 0 + 2 * rwn R else if p < 2 * rwn R + rwL S 0 then (rwP R).getD (p - rwL S 0) 0 else (rwP S).getD (p - 2 * rwn R) 0 + 2 * rwn R := by
  have pR : rwP R = rwR R 0 ++ (R.1.drop 1).flatten := by
    unfold rwP
    conv => lhs; rw [cons_drop c.1]
    rfl
  have pS : rwP S = rwR S 0 ++ (S.1.drop 1).flatten := by
    unfold rwP
    conv => lhs; rw [cons_drop c.2.1]
    rfl
  have l1 := ok.len
  have l2 := okS.len
  rw [pR, List.length_append] at l1
  rw [pS, List.length_append] at l2
  have a1 : (rwR R 0).length = rwL R 0 := rfl
  have a2 : (rwR S 0).length = rwL S 0 := rfl
  rw [rwTake_P, pR, pS]
  by_cases h1 : p < rwL R 0
  · rw [if_pos h1, gd_appl (by rw [List.length_append]; omega), gd_appl (by omega), gd_appl (by omega)]
  · rw [if_neg h1]
    by_cases h2 : p < rwL R 0 + rwL S 0
    · rw [if_pos h2, gd_appl (by rw [List.length_append, List.length_map]; omega), gd_appr (by omega), gd_map (z := 0) (by omega), gd_appl (by omega), a1]
    · rw [if_neg h2, gd_appr (by rw [List.length_append, List.length_map]; omega), List.length_append, List.length_map, a1, a2]
      by_cases h3 : p < 2 * rwn R + rwL S 0
      · rw [if_pos h3, gd_appl (by omega), gd_appr (by omega)]
        congr 1; omega
      · rw [if_neg h3, gd_appr (by omega), gd_map (z := 0) (by omega), gd_appr (l := rwR S 0) (by omega)]
        congr 2; omega
section TAK
variable {xs : Nat → Int32} {Lx d : Nat} {V : km_V} {t u : Nat} {R S : Rw}
theorem sp_take {K : km_V → Prop} (ht : km_sh[t]? = some (5, 5)) (hu : km_sh[u]? = some (5, 5)) (ap : u + 3 < t ∨ t + 3 < u) (hR : kRC V t R) (hS : kRC V u S) (ok : rwOk R) (okS : rwOk S) (c : rwCan R S) (k : ∀ W, kRC W t (rwTake R S) → (∀ b j, ¬ (t ≤ b ∧ b ≤ t + 3) → W b j = V b j) → K W) : kCV xs Lx (d + 1) 75 6 [.ref t, .ref u] V K := by
  obtain ⟨h1, h2, h3, h4, h5⟩ := id hR
  obtain ⟨g1, g2, g3, g4, g5⟩ := id hS
  have o3 := ok.len
  have oS3 := okS.len
  have cc := c
  unfold rwCan at c
  have a1 : rwF R 1 = rwL R 0 := by rw [rwF_succ (R := R) (i := 0) c.1, rwF_zero, Nat.zero_add]
  have b1 : rwF S 1 = rwL S 0 := by rw [rwF_succ (R := S) (i := 0) c.2.1, rwF_zero, Nat.zero_add]
  have a2 := rwF_end (R := R) (i := 0) c.1
  have b2 := rwF_end (R := S) (i := 0) c.2.1
  have la := rwTake_len cc
  have tk := rwTake_n R S
  rw [rwF_zero] at a2 b2
  generalize ha : rwL R 0 = a at *
  generalize hb : rwL S 0 = b at *
  have f1 : V (t + 1) 1 = (a : Int) := by rw [h3 1 (by omega), a1]
  have f2 : V (u + 1) 1 = (b : Int) := by rw [g3 1 (by omega), b1]
  refine b75_0 ht hu (fun z1 hz1 z2 hz2 z3 hz3 => ?_)
  rw [show Int.toNat 1 = 1 from rfl] at hz1 hz2
  rw [f1] at hz1
  rw [f2] at hz2
  rw [h2] at hz3
  subst hz1 hz2 hz3
  rw [h2]
  have key := kloop (2 * rwn R - a) (fun m W => (∀ p, p < 2 * rwn R - m → W (t + 2) p = ((rwP R).getD p 0 : Int)) ∧ (∀ p, 2 * rwn R - m ≤ p → p < 2 * rwn R → W (t + 2) (p + b) = ((rwP R).getD p 0 : Int)) ∧ (∀ c j, c ≠ t + 2 → W c j = V c j)) (fun m W => kGo xs Lx (d + 1) 75 25 [some (.ref t), some (.ref u), some (kI (2 * (rwn R : Int))), some (kI (a : Int)), some (kI (b : Int)), some (kI (2 * (rwn R : Int) - 1 - (m : Int)))] [] W (fun r V' => r = none ∧ K V')) (fun W ⟨q1, q2, q3⟩ => ?_) (fun m W hm ⟨q1, q2, q3⟩ ih => ?_) 0 V (Nat.zero_le _) ⟨fun p hp => h4 p (by omega), fun p hp hp2 => by omega, fun _ _ _ => rfl⟩
  · rw [show 2 * (rwn R : Int) - 1 - ((0 : Nat) : Int) = 2 * (rwn R : Int) - 1 by omega] at key
    exact key
  · -- the other's passes
    refine b75_25 ht hu ⟨by omega, by omega, fun _ => ?_, fun h => by omega⟩
    refine kloop (2 * rwn S) (fun m X => (∀ p, p < a → X (t + 2) p = ((rwP R).getD p 0 : Int)) ∧ (∀ p, a ≤ p → p < 2 * rwn R → X (t + 2) (p + b) = ((rwP R).getD p 0 : Int)) ∧ (∀ p, p < m → X (t + 2) (if p < b then a + p else 2 * rwn R + p) = ((rwP S).getD p 0 : Int) + 2 * (rwn R : Int)) ∧ (∀ c j, c ≠ t + 2 → X c j = V c j)) (fun m X => kGo xs Lx (d + 1) 75 57 [some (.ref t), some (.ref u), some (kI (2 * (rwn R : Int))), some (kI (a : Int)), some (kI (b : Int)), some (kI (m : Int))] [] X _) (fun X ⟨r1, r2, r3, r4⟩ => ?_) (fun m X hm ⟨r1, r2, r3, r4⟩ ih => ?_) 0 W (Nat.zero_le _) ⟨fun p hp => q1 p (by omega), fun p hp hp2 => q2 p (by omega) hp2, fun p hp => by omega, q3⟩
    · have e2 : X u 1 = (rwn S : Int) := (r4 _ _ (by omega)).trans g2
      refine b75_57 ht hu ⟨by omega, by omega, fun _ => ?_, fun h => by omega⟩
      -- the first starts
      refine kloop (R.1.length + 1) (fun m Y => 1 ≤ m ∧ (∀ i, i ≤ R.1.length → Y (t + 1) i = if 0 < i ∧ i < m then (rwF R i : Int) + (b : Int) else (rwF R i : Int)) ∧ (∀ c j, c ≠ t + 1 → Y c j = X c j)) (fun m Y => kGo xs Lx (d + 1) 75 112 [some (.ref t), some (.ref u), some (kI (2 * (rwn R : Int))), none, some (kI (b : Int)), some (kI (m : Int))] [] Y _) (fun Y ⟨_, s1, s2⟩ => ?_) (fun m Y hm ⟨hm1, s1, s2⟩ ih => ?_) 1 X (by omega) ⟨Nat.le_refl _, fun i hi => by rw [if_neg (by omega), r4 _ _ (by omega)]; exact h3 i hi, fun _ _ _ => rfl⟩
      · have e3 : Y t 0 = (R.1.length : Int) := by rw [s2 _ _ (by omega), r4 _ _ (by omega)]; exact h1
        refine b75_112 ht hu ⟨by omega, by omega, fun _ => ?_, fun h => by omega⟩
        refine kloop S.1.length (fun m Z => 1 ≤ m ∧ (∀ i, i ≤ R.1.length → Z (t + 1) i = if 0 < i then (rwF R i : Int) + (b : Int) else (rwF R i : Int)) ∧ (∀ i, 0 < i → i < m → Z (t + 1) (R.1.length + i) = 2 * (rwn R : Int) + (rwF S (i + 1) : Int)) ∧ (∀ c j, c ≠ t + 1 → Z c j = X c j)) (fun m Z => kGo xs Lx (d + 1) 75 142 [some (.ref t), some (.ref u), some (kI (2 * (rwn R : Int))), none, none, some (kI (m : Int))] [] Z _) (fun Z ⟨_, u1, u2, u3⟩ => ?_) (fun m Z hm ⟨hm1, u1, u2, u3⟩ ih => ?_) 1 Y (by omega) ⟨Nat.le_refl _, fun i hi => by
          rw [s1 i hi]
          by_cases z : 0 < i
          · rw [if_pos z, if_pos (by omega)]
          · rw [if_neg z, if_neg (by omega)], fun i hi hi2 => by omega, s2⟩
        · have e4 : Z u 0 = (S.1.length : Int) := by rw [u3 _ _ (by omega), r4 _ _ (by omega)]; exact g1
          refine b75_142 ht hu ⟨by omega, by omega, fun _ => ?_, fun h => by omega⟩
          -- the signs
          refine kloop (rwn S) (fun m A => (∀ i, i < rwn R → A (t + 3) i = R.2.getD i 0) ∧ (∀ i, i < m → A (t + 3) (rwn R + i) = S.2.getD i 0) ∧ (∀ c j, c ≠ t + 3 → A c j = Z c j)) (fun m A => kGo xs Lx (d + 1) 75 183 [some (.ref t), some (.ref u), none, none, none, some (kI (m : Int))] [] A _) (fun A ⟨v1, v2, v3⟩ => ?_) (fun m A hm ⟨v1, v2, v3⟩ ih => ?_) 0 Z (Nat.zero_le _) ⟨fun i hi => by rw [u3 _ _ (by omega), r4 _ _ (by omega)]; exact h5 i hi, fun i hi => by omega, fun _ _ _ => rfl⟩
          · have e5 : A u 1 = (rwn S : Int) := by rw [v3 _ _ (by omega), u3 _ _ (by omega), r4 _ _ (by omega)]; exact g2
            have e6 : A u 0 = (S.1.length : Int) := by rw [v3 _ _ (by omega), u3 _ _ (by omega), r4 _ _ (by omega)]; exact g1
            have e7 : A t 1 = (rwn R : Int) := by rw [v3 _ _ (by omega), u3 _ _ (by omega), r4 _ _ (by omega)]; exact h2
            have e8 : A t 0 = (R.1.length : Int) := by rw [v3 _ _ (by omega), u3 _ _ (by omega), r4 _ _ (by omega)]; exact h1
            refine b75_183 ht hu ⟨by omega, by omega, fun _ => ⟨rfl, ?_⟩, fun h => by omega⟩
            refine k _ ⟨?_, ?_, fun i hi => ?_, fun p hp => ?_, fun q hq => ?_⟩ (fun c j hc => ?_)
            · rw [up_ne (by omega), up_at, e8, e6, la]; omega
            · rw [up_at, up_ne (by omega), up_ne (by omega), e7, e5, tk]; omega
            · rw [la] at hi
              rw [up_ne (by omega), up_ne (by omega), v3 _ _ (by omega)]
              by_cases z : i ≤ R.1.length
              · rw [u1 i z]
                by_cases z0 : 0 < i
                · rw [if_pos z0, rwTake_F1 cc i z0 z, hb]; omega
                · have : i = 0 := by omega
                  subst this
                  rw [if_neg z0]; rfl
              · have e := u2 (i - R.1.length) (by omega) (by omega)
                rw [show R.1.length + (i - R.1.length) = i by omega] at e
                rw [e]
                have q := rwTake_F2 ok cc (i - R.1.length + 1) (by omega) (by omega)
                rw [show R.1.length + (i - R.1.length + 1) - 1 = i by omega] at q
                rw [q]; omega
            · have lp := (rwTake_ok ok okS cc).len
              rw [tk] at lp
              rw [up_ne (by omega), up_ne (by omega), v3 _ _ (by omega), u3 _ _ (by omega), rwTake_at ok okS cc (by omega), ha, hb]
              by_cases z1 : p < a
              · rw [if_pos z1]; exact r1 p z1
              · rw [if_neg z1]
                by_cases z2 : p < a + b
                · rw [if_pos z2]
                  have e := r3 (p - a) (by omega)
                  rw [if_pos (by omega), show a + (p - a) = p by omega] at e
                  rw [e]; omega
                · rw [if_neg z2]
                  by_cases z3 : p < 2 * rwn R + b
                  · rw [if_pos z3]
                    have e := r2 (p - b) (by omega) (by omega)
                    rw [show p - b + b = p by omega] at e
                    exact e
                  · rw [if_neg z3]
                    have e := r3 (p - 2 * rwn R) (by omega)
                    rw [if_neg (by omega), show 2 * rwn R + (p - 2 * rwn R) = p by omega] at e
                    rw [e]; omega
            · rw [tk] at hq
              rw [up_ne (by omega), up_ne (by omega), rwTake_s]
              by_cases z : q < rwn R
              · rw [if_pos z]; exact v1 q z
              · rw [if_neg z]
                have e := v2 (q - rwn R) (by omega)
                rw [show rwn R + (q - rwn R) = q by omega] at e
                exact e
            · rw [up_ne (by omega), up_ne (by omega), v3 _ _ (by omega), u3 _ _ (by omega), r4 _ _ (by omega)]
          · have e5 : A u 1 = (rwn S : Int) := by rw [v3 _ _ (by omega), u3 _ _ (by omega), r4 _ _ (by omega)]; exact g2
            have e7 : A t 1 = (rwn R : Int) := by rw [v3 _ _ (by omega), u3 _ _ (by omega), r4 _ _ (by omega)]; exact h2
            have e9 : A (u + 3) m = S.2.getD m 0 := by rw [v3 _ _ (by omega), u3 _ _ (by omega), r4 _ _ (by omega)]; exact g5 m hm
            refine b75_183 ht hu ?_
            have n1 : Int.toNat ((rwn R : Int) + (m : Int)) = rwn R + m := by omega
            rw [e5, e7, n1, tn, e9]
            refine ⟨by omega, by omega, fun h => by omega, fun _ => ⟨by omega, by omega, ih _ ⟨fun i hi => ?_, fun i hi => ?_, fun c j hc => by rw [up_ne (by omega)]; exact v3 c j hc⟩⟩⟩
            · rw [up_ne (by omega)]; exact v1 i hi
            · by_cases z : i = m
              · subst z; rw [up_at]
              · rw [up_ne (by omega)]; exact v2 i (by omega)
        · have e4 : Z u 0 = (S.1.length : Int) := by rw [u3 _ _ (by omega), r4 _ _ (by omega)]; exact g1
          have e8 : Z t 0 = (R.1.length : Int) := by rw [u3 _ _ (by omega), r4 _ _ (by omega)]; exact h1
          have e9 : Z (u + 1) (m + 1) = (rwF S (m + 1) : Int) := by rw [u3 _ _ (by omega), r4 _ _ (by omega)]; exact g3 _ (by omega)
          refine b75_142 ht hu ?_
          have n1 : Int.toNat ((R.1.length : Int) + (m : Int)) = R.1.length + m := by omega
          rw [e4, e8, n1, tn1, e9]
          refine ⟨by omega, by omega, fun h => by omega, fun _ => ⟨by omega, by omega, ih _ ⟨by omega, fun i hi => ?_, fun i hi hi2 => ?_, fun c j hc => by rw [up_ne (by omega)]; exact u3 c j hc⟩⟩⟩
          · rw [up_ne (by omega)]; exact u1 i hi
          · by_cases z : i = m
            · subst z; rw [up_at]
            · rw [up_ne (by omega)]; exact u2 i hi (by omega)
      · have e3 : Y t 0 = (R.1.length : Int) := by rw [s2 _ _ (by omega), r4 _ _ (by omega)]; exact h1
        refine b75_112 ht hu ⟨by omega, by omega, fun h => by omega, fun _ => ⟨by omega, ih _ ⟨by omega, fun i hi => ?_, fun c j hc => by rw [up_ne (by omega)]; exact s2 c j hc⟩⟩⟩
        rw [tn]
        by_cases z : i = m
        · subst z; rw [up_at, s1 i hi, if_neg (by omega), if_pos (by omega)]
        · rw [up_ne (by omega), s1 i hi]
          by_cases z2 : 0 < i ∧ i < m
          · rw [if_pos z2, if_pos (by omega)]
          · rw [if_neg z2, if_neg (by omega)]
    · have e2 : X u 1 = (rwn S : Int) := (r4 _ _ (by omega)).trans g2
      have e3 : X t 1 = (rwn R : Int) := (r4 _ _ (by omega)).trans h2
      have e4 : X (u + 2) m = ((rwP S).getD m 0 : Int) := (r4 _ _ (by omega)).trans (g4 m (by omega))
      have nx : ∀ j : Nat, j = (if m < b then a + m else 2 * rwn R + m) → kGo xs Lx (d + 1) 75 57 [some (.ref t), some (.ref u), some (kI (2 * (rwn R : Int))), some (kI (a : Int)), some (kI (b : Int)), some (kI ((m : Int) + 1))] [] (up X (t + 2) j (((rwP S).getD m 0 : Int) + 2 * (rwn R : Int))) (fun r V' => r = none ∧ K V') := by
        intro j hj
        have hj2 : j = a + m ∧ m < b ∨ j = 2 * rwn R + m ∧ b ≤ m := by
          by_cases z : m < b
          · rw [if_pos z] at hj; exact Or.inl ⟨hj, z⟩
          · rw [if_neg z] at hj; exact Or.inr ⟨hj, by omega⟩
        refine ih _ ⟨fun p hp => ?_, fun p hp hp2 => ?_, fun p hp => ?_, fun c i hc => by rw [up_ne (by omega)]; exact r4 c i hc⟩
        · rw [up_ne (by omega)]; exact r1 p hp
        · rw [up_ne (by omega)]; exact r2 p hp hp2
        · by_cases z : p = m
          · subst z; rw [← hj, up_at]
          · have e := r3 p (by omega)
            rw [up_ne (by split <;> omega)]; exact e
      refine b75_57 ht hu ?_
      have n1 : Int.toNat (2 * (rwn R : Int) + (m : Int)) = 2 * rwn R + m := by omega
      have n2 : Int.toNat ((a : Int) + (m : Int)) = a + m := by omega
      rw [e2, e3, tn, e4, n1, n2]
      refine ⟨by omega, by omega, fun h => by omega, fun _ => ⟨by omega, fun h => ⟨by omega, by omega, nx _ ?_⟩, fun h => ⟨by omega, by omega, nx _ ?_⟩⟩⟩
      · rw [if_neg (by omega)]
      · rw [if_pos (by omega)]
  · have n1 : Int.toNat (2 * (rwn R : Int) - 1 - (m : Int)) = 2 * rwn R - 1 - m := by omega
    have n2 : Int.toNat (2 * (rwn R : Int) - 1 - (m : Int) + (b : Int)) = 2 * rwn R - 1 - m + b := by omega
    refine b75_25 ht hu ?_
    rw [n1, n2]
    refine ⟨by omega, by omega, fun h => by omega, fun _ => ⟨by omega, by omega, ?_⟩⟩
    rw [show 2 * (rwn R : Int) - 1 - (m : Int) + (-1) = 2 * (rwn R : Int) - 1 - ((m + 1 : Nat) : Int) by omega]
    refine ih _ ⟨fun p hp => ?_, fun p hp hp2 => ?_, fun c j hc => by rw [up_ne (by omega)]; exact q3 c j hc⟩
    · rw [up_ne (by omega)]; exact q1 p (by omega)
    · by_cases z : p = 2 * rwn R - 1 - m
      · subst z; rw [up_at]; exact q1 _ (by omega)
      · rw [up_ne (by omega)]; exact q2 p (by omega) hp2
end TAK

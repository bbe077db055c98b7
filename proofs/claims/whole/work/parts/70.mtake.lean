/-! one knot more in the model -/
section MTA
variable {xs : Nat → Int32} {Lx d : Nat} {V : km_V} {R S : Rw} {hs : Hs} {ps : List Rw}
theorem sp_adds {a r L : Nat} {v : Int} {K : km_V → Prop} (ha : km_sh[a]? = some (11, 78)) (hr : r < 4) (hL : L < 16) (h : V a (2 + r) = (L : Int)) (k : K (up (up V a (6 + 16 * r + L) v) a (2 + r) ((L : Int) + 1))) : kCV xs Lx (d + 0) 149 3 [.ref a, kI (r : Int), kI v] V K := by
  have n1 : Int.toNat (2 + (r : Int)) = 2 + r := by omega
  have n2 : Int.toNat (6 + 16 * (r : Int) + (L : Int)) = 6 + 16 * r + L := by omega
  refine b149_0 ha ?_
  rw [n1, h, n2, up_ne (by omega), h]
  exact ⟨by omega, by omega, rfl, k⟩
/-- the passes of one ring go behind another -/
theorem mt_ring {i r L0 n : Nat} {Q : Option Value → km_V → Prop} (hS : kRf (V 326) S) (okS : rwOk S) (hi : i < S.1.length) (hr : r < 4) (hL : L0 + rwL S i ≤ 16) (h0 : V 307 (2 + r) = (L0 : Int)) (hn : n ≤ 8) (k : ∀ W, W 307 (2 + r) = ((L0 + rwL S i : Nat) : Int) → (∀ q, q < rwL S i → W 307 (6 + 16 * r + L0 + q) = (((rwR S i).getD q 0 + 2 * n : Nat) : Int)) → (∀ j, j ≠ 2 + r → ¬ (6 + 16 * r + L0 ≤ j ∧ j < 6 + 16 * r + L0 + rwL S i) → W 307 j = V 307 j) → (∀ b j, b ≠ 307 → W b j = V b j) → kGo xs Lx (d + 2) 188 80 [some (.ref 299), none, some (kI (n : Int)), some (kI ((i : Int) + 1)), none, none] [] W Q) : kGo xs Lx (d + 2) 188 127 [some (.ref 299), none, some (kI (n : Int)), some (kI (i : Int)), some (kI (r : Int)), some (kI 0)] [] V Q := by
  obtain ⟨g1, g2, g3, g4, g5⟩ := id hS
  have o1 := okS.1
  have o2 := okS.2.1
  have o3 := okS.len
  have fe := rwF_end hi
  have n1 : Int.toNat (2 + (i : Int)) = 2 + i := by omega
  have key := kloop (rwL S i) (fun c W => W 307 (2 + r) = ((L0 + c : Nat) : Int) ∧ (∀ q, q < c → W 307 (6 + 16 * r + L0 + q) = (((rwR S i).getD q 0 + 2 * n : Nat) : Int)) ∧ (∀ j, j ≠ 2 + r → ¬ (6 + 16 * r + L0 ≤ j ∧ j < 6 + 16 * r + L0 + c) → W 307 j = V 307 j) ∧ (∀ b j, b ≠ 307 → W b j = V b j)) (fun c W => kGo xs Lx (d + 2) 188 127 [some (.ref 299), none, some (kI (n : Int)), some (kI (i : Int)), some (kI (r : Int)), some (kI (c : Int))] [] W Q) (fun W ⟨q1, q2, q3, q4⟩ => ?_) (fun c W hc ⟨q1, q2, q3, q4⟩ ih => ?_) 0 V (Nat.zero_le _) ⟨h0, fun q hq => by omega, fun j _ _ => rfl, fun _ _ _ => rfl⟩
  · exact key
  · refine b188_127 ?_
    have e : W 326 (2 + i) = (rwL S i : Int) := (q4 _ _ (by omega)).trans (g3 i hi)
    rw [n1, e]
    exact ⟨by omega, by omega, by omega, fun _ => k W q1 q2 q3 q4, fun h => by omega⟩
  · have lt := okS.lt (rwF S i + c) (by omega)
    rw [rwP_at hi hc] at lt
    have n2 : Int.toNat (6 + 16 * (i : Int) + (c : Int)) = 6 + 16 * i + c := by omega
    refine b188_127 ?_
    have e : W 326 (2 + i) = (rwL S i : Int) := (q4 _ _ (by omega)).trans (g3 i hi)
    have e2 : W 326 (6 + 16 * i + c) = ((rwR S i).getD c 0 : Int) := (q4 _ _ (by omega)).trans (g4 i c hi hc)
    rw [n1, e, n2, e2]
    refine ⟨by omega, by omega, by omega, fun h => by omega, fun _ => ⟨by omega, sp_adds (L := L0 + c) (by decide) hr (by omega) q1 (ih _ ⟨?_, fun q hq => ?_, fun j h1 h2 => ?_, fun b j hb => ?_⟩)⟩⟩
    · rw [up_at]; omega
    · rw [up_ne (by omega)]
      by_cases z : q = c
      · subst z; rw [show 6 + 16 * r + L0 + q = 6 + 16 * r + (L0 + q) by omega, up_at]; omega
      · rw [up_ne (by omega)]; exact q2 q (by omega)
    · rw [up_ne (by omega), up_ne (by omega)]; exact q3 j h1 (by omega)
    · rw [up_ne (by omega), up_ne (by omega)]; exact q4 b j hb
theorem mt_take {K : Int → km_V → Prop} (hR : kRf (V 307) R) (hS : kRf (V 326) S) (ok : rwOk R) (okS : rwOk S) (c : rwCan R S) (k : ∀ W, kRf (W 307) (rwTake R S) → (∀ b j, b ≠ 307 → W b j = V b j) → K 1 W) : kGo xs Lx (d + 2) 188 80 [some (.ref 299), none, some (kI (rwn R : Int)), some (kI 0), none, none] [] V (fun r V' => ∃ v : Int, r = some (kI v) ∧ K v V') := by
  obtain ⟨h1, h2, h3, h4, h5⟩ := id hR
  obtain ⟨g1, g2, g3, g4, g5⟩ := id hS
  have cc := c
  unfold rwCan at c
  have la := rwTake_len cc
  have tk := rwTake_n R S
  have l1 := ok.len
  have l2 := okS.len
  have a2 := rwF_end (R := R) (i := 0) c.1
  have b2 := rwF_end (R := S) (i := 0) c.2.1
  rw [rwF_zero] at a2 b2
  -- what is done when i rings of the other are joined
  let I : Nat → km_V → Prop := fun i W => 1 ≤ i ∧ (W 307 0 = (R.1.length : Int)) ∧ (W 307 1 = (rwn R : Int)) ∧ (∀ r, r < R.1.length + i - 1 → W 307 (2 + r) = (rwL (rwTake R S) r : Int)) ∧ (∀ r j, r < R.1.length + i - 1 → j < rwL (rwTake R S) r → W 307 (6 + 16 * r + j) = ((rwR (rwTake R S) r).getD j 0 : Int)) ∧ (∀ q, q < rwn R → W 307 (70 + q) = R.2.getD q 0) ∧ (∀ b j, b ≠ 307 → W b j = V b j)
  have rest : ∀ W, I 1 W → kGo xs Lx (d + 2) 188 80 [some (.ref 299), none, some (kI (rwn R : Int)), some (kI ((1 : Nat) : Int)), none, none] [] W (fun r V' => ∃ v : Int, r = some (kI v) ∧ K v V') := by
    intro W0 hW0
    refine kloop S.1.length I (fun i W => kGo xs Lx (d + 2) 188 80 [some (.ref 299), none, some (kI (rwn R : Int)), some (kI (i : Int)), none, none] [] W _) (fun W ⟨q0, q1, q2, q3, q4, q5, q6⟩ => ?_) (fun i W hi ⟨q0, q1, q2, q3, q4, q5, q6⟩ ih => ?_) 1 W0 (by omega) hW0
    · have e0 : W 326 (Int.toNat 0) = (S.1.length : Int) := (q6 _ _ (by omega)).trans g1
      refine b188_80 ?_
      rw [e0]
      refine ⟨by omega, by omega, fun _ => ?_, fun h => by omega⟩
      refine kloop (rwn S) (fun m X => (∀ j, ¬ (70 + rwn R ≤ j) → X 307 j = W 307 j) ∧ (∀ q, q < m → X 307 (70 + rwn R + q) = S.2.getD q 0) ∧ (∀ b j, b ≠ 307 → X b j = V b j)) (fun m X => kGo xs Lx (d + 2) 188 182 [some (.ref 299), none, some (kI (rwn R : Int)), some (kI (m : Int)), none, none] [] X _) (fun X ⟨r1, r2, r3⟩ => ?_) (fun m X hm ⟨r1, r2, r3⟩ ih => ?_) 0 W (Nat.zero_le _) ⟨fun _ _ => rfl, fun q hq => by omega, q6⟩
      · have e0 : X 326 0 = (S.1.length : Int) := (r3 _ _ (by omega)).trans g1
        have e1 : X 326 1 = (rwn S : Int) := (r3 _ _ (by omega)).trans g2
        have e2 : X 307 0 = (R.1.length : Int) := (r1 _ (by omega)).trans q1
        have e3 : X 307 1 = (rwn R : Int) := (r1 _ (by omega)).trans q2
        refine b188_182 ?_
        simp only [show Int.toNat 0 = 0 from rfl, show Int.toNat 1 = 1 from rfl]
        refine ⟨by omega, by omega, fun _ => ⟨_, rfl, k _ ⟨?_, ?_, fun r hr => ?_, fun r j hr hj => ?_, fun q hq => ?_⟩ (fun b j hb => ?_)⟩, fun h => by omega⟩
        · rw [up_ne (by omega), up_at, e2, e0, la]; omega
        · rw [up_at, up_ne (by omega), up_ne (by omega), e3, e1, tk]; omega
        · rw [la] at hr
          rw [up_ne (by omega), up_ne (by omega), r1 _ (by omega)]; exact q3 r (by omega)
        · rw [la] at hr
          have fe := rwF_end (R := rwTake R S) (i := r) (by omega)
          have lp := (rwTake_ok ok okS cc).len
          rw [tk] at lp
          rw [up_ne (by omega), up_ne (by omega), r1 _ (by omega)]; exact q4 r j (by omega) hj
        · rw [tk] at hq
          rw [up_ne (by omega), up_ne (by omega), rwTake_s]
          by_cases z : q < rwn R
          · rw [if_pos z, r1 _ (by omega)]; exact q5 q z
          · rw [if_neg z]
            have e := r2 (q - rwn R) (by omega)
            rw [show 70 + rwn R + (q - rwn R) = 70 + q by omega] at e
            exact e
        · rw [up_ne (by omega), up_ne (by omega)]; exact r3 b j hb
      · have e1 : X 326 1 = (rwn S : Int) := (r3 _ _ (by omega)).trans g2
        have e4 : X 326 (70 + m) = S.2.getD m 0 := (r3 _ _ (by omega)).trans (g5 m hm)
        have n1 : Int.toNat (70 + (rwn R : Int) + (m : Int)) = 70 + rwn R + m := by omega
        have n2 : Int.toNat (70 + (m : Int)) = 70 + m := by omega
        refine b188_182 ?_
        rw [n1, n2, show Int.toNat 1 = 1 from rfl, e1, e4]
        refine ⟨by omega, by omega, fun h => by omega, fun _ => ⟨by omega, by omega, ih _ ⟨fun j hj => ?_, fun q hq => ?_, fun b j hb => by rw [up_ne (by omega)]; exact r3 b j hb⟩⟩⟩
        · rw [up_ne (by omega)]; exact r1 j hj
        · by_cases z : q = m
          · subst z; rw [up_at]
          · rw [up_ne (by omega)]; exact r2 q (by omega)
    · have e0 : W 326 (Int.toNat 0) = (S.1.length : Int) := (q6 _ _ (by omega)).trans g1
      refine b188_80 ?_
      rw [e0, show Int.toNat 0 = 0 from rfl, q1]
      refine ⟨by omega, by omega, fun h => by omega, fun _ => ⟨fun _ z1 hz1 => ⟨fun h => by omega, fun _ => ⟨by omega, ?_⟩⟩, fun h => by omega⟩⟩
      obtain rfl : z1 = ((R.1.length + i - 1 : Nat) : Int) := by omega
      have n1 : Int.toNat (2 + ((R.1.length + i - 1 : Nat) : Int)) = 2 + (R.1.length + i - 1) := by omega
      rw [n1]
      have lT : rwL (rwTake R S) (R.1.length + i - 1) = rwL S i := by unfold rwL; rw [rwTake_rj c.1 (by omega) hi, List.length_map]
      have feS := rwF_end hi
      refine mt_ring (L0 := 0) (i := i) (hS.fr okS (fun j hj => by rw [up_ne (by omega)]; exact q6 _ _ (by omega))) okS hi (by omega) (by omega) (up_at _ _ _ _) ok.2.1 (fun W2 w1 w2 w3 w4 => ?_)
      refine ih W2 ⟨by omega, ?_, ?_, fun r hr => ?_, fun r j hr hj => ?_, fun q hq => ?_, fun b j hb => by rw [w4 b j hb, up_ne (by omega)]; exact q6 b j hb⟩
      · rw [w3 _ (by omega) (by omega), up_ne (by omega)]; exact q1
      · rw [w3 _ (by omega) (by omega), up_ne (by omega)]; exact q2
      · by_cases z : r = R.1.length + i - 1
        · subst z; rw [w1, lT]; omega
        · rw [w3 _ (by omega) (by omega), up_ne (by omega)]; exact q3 r (by omega)
      · by_cases z : r = R.1.length + i - 1
        · subst z
          rw [lT] at hj
          have e := w2 j hj
          rw [show 6 + 16 * (R.1.length + i - 1) + 0 + j = 6 + 16 * (R.1.length + i - 1) + j by omega] at e
          rw [e, rwTake_rj c.1 (by omega) hi, gd_map (z := 0) hj]
        · have fe := rwF_end (R := rwTake R S) (i := r) (by omega)
          have lp := (rwTake_ok ok okS cc).len
          rw [tk] at lp
          rw [w3 _ (by omega) (by omega), up_ne (by omega)]; exact q4 r j (by omega) hj
      · rw [w3 _ (by omega) (by omega), up_ne (by omega)]; exact q5 q hq
  refine b188_80 ?_
  simp only [show Int.toNat 0 = 0 from rfl]
  rw [g1]
  refine ⟨by omega, by omega, fun h => by omega, fun _ => ⟨fun h => absurd rfl h, fun _ => ⟨fun _ => ?_, fun h => by omega⟩⟩⟩
  refine mt_ring (L0 := rwL R 0) (i := 0) (r := 0) hS okS c.2.1 (by omega) (by omega) (h3 0 c.1) ok.2.1 (fun W2 w1 w2 w3 w4 => ?_)
  refine rest W2 ⟨Nat.le_refl _, ?_, ?_, fun r hr => ?_, fun r j hr hj => ?_, fun q hq => ?_, w4⟩
  · rw [w3 _ (by omega) (by omega)]; exact h1
  · rw [w3 _ (by omega) (by omega)]; exact h2
  · by_cases z : r = 0
    · subst z; rw [w1, rwTake_l0]
    · have e : rwL (rwTake R S) r = rwL R r := by unfold rwL; rw [rwTake_ri (by omega) z]
      rw [w3 _ (by omega) (by omega), e]; exact h3 r (by omega)
  · by_cases z : r = 0
    · subst z
      rw [rwTake_l0] at hj
      rw [rwTake_r0]
      by_cases z2 : j < rwL R 0
      · rw [w3 _ (by omega) (by omega), gd_appl z2]; exact h4 0 j c.1 z2
      · rw [gd_appr (Nat.le_of_not_lt z2)]
        have e := w2 (j - rwL R 0) (by omega)
        rw [show 6 + 16 * 0 + rwL R 0 + (j - rwL R 0) = 6 + 16 * 0 + j by omega] at e
        rw [e]
        have q := gd_map (f := (· + 2 * rwn R)) (l := rwR S 0) (i := j - rwL R 0) (z := 0) (y := 0) (show j - rwL R 0 < rwL S 0 by omega)
        exact congrArg (fun (x : Nat) => (x : Int)) q.symm
    · rw [rwTake_ri (by omega) z]
      have e : rwL (rwTake R S) r = rwL R r := by unfold rwL; rw [rwTake_ri (by omega) z]
      rw [e] at hj
      rw [w3 _ (by omega) (by omega)]; exact h4 r j (by omega) hj
  · rw [w3 _ (by omega) (by omega)]; exact h5 q hq
end MTA

/-! a ring the other way round, in the model -/
theorem rvB_step {R : Rw} (ok : rwOk R) {i j : Nat} (hi : i < R.1.length) (hj : j < rwL R i) (c : Nat) : rvB ((rwR R i).take (j + 1)) c = if (rwR R i).getD j 0 / 2 = c then !(rvB ((rwR R i).take j) c) else rvB ((rwR R i).take j) c := by
  have hj' : j < (rwR R i).length := hj
  have fe := rwF_end hi
  have l := ok.len
  have nx : (rwR R i).getD j 0 ∉ (rwR R i).take j := by
    intro h
    obtain ⟨q, hq, e⟩ := List.getElem_of_mem h
    rw [List.length_take] at hq
    rw [List.getElem_take] at e
    have hq2 : q < rwL R i := by omega
    have e2 : (rwP R).getD (rwF R i + q) 0 = (rwP R).getD (rwF R i + j) 0 := by
      rw [rwP_at hi hq2, rwP_at hi hj, gd_lt (show q < (rwR R i).length from hq2)]; exact e
    have := ok.inj (by omega) (by omega) e2
    omega
  unfold rvB
  rw [take_gd 0 hj']
  simp only [List.mem_append, List.mem_singleton, Bool.decide_or]
  generalize (rwR R i).getD j 0 = x at *
  by_cases h1 : x / 2 = c
  · rw [if_pos h1]
    by_cases h2 : x = 2 * c
    · subst h2
      rw [decide_eq_false nx, decide_eq_true (rfl : 2 * c = 2 * c), decide_eq_false (show ¬ (2 * c + 1 = 2 * c) by omega)]
      simp
    · have h3 : x = 2 * c + 1 := by omega
      subst h3
      rw [decide_eq_false nx, decide_eq_false (show ¬ (2 * c = 2 * c + 1) by omega), decide_eq_true (rfl : 2 * c + 1 = 2 * c + 1)]
      simp
  · rw [if_neg h1, decide_eq_false (show ¬ (2 * c = x) by omega), decide_eq_false (show ¬ (2 * c + 1 = x) by omega), Bool.or_false, Bool.or_false]
section MRO
variable {xs : Nat → Int32} {Lx d : Nat} {V : km_V} {R S : Rw} {hs : Hs} {ps : List Rw}
theorem sp_mround {a : Int} {K : Int → km_V → Prop} (ha : kR a) (hR : kRf (V 307) R) (ok : rwOk R) (hP : kPm V ps) (hps : rwOks ps) (k1 : 0 ≤ a → a < (R.1.length : Int) → ∀ W, kRf (W 307) (rwRev (Int.toNat a) R) → kPm W (rwPush R ps) → (∀ b j, ¬ (b = 299 ∧ (j = 38 ∨ j = 39) ∨ b = 323 ∨ b = 307) → W b j = V b j) → K 1 W) (k0 : ¬ (0 ≤ a ∧ a < (R.1.length : Int)) → K 0 V) : kCI xs Lx (d + 1) 186 7 [.ref 299, kI a] V K := by
  obtain ⟨h1, h2, h3, h4, h5⟩ := id hR
  have o1 := ok.1
  have o2 := ok.2.1
  have o3 := ok.len
  refine b186_0 ?_
  simp only [show Int.toNat 0 = 0 from rfl]
  rw [h1]
  simp only [kin_eq]
  refine ⟨ha, by omega, by split <;> omega, fun h => ?_, fun h => ⟨_, rfl, k0 (fun c => by rw [if_pos (by omega)] at h; omega)⟩⟩
  have c : 0 ≤ a ∧ a < (R.1.length : Int) := by
    by_cases c : 0 ≤ a ∧ a ≤ (R.1.length : Int) - 1
    · omega
    · rw [if_neg c] at h; omega
  obtain ⟨i, rfl⟩ : ∃ i : Nat, a = (i : Int) := ⟨Int.toNat a, by omega⟩
  rw [tn] at k1
  have hi : i < R.1.length := by omega
  have fe := rwF_end hi
  refine sp_marks hR ok hP hps (fun W1 m1 f1 => ?_)
  intro z2 hz2
  have n1 : Int.toNat (2 + (i : Int)) = 2 + i := by omega
  have e1 : W1 307 (2 + i) = (rwL R i : Int) := (f1 _ _ (by omega)).trans (h3 i hi)
  rw [n1, e1]
  refine ⟨by omega, fun z3 hz3 => ?_⟩
  subst hz2 hz3
  -- which crossings turn
  have maskL := kloop0 (rwL R i) (fun j => ∀ m : Nat, m < 256 → (∀ c, (m / 2 ^ c % 2 = 1 ↔ rvB ((rwR R i).take j) c = true)) → kGo xs Lx (d + 1) 186 45 [some (.ref 299), none, some (kI (6 + 16 * (i : Int))), some (kI (rwL R i : Int)), some (kI (m : Int)), some (kI (j : Int)), none] [] W1 (fun r V' => ∃ v : Int, r = some (kI v) ∧ K v V')) (fun m hm hb => ?_) (fun j hj ih m hm hb => ?_) 0 (Nat.zero_le _)
  · have := maskL 0 (by omega) (fun c => by
      rw [Nat.zero_div, List.take_zero]
      constructor
      · intro h; omega
      · intro h; exact absurd h (by unfold rvB; simp))
    exact this
  · refine b186_45 ⟨by omega, by omega, fun _ => ?_, fun h => by omega⟩
    have hb' : ∀ c, (m / 2 ^ c % 2 = 1 ↔ rvB (rwR R i) c = true) := by
      intro c
      have := hb c
      unfold rwL at this
      rw [List.take_length] at this
      exact this
    refine kloop (rwn R) (fun c W => (∀ q, q < rwn R → W 307 (70 + q) = if q < c ∧ rvB (rwR R i) q = true then - R.2.getD q 0 else R.2.getD q 0) ∧ (∀ b j, ¬ (b = 307 ∧ 70 ≤ j) → W b j = W1 b j)) (fun c W => kGo xs Lx (d + 1) 186 78 [some (.ref 299), none, some (kI (6 + 16 * (i : Int))), some (kI (rwL R i : Int)), some (kI (m : Int)), some (kI (c : Int)), none] [] W _) (fun W ⟨q1, q2⟩ => ?_) (fun c W hc ⟨q1, q2⟩ ih => ?_) 0 W1 (Nat.zero_le _) ⟨fun q hq => by rw [if_neg (by omega), f1 _ _ (by omega)]; exact h5 q hq, fun _ _ _ => rfl⟩
    · have e2 : W 307 (Int.toNat 1) = (rwn R : Int) := by rw [q2 _ _ (by decide), f1 _ _ (by omega)]; exact h2
      refine b186_78 ?_
      rw [e2]
      refine ⟨by omega, by omega, fun _ => ?_, fun h => by omega⟩
      have key := kloop ((rwL R i - 1) / 2) (fun s X => (∀ j, j < rwL R i → X 307 (6 + 16 * i + j) = ((if 1 ≤ j ∧ (j ≤ s ∨ rwL R i ≤ j + s) then (rwR R i).getD (rwL R i - j) 0 else (rwR R i).getD j 0 : Nat) : Int)) ∧ (∀ b j, ¬ (b = 307 ∧ 6 + 16 * i ≤ j ∧ j < 6 + 16 * i + rwL R i) → X b j = W b j)) (fun s X => kGo xs Lx (d + 1) 186 129 [some (.ref 299), none, some (kI (6 + 16 * (i : Int))), some (kI (rwL R i : Int)), none, some (kI ((s : Int) + 1)), none] [] X (fun r V' => ∃ v : Int, r = some (kI v) ∧ K v V')) (fun X ⟨r1, r2⟩ => ?_) (fun s X hs ⟨r1, r2⟩ ih => ?_) 0 W (Nat.zero_le _) ⟨fun j hj => by rw [if_neg (by omega), q2 _ _ (by omega), f1 _ _ (by omega)]; exact h4 i j hi hj, fun _ _ _ => rfl⟩
      · exact key
      · refine b186_129 ⟨by omega, by omega, fun _ => ⟨_, rfl, k1 c.1 c.2 X ⟨?_, ?_, fun k hk => ?_, fun k j hk hj => ?_, fun q hq => ?_⟩ ?_ (fun b j hb => ?_)⟩, fun h => by omega⟩
        · rw [r2 _ _ (by omega), q2 _ _ (by omega), f1 _ _ (by omega), rwRev_len]; exact h1
        · rw [r2 _ _ (by omega), q2 _ _ (by omega), f1 _ _ (by omega), rwRev_n]; exact h2
        · rw [rwRev_len] at hk
          rw [r2 _ _ (by omega), q2 _ _ (by omega), f1 _ _ (by omega), rwRev_L hi]; exact h3 k hk
        · rw [rwRev_len] at hk
          rw [rwRev_L hi] at hj
          have fk := rwF_end hk
          rw [rwRev_R hi]
          by_cases z : k = i
          · subst z
            rw [if_pos rfl, r1 j hj]
            by_cases z2 : j = 0
            · subst z2
              rw [rv_0, if_neg (by omega)]
            · rw [rv_at (by omega) hj]
              by_cases z3 : 1 ≤ j ∧ (j ≤ (rwL R k - 1) / 2 ∨ rwL R k ≤ j + (rwL R k - 1) / 2)
              · rw [if_pos z3]; rfl
              · rw [if_neg z3]
                have z4 : (rwR R k).length - j = j := by
                  have : (rwR R k).length = rwL R k := rfl
                  omega
                rw [z4]
          · rw [if_neg z, r2 _ _ (by omega), q2 _ _ (by omega), f1 _ _ (by omega)]; exact h4 k j hk hj
        · rw [rwRev_n] at hq
          rw [r2 _ _ (by omega), q1 q hq, rwRev_s hq]
          by_cases z : rvB (rwR R i) q = true
          · rw [if_pos ⟨hq, z⟩, if_pos z]
          · rw [if_neg (fun h => z h.2), if_neg z]
        · exact m1.fr (by rw [r2 _ _ (by omega), q2 _ _ (by omega)]) (by rw [r2 _ _ (by omega), q2 _ _ (by omega)]) (fun j => by rw [r2 _ _ (by omega), q2 _ _ (by omega)])
        · rw [r2 _ _ (by omega), q2 _ _ (by omega), f1 _ _ (by omega)]
      · have n2 : Int.toNat (6 + 16 * (i : Int) + ((s : Int) + 1)) = 6 + 16 * i + (s + 1) := by omega
        have n3 : Int.toNat (6 + 16 * (i : Int) + (rwL R i : Int) - ((s : Int) + 1)) = 6 + 16 * i + (rwL R i - (s + 1)) := by omega
        refine b186_129 ?_
        rw [n2, n3]
        refine ⟨by omega, by omega, fun h => by omega, fun _ => ⟨by omega, fun z hz => ⟨by omega, ?_⟩⟩⟩
        subst hz
        refine ih _ ⟨fun j hj => ?_, fun b j hb => by rw [up_ne (by omega), up_ne (by omega)]; exact r2 b j hb⟩
        by_cases y1 : j = rwL R i - (s + 1)
        · subst y1
          rw [up_at, r1 _ (by omega), if_neg (by omega), if_pos (by omega)]
          congr 2; omega
        · rw [up_ne (by omega)]
          by_cases y2 : j = s + 1
          · subst y2
            rw [up_at, r1 _ (by omega), if_neg (by omega), if_pos (by omega)]
          · rw [up_ne (by omega), r1 j hj]
            by_cases y3 : 1 ≤ j ∧ (j ≤ s ∨ rwL R i ≤ j + s)
            · rw [if_pos y3, if_pos (by omega)]
            · rw [if_neg y3, if_neg (by omega)]
    · have e2 : W 307 (Int.toNat 1) = (rwn R : Int) := by rw [q2 _ _ (by decide), f1 _ _ (by omega)]; exact h2
      have n2 : Int.toNat (70 + (c : Int)) = 70 + c := by omega
      refine b186_78 ?_
      rw [e2, n2, q1 c hc, if_neg (by omega), khas_eq m c]
      refine ⟨by omega, by omega, fun h => by omega, fun _ => ⟨⟨by omega, by omega⟩, by split <;> omega, fun h => ih W ⟨fun q hq => ?_, q2⟩, fun h => ⟨by omega, ih _ ⟨fun q hq => ?_, fun b j hb => by rw [up_ne (by omega)]; exact q2 b j hb⟩⟩⟩⟩
      · have nb : ¬ (rvB (rwR R i) c = true) := fun z => by rw [if_pos ((hb' c).mpr z)] at h; omega
        rw [q1 q hq]
        by_cases z : q < c ∧ rvB (rwR R i) q = true
        · rw [if_pos z, if_pos ⟨by omega, z.2⟩]
        · rw [if_neg z, if_neg (fun w => z ⟨by
            by_cases y : q = c
            · subst y; exact absurd w.2 nb
            · omega, w.2⟩)]
      · have yb : rvB (rwR R i) c = true := by
          by_cases y : m / 2 ^ c % 2 = 1
          · exact (hb' c).mp y
          · rw [if_neg y] at h; omega
        by_cases z : q = c
        · subst z; rw [up_at, if_pos ⟨by omega, yb⟩]
        · rw [up_ne (by omega), q1 q hq]
          by_cases z2 : q < c ∧ rvB (rwR R i) q = true
          · rw [if_pos z2, if_pos ⟨by omega, z2.2⟩]
          · rw [if_neg z2, if_neg (fun w => z2 ⟨by omega, w.2⟩)]
  · have lt := ok.lt (rwF R i + j) (by omega)
    rw [rwP_at hi hj] at lt
    have n2 : Int.toNat (6 + 16 * (i : Int) + (j : Int)) = 6 + 16 * i + j := by omega
    have e2 : W1 307 (6 + 16 * i + j) = ((rwR R i).getD j 0 : Int) := (f1 _ _ (by omega)).trans (h4 i j hi hj)
    have st := rvB_step ok hi hj
    generalize hx : (rwR R i).getD j 0 = x at *
    have n3 : Int.toNat ((x : Int) / 2) = x / 2 := by omega
    refine b186_45 ?_
    rw [n2, e2, n3, tn, Int.one_mul, tn]
    have p1 : 1 ≤ 2 ^ (x / 2) := Nat.one_le_two_pow
    have p2 : 2 ^ (x / 2) < 2 ^ 8 := Nat.pow_lt_pow_right (by omega) (by omega)
    refine ⟨by omega, by omega, fun h => by omega, fun _ => ⟨by omega, by omega, by omega, by omega, by omega, fun z hz => ?_⟩⟩
    subst hz
    refine ih _ (Nat.xor_lt_two_pow (n := 8) (by omega) p2) (fun c => ?_)
    rw [xor_bit, st c]
    have hbc := hb c
    by_cases y : c = x / 2
    · rw [if_pos y, if_pos y.symm]
      cases hv : rvB ((rwR R i).take j) c with
      | false =>
        rw [hv] at hbc
        have : ¬ (m / 2 ^ c % 2 = 1) := fun z => absurd (hbc.mp z) (by decide)
        exact ⟨fun _ => rfl, fun _ => by omega⟩
      | true =>
        rw [hv] at hbc
        have := hbc.mpr rfl
        exact ⟨fun h => by omega, fun h => absurd h (by decide)⟩
    · rw [if_neg y, if_neg (fun z => y z.symm)]
      exact hbc
end MRO

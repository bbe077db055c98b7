/-! the model's rows: switched at a crossing, a crossing out of rows, where a pass lies -/
theorem bit_pow (c i : Nat) : 2 ^ c / 2 ^ i % 2 = if i = c then 1 else 0 := by
  have h := @Nat.testBit_two_pow c i
  rw [Nat.testBit_eq_decide_div_mod_eq] at h
  by_cases e : i = c
  · subst e; simp at h; rw [if_pos rfl]; exact h
  · rw [if_neg e]
    have : ¬ 2 ^ c / 2 ^ i % 2 = 1 := by
      intro z
      rw [z] at h
      simp at h
      exact e h.symm
    omega
theorem rwTurnP_pow (c x : Nat) : rwTurnP (2 ^ c) x = if x / 2 = c then x ^^^ 1 else x := by
  unfold rwTurnP
  rw [bit_pow]
  by_cases e : x / 2 = c
  · rw [if_pos e, if_pos e]
  · rw [if_neg e, if_neg e, Nat.xor_zero]
theorem rwTurn_R {b : Nat} {R : Rw} {i : Nat} (hi : i < R.1.length) : rwR (rwTurn b R) i = (rwR R i).map (rwTurnP b) := by
  unfold rwR rwTurn
  exact gd_map hi
theorem rwTurn_L {b : Nat} {R : Rw} {i : Nat} (hi : i < R.1.length) : rwL (rwTurn b R) i = rwL R i := by
  unfold rwL
  rw [rwTurn_R hi, List.length_map]
theorem rwR_lt {R : Rw} (ok : rwOk R) {i j : Nat} (hi : i < R.1.length) (hj : j < rwL R i) : (rwR R i).getD j 0 < 2 * rwn R := by
  have h1 := rwF_end hi
  have h2 := ok.len
  rw [← rwP_at hi hj]
  exact ok.lt _ (by omega)
theorem rwAhd_pow (c x : Nat) : rwAhd (2 ^ c) x = if c < x then 1 else 0 := by
  induction x with
  | zero => rfl
  | succ x ih =>
    rw [rwAhd_succ, ih, bit_pow]
    have e1 : (if (if x = c then 1 else 0) = 1 then 1 else 0) = if x = c then 1 else 0 := by
      by_cases e : x = c
      · rw [if_pos e, if_pos rfl]
      · rw [if_neg e, if_neg (by omega)]
    rw [e1]
    by_cases e : x = c
    · rw [if_neg (by omega), if_pos e, if_pos (by omega)]
    · rw [if_neg e]
      by_cases e' : c < x
      · rw [if_pos e', if_pos (by omega)]
      · rw [if_neg e', if_neg (by omega)]
theorem rwGo_pow (c x : Nat) : rwGo (2 ^ c) x = if x / 2 = c then none else some (if c < x / 2 then x - 2 else x) := by
  unfold rwGo
  rw [bit_pow, rwAhd_pow]
  by_cases e : x / 2 = c
  · rw [if_pos e, if_pos rfl, if_pos e]
  · rw [if_neg e, if_neg (by omega), if_neg e]
    by_cases e' : c < x / 2
    · rw [if_pos e', if_pos e']
    · rw [if_neg e', if_neg e']; rfl
theorem rwDrop_R {b : Nat} {R : Rw} {i : Nat} (hi : i < R.1.length) : rwR (rwDrop b R) i = (rwR R i).filterMap (rwGo b) := by
  unfold rwR rwDrop
  exact gd_map hi
section RWG
variable {xs : Nat → Int32} {Lx d : Nat} {V : km_V} {a : Nat} {R : Rw}
theorem sp_switchesAt {c : Nat} {K : km_V → Prop} (ha : km_sh[a]? = some (11, 78)) (hR : kRf (V a) R) (ok : rwOk R) (hc : c < rwn R) (k : ∀ W, kRf (W a) (rwTurn (2 ^ c) R) → (∀ b j, b ≠ a → W b j = V b j) → K W) : kCV xs Lx (d + 0) 175 4 [.ref a, kI c] V K := by
  obtain ⟨h1, h2, h3, h4, h5⟩ := hR
  have o1 := ok.1
  have o2 := ok.2.1
  refine b175_0 ha ⟨by omega, ?_⟩
  simp only [tn_70]
  have rl : ∀ i, i < R.1.length → rwL R i ≤ 16 := fun i hi => rwL_le ok hi
  -- what the passes are when the rings ahead of i and the first m passes of ring i are done
  refine kloop R.1.length (fun i W => (∀ b j, b ≠ a → W b j = V b j) ∧ W a 0 = (R.1.length : Int) ∧ W a 1 = (rwn R : Int) ∧ (∀ i, i < R.1.length → W a (2 + i) = (rwL R i : Int)) ∧ (∀ r j, r < R.1.length → j < rwL R r → W a (6 + 16 * r + j) = if r < i then ((rwTurnP (2 ^ c) ((rwR R r).getD j 0) : Nat) : Int) else ((rwR R r).getD j 0 : Int)) ∧ (∀ i, i < rwn R → W a (70 + i) = (rwTurn (2 ^ c) R).2.getD i 0))
    (fun i W => kGo xs Lx (d + 0) 175 15 [some (.ref a), some (kI c), some (kI (i : Int)), none] [] W _) (fun W ⟨f0, f1, f2, f3, f4, f5⟩ => ?_) (fun i W hi ⟨f0, f1, f2, f3, f4, f5⟩ ih => ?_) 0 _ (Nat.zero_le _) ⟨fun b j hb => up_ne (by omega), by rw [up_ne (by omega)]; exact h1, by rw [up_ne (by omega)]; exact h2, fun i hi => by rw [up_ne (by omega)]; exact h3 i hi, fun r j hr hj => ?_, fun i hi => ?_⟩
  · refine b175_15 ha ⟨by omega, by simp only [tn0]; omega, fun _ => ⟨rfl, k W ⟨?_, ?_, fun i hi => ?_, fun i j hi hj => ?_, fun i hi => ?_⟩ f0⟩, fun h => by simp only [tn0] at h; omega⟩
    · rw [rwTurn_len]; exact f1
    · rw [rwTurn_n]; exact f2
    · rw [rwTurn_len] at hi; rw [rwTurn_L hi]; exact f3 i hi
    · rw [rwTurn_len] at hi
      rw [rwTurn_L hi] at hj
      rw [f4 i j hi hj, if_pos hi, rwTurn_R hi, gd_map (z := 0) hj]
    · rw [rwTurn_n] at hi; exact f5 i hi
  · refine b175_15 ha ⟨by omega, by simp only [tn0]; omega, fun h => by simp only [tn0] at h; omega, fun h => ?_⟩
    refine kloop (rwL R i) (fun m W' => (∀ b j, b ≠ a → W' b j = V b j) ∧ W' a 0 = (R.1.length : Int) ∧ W' a 1 = (rwn R : Int) ∧ (∀ i, i < R.1.length → W' a (2 + i) = (rwL R i : Int)) ∧ (∀ r j, r < R.1.length → j < rwL R r → W' a (6 + 16 * r + j) = if r < i ∨ r = i ∧ j < m then ((rwTurnP (2 ^ c) ((rwR R r).getD j 0) : Nat) : Int) else ((rwR R r).getD j 0 : Int)) ∧ (∀ i, i < rwn R → W' a (70 + i) = (rwTurn (2 ^ c) R).2.getD i 0))
      (fun m W' => kGo xs Lx (d + 0) 175 24 [some (.ref a), some (kI c), some (kI (i : Int)), some (kI (m : Int))] [] W' _) (fun W' ⟨g0, g1, g2, g3, g4, g5⟩ => ?_) (fun m W' hm ⟨g0, g1, g2, g3, g4, g5⟩ ih2 => ?_) 0 _ (Nat.zero_le _) ⟨f0, f1, f2, f3, fun r j hr hj => ?_, f5⟩
    · have := rl i hi
      refine b175_24 ha ⟨by omega, by omega, by rw [tn_2, g3 i hi]; omega, fun _ => ih W' ⟨g0, g1, g2, g3, fun r j hr hj => ?_, g5⟩, fun h => by rw [tn_2, g3 i hi] at h; omega⟩
      rw [g4 r j hr hj]
      by_cases e : r < i + 1
      · rw [if_pos e, if_pos (by by_cases e2 : r = i; subst e2; exact Or.inr ⟨rfl, hj⟩; omega)]
      · rw [if_neg e, if_neg (by omega)]
    · have l0 := rl i hi
      have l1 := rwR_lt ok hi hm
      have e1 := g4 i m hi hm
      rw [if_neg (by omega)] at e1
      have upd : ∀ (y : Nat), y = rwTurnP (2 ^ c) ((rwR R i).getD m 0) → (∀ b j, b ≠ a → up W' a (6 + 16 * i + m) (y : Int) b j = V b j) ∧ up W' a (6 + 16 * i + m) (y : Int) a 0 = (R.1.length : Int) ∧ up W' a (6 + 16 * i + m) (y : Int) a 1 = (rwn R : Int) ∧ (∀ r, r < R.1.length → up W' a (6 + 16 * i + m) (y : Int) a (2 + r) = (rwL R r : Int)) ∧ (∀ r j, r < R.1.length → j < rwL R r → up W' a (6 + 16 * i + m) (y : Int) a (6 + 16 * r + j) = if r < i ∨ r = i ∧ j < m + 1 then ((rwTurnP (2 ^ c) ((rwR R r).getD j 0) : Nat) : Int) else ((rwR R r).getD j 0 : Int)) ∧ (∀ r, r < rwn R → up W' a (6 + 16 * i + m) (y : Int) a (70 + r) = (rwTurn (2 ^ c) R).2.getD r 0) := by
        intro y hy
        refine ⟨fun b j hb => by rw [up_ne (by omega)]; exact g0 b j hb, by rw [up_ne (by omega)]; exact g1, by rw [up_ne (by omega)]; exact g2, fun r hr => by rw [up_ne (by omega)]; exact g3 r hr, fun r j hr hj => ?_, fun r hr => by rw [up_ne (by omega)]; exact g5 r hr⟩
        have := rl r hr
        by_cases e : r = i ∧ j = m
        · obtain ⟨rfl, rfl⟩ := e
          rw [up_at, if_pos (by omega), hy]
        · rw [up_ne (by omega), g4 r j hr hj]
          by_cases e' : r < i ∨ r = i ∧ j < m
          · rw [if_pos e', if_pos (by omega)]
          · rw [if_neg e', if_neg (by omega)]
      refine b175_24 ha ⟨by omega, by omega, by rw [tn_2, g3 i hi]; omega, fun h => by rw [tn_2, g3 i hi] at h; omega, fun h => ?_⟩
      simp only [tn_6, e1]
      refine ⟨by omega, by omega, by omega, by omega, fun h => ?_, fun h => ?_⟩
      · have e2 : rwTurnP (2 ^ c) ((rwR R i).getD m 0) = (rwR R i).getD m 0 := by rw [rwTurnP_pow, if_neg (by omega)]
        refine ih2 W' ⟨g0, g1, g2, g3, fun r j hr hj => ?_, g5⟩
        rw [g4 r j hr hj]
        by_cases e' : r < i ∨ r = i ∧ j < m
        · rw [if_pos e', if_pos (by omega)]
        · rw [if_neg e']
          by_cases e'' : r = i ∧ j = m
          · obtain ⟨rfl, rfl⟩ := e''
            rw [if_pos (by omega), e2]
          · rw [if_neg (by omega)]
      · refine ⟨by omega, ih2 _ (upd _ ?_)⟩
        rw [rwTurnP_pow, if_pos (by omega)]
        rfl
    · rw [f4 r j hr hj]
      by_cases e : r < i
      · rw [if_pos e, if_pos (by omega)]
      · rw [if_neg e, if_neg (by omega)]
  · have := rl r hr
    rw [up_ne (by omega), if_neg (by omega)]; exact h4 r j hr hj
  · have e : (rwTurn (2 ^ c) R).2.getD i 0 = if 2 ^ c / 2 ^ i % 2 = 1 then - R.2.getD i 0 else R.2.getD i 0 := gd_rmap hi
    rw [bit_pow] at e
    by_cases e' : i = c
    · subst e'
      rw [if_pos rfl, if_pos rfl] at e
      rw [up_at, e, h5 i hi]
    · rw [if_neg e', if_neg (by omega)] at e
      rw [up_ne (by omega), e, h5 i hi]
end RWG
/-- in a ring: how many of the first m passes stay -/
def rwq (c : Nat) (l : List Nat) (m : Nat) : Nat := ((l.take m).filterMap (rwGo (2 ^ c))).length
theorem rwq_none {c : Nat} {l : List Nat} {m : Nat} (hm : m < l.length) (h : l.getD m 0 / 2 = c) : rwq c l (m + 1) = rwq c l m := by
  unfold rwq
  have g : rwGo (2 ^ c) (l.getD m 0) = none := by rw [rwGo_pow, if_pos h]
  rw [take_gd 0 hm, List.filterMap_append, List.filterMap_cons_none g]
  simp
theorem rwq_some {c : Nat} {l : List Nat} {m : Nat} (hm : m < l.length) (h : l.getD m 0 / 2 ≠ c) : rwq c l (m + 1) = rwq c l m + 1 ∧ (l.filterMap (rwGo (2 ^ c))).getD (rwq c l m) 0 = if c < l.getD m 0 / 2 then l.getD m 0 - 2 else l.getD m 0 := by
  have g : rwGo (2 ^ c) (l.getD m 0) = some (if c < l.getD m 0 / 2 then l.getD m 0 - 2 else l.getD m 0) := by rw [rwGo_pow, if_neg h]
  constructor
  · unfold rwq
    rw [take_gd 0 hm, List.filterMap_append, List.filterMap_cons_some g]
    simp
  · have e : l.filterMap (rwGo (2 ^ c)) = (l.take m).filterMap (rwGo (2 ^ c)) ++ (l.drop m).filterMap (rwGo (2 ^ c)) := by
      rw [← List.filterMap_append, List.take_append_drop]
    unfold rwq
    rw [e, gd_appr (Nat.le_refl _), Nat.sub_self, List.drop_eq_getElem_cons hm, ← gd_lt (z := 0) hm, List.filterMap_cons_some g]
    rfl
theorem rwq_le {c : Nat} {l : List Nat} {m : Nat} : rwq c l m ≤ m := by
  unfold rwq
  have := List.length_filterMap_le (rwGo (2 ^ c)) (l.take m)
  rw [List.length_take] at this
  omega
section RWH
variable {xs : Nat → Int32} {Lx d : Nat} {V : km_V} {a : Nat} {R : Rw}
theorem sp_dropsOut {c : Nat} {K : km_V → Prop} (ha : km_sh[a]? = some (11, 78)) (hR : kRf (V a) R) (ok : rwOk R) (hc : c < rwn R) (k : ∀ W, kRf (W a) (rwDrop (2 ^ c) R) → (∀ b j, b ≠ a → W b j = V b j) → K W) : kCV xs Lx (d + 0) 169 6 [.ref a, kI c] V K := by
  obtain ⟨h1, h2, h3, h4, h5⟩ := hR
  have o1 := ok.1
  have o2 := ok.2.1
  have rl : ∀ i, i < R.1.length → rwL R i ≤ 16 := fun i hi => rwL_le ok hi
  have nD : rwn (rwDrop (2 ^ c) R) = rwn R - 1 := by rw [rwDrop_n, rwAhd_pow, if_pos hc]
  have LD : ∀ i, i < R.1.length → rwL (rwDrop (2 ^ c) R) i = rwq c (rwR R i) (rwL R i) := by
    intro i hi
    unfold rwL rwq
    rw [rwDrop_R hi, List.take_length]
  refine b169_0 ha ?_
  refine kloop R.1.length (fun i W => (∀ b j, b ≠ a → W b j = V b j) ∧ W a 0 = (R.1.length : Int) ∧ W a 1 = (rwn R : Int) ∧ (∀ r, r < R.1.length → W a (2 + r) = if r < i then (rwL (rwDrop (2 ^ c) R) r : Int) else (rwL R r : Int)) ∧ (∀ r j, r < i → j < rwL (rwDrop (2 ^ c) R) r → W a (6 + 16 * r + j) = ((rwR (rwDrop (2 ^ c) R) r).getD j 0 : Int)) ∧ (∀ r j, i ≤ r → r < R.1.length → j < rwL R r → W a (6 + 16 * r + j) = ((rwR R r).getD j 0 : Int)) ∧ (∀ i, i < rwn R → W a (70 + i) = R.2.getD i 0))
    (fun i W => kGo xs Lx (d + 0) 169 2 [some (.ref a), some (kI c), some (kI (i : Int)), none, none, none] [] W _) (fun W ⟨f0, f1, f2, f3, f4, f5, f6⟩ => ?_) (fun i W hi ⟨f0, f1, f2, f3, f4, f5, f6⟩ ih => ?_) 0 V (Nat.zero_le _) ⟨fun b j hb => rfl, h1, h2, fun r hr => by rw [if_neg (by omega)]; exact h3 r hr, fun r j hr => by omega, fun r j _ hr hj => h4 r j hr hj, fun i hi => h5 i hi⟩
  · -- the signs
    refine b169_2 ha ⟨by omega, by simp only [tn0]; omega, fun _ => ?_, fun h => by simp only [tn0] at h; omega⟩
    refine kloop (rwn R - 1) (fun m W' => c ≤ m ∧ (∀ b j, b ≠ a → W' b j = V b j) ∧ W' a 0 = (R.1.length : Int) ∧ W' a 1 = (rwn R : Int) ∧ (∀ r, r < R.1.length → W' a (2 + r) = (rwL (rwDrop (2 ^ c) R) r : Int)) ∧ (∀ r j, r < R.1.length → j < rwL (rwDrop (2 ^ c) R) r → W' a (6 + 16 * r + j) = ((rwR (rwDrop (2 ^ c) R) r).getD j 0 : Int)) ∧ (∀ i, i < m → W' a (70 + i) = (rwDrop (2 ^ c) R).2.getD i 0) ∧ (∀ i, m ≤ i → i < rwn R → W' a (70 + i) = R.2.getD i 0))
      (fun m W' => kGo xs Lx (d + 0) 169 100 [some (.ref a), none, some (kI (m : Int)), none, none, none] [] W' _) (fun W' ⟨gm, g0, g1, g2, g3, g4, g5, g6⟩ => ?_) (fun m W' hm ⟨gm, g0, g1, g2, g3, g4, g5, g6⟩ ih => ?_) c W (by omega) ⟨Nat.le_refl _, f0, f1, f2, fun r hr => by rw [f3 r hr, if_pos hr], fun r j hr hj => f4 r j hr hj, fun i hi => ?_, fun i _ hi => f6 i hi⟩
    · refine b169_100 ha ⟨by omega, by simp only [tnn1]; omega, fun _ => ⟨rfl, k _ ⟨?_, ?_, fun i hi => ?_, fun i j hi hj => ?_, fun i hi => ?_⟩ (fun b j hb => by rw [up_ne (by omega)]; exact g0 b j hb)⟩, fun h => by simp only [tnn1] at h; omega⟩
      · simp only [tnn1]; rw [up_ne (by omega), rwDrop_len]; exact g1
      · simp only [tnn1]; rw [up_at, nD]; omega
      · rw [rwDrop_len] at hi
        simp only [tnn1]; rw [up_ne (by omega)]; exact g3 i hi
      · rw [rwDrop_len] at hi
        simp only [tnn1]; rw [up_ne (by omega)]; exact g4 i j hi hj
      · rw [nD] at hi
        simp only [tnn1]; rw [up_ne (by omega)]; exact g5 i hi
    · refine b169_100 ha ⟨by omega, by simp only [tnn1]; omega, fun h => by simp only [tnn1] at h; omega, fun h => ?_⟩
      simp only [tn_70, tn_71]
      refine ⟨by omega, by omega, ih _ ⟨by omega, fun b j hb => by rw [up_ne (by omega)]; exact g0 b j hb, by rw [up_ne (by omega)]; exact g1, by rw [up_ne (by omega)]; exact g2, fun r hr => by rw [up_ne (by omega)]; exact g3 r hr, fun r j hr hj => ?_, fun i hi => ?_, fun i hi hi2 => by rw [up_ne (by omega)]; exact g6 i (by omega) hi2⟩⟩
      · have h7 : rwL (rwDrop (2 ^ c) R) r ≤ 16 := by rw [LD r hr]; have := @rwq_le c (rwR R r) (rwL R r); have := rl r hr; omega
        rw [up_ne (by omega)]; exact g4 r j hr hj
      · by_cases e : i = m
        · subst e
          have e2 := rwSg_at (f := fun c => R.2.getD c 0) (b := 2 ^ c) (n := rwn R) (c := i + 1) (by omega) (by rw [bit_pow, if_neg (by omega)]; omega)
          rw [rwAhd_pow, if_pos (by omega), Nat.add_sub_cancel] at e2
          rw [up_at, show 70 + i + 1 = 70 + (i + 1) by omega, g6 (i + 1) (by omega) (by omega)]
          exact e2.symm
        · rw [up_ne (by omega)]; exact g5 i (by omega)
    · have e2 := rwSg_at (f := fun c => R.2.getD c 0) (b := 2 ^ c) (n := rwn R) (c := i) (by omega) (by rw [bit_pow, if_neg (by omega)]; omega)
      rw [rwAhd_pow, if_neg (by omega), Nat.sub_zero] at e2
      rw [f6 i (by omega)]
      exact e2.symm
  · refine b169_2 ha ⟨by omega, by simp only [tn0]; omega, fun h => by simp only [tn0] at h; omega, fun h => ?_⟩
    refine kloop (rwL R i) (fun m W' => (∀ b j, b ≠ a → W' b j = V b j) ∧ W' a 0 = (R.1.length : Int) ∧ W' a 1 = (rwn R : Int) ∧ (∀ r, r < R.1.length → W' a (2 + r) = if r < i then (rwL (rwDrop (2 ^ c) R) r : Int) else (rwL R r : Int)) ∧ (∀ r j, r < i → j < rwL (rwDrop (2 ^ c) R) r → W' a (6 + 16 * r + j) = ((rwR (rwDrop (2 ^ c) R) r).getD j 0 : Int)) ∧ (∀ j, j < rwq c (rwR R i) m → W' a (6 + 16 * i + j) = ((rwR (rwDrop (2 ^ c) R) i).getD j 0 : Int)) ∧ (∀ j, m ≤ j → j < rwL R i → W' a (6 + 16 * i + j) = ((rwR R i).getD j 0 : Int)) ∧ (∀ r j, i < r → r < R.1.length → j < rwL R r → W' a (6 + 16 * r + j) = ((rwR R r).getD j 0 : Int)) ∧ (∀ i, i < rwn R → W' a (70 + i) = R.2.getD i 0))
      (fun m W' => kGo xs Lx (d + 0) 169 14 [some (.ref a), some (kI c), some (kI (i : Int)), some (kI (rwq c (rwR R i) m : Int)), some (kI (m : Int)), none] [] W' _) (fun W' ⟨g0, g1, g2, g3, g4, g5, g6, g7, g8⟩ => ?_) (fun m W' hm ⟨g0, g1, g2, g3, g4, g5, g6, g7, g8⟩ ih2 => ?_) 0 W (Nat.zero_le _) ⟨f0, f1, f2, f3, f4, fun j hj => ?_, fun j _ hj => f5 i j (Nat.le_refl _) hi hj, fun r j hr hr2 hj => f5 r j (by omega) hr2 hj, f6⟩
    · have l0 := rl i hi
      have e1 := g3 i hi
      rw [if_neg (by omega)] at e1
      refine b169_14 ha ⟨by omega, by omega, by rw [tn_2, e1]; omega, fun _ => ?_, fun h => by rw [tn_2, e1] at h; omega⟩
      simp only [tn_2]
      have e2 := LD i hi
      have e3 := @rwq_le c (rwR R i) (rwL R i)
      refine ih _ ⟨fun b j hb => by rw [up_ne (by omega)]; exact g0 b j hb, by rw [up_ne (by omega)]; exact g1, by rw [up_ne (by omega)]; exact g2, fun r hr => ?_, fun r j hr hj => ?_, fun r j hr hr2 hj => by rw [up_ne (by omega)]; exact g7 r j (by omega) hr2 hj, fun q hq => by rw [up_ne (by omega)]; exact g8 q hq⟩
      · by_cases e : r = i
        · subst e; rw [up_at, if_pos (by omega), e2]
        · rw [up_ne (by omega), g3 r hr]
          by_cases e' : r < i
          · rw [if_pos e', if_pos (by omega)]
          · rw [if_neg e', if_neg (by omega)]
      · rw [up_ne (by omega)]
        by_cases e : r = i
        · subst e; exact g5 j (by omega)
        · exact g4 r j (by omega) hj
    · have l0 := rl i hi
      have e1 := g3 i hi
      rw [if_neg (by omega)] at e1
      have l1 := rwR_lt ok hi hm
      have e2 := g6 m (Nat.le_refl _) hm
      have e3 := @rwq_le c (rwR R i) m
      have upd : ∀ (y : Nat), rwq c (rwR R i) (m + 1) = rwq c (rwR R i) m + 1 → (rwR (rwDrop (2 ^ c) R) i).getD (rwq c (rwR R i) m) 0 = y → kGo xs Lx (d + 0) 169 14 [some (.ref a), some (kI c), some (kI (i : Int)), some (kI ((rwq c (rwR R i) m : Int) + 1)), some (kI ((m : Int) + 1)), none] [] (up W' a (6 + 16 * i + rwq c (rwR R i) m) (y : Int)) (fun r V' => r = none ∧ K V') := by
        intro y hy1 hy2
        rw [hy1] at ih2
        refine ih2 _ ⟨fun b j hb => by rw [up_ne (by omega)]; exact g0 b j hb, by rw [up_ne (by omega)]; exact g1, by rw [up_ne (by omega)]; exact g2, fun r hr => by rw [up_ne (by omega)]; exact g3 r hr, fun r j hr hj => ?_, fun j hj => ?_, fun j hj hj2 => by rw [up_ne (by omega)]; exact g6 j (by omega) hj2, fun r j hr hr2 hj => ?_, fun q hq => by rw [up_ne (by omega)]; exact g8 q hq⟩
        · have h7 : rwL (rwDrop (2 ^ c) R) r ≤ 16 := by rw [LD r (by omega)]; have := @rwq_le c (rwR R r) (rwL R r); have := rl r (by omega); omega
          rw [up_ne (by omega)]; exact g4 r j hr hj
        · by_cases e : j = rwq c (rwR R i) m
          · subst e; rw [up_at, hy2]
          · rw [up_ne (by omega)]; exact g5 j (by omega)
        · have := rl r hr2
          rw [up_ne (by omega)]; exact g7 r j hr hr2 hj
      refine b169_14 ha ⟨by omega, by omega, by rw [tn_2, e1]; omega, fun h => by rw [tn_2, e1] at h; omega, fun h => ⟨by omega, fun z hz => ?_⟩⟩
      rw [tn_6, e2] at hz
      subst hz
      simp only [tn_6]
      refine ⟨by omega, by omega, by omega, fun h => ?_, fun h => ?_⟩
      · obtain ⟨q1, q2⟩ := rwq_some (c := c) (l := rwR R i) hm (by omega)
        refine ⟨fun h' => ⟨by omega, ?_⟩, fun h' => ⟨by omega, ?_⟩⟩
        · refine upd _ q1 ?_
          rw [rwDrop_R hi, q2, if_neg (by omega)]
        · have := upd ((rwR R i).getD m 0 - 2) q1 (by rw [rwDrop_R hi, q2, if_pos (by omega)])
          rwa [show (((rwR R i).getD m 0 - 2 : Nat) : Int) = (((rwR R i).getD m 0 : Nat) : Int) - 2 by omega] at this
      · have q1 := rwq_none (c := c) (l := rwR R i) hm (by omega)
        rw [q1] at ih2
        exact ih2 W' ⟨g0, g1, g2, g3, g4, g5, fun j hj hj2 => g6 j (by omega) hj2, g7, g8⟩
    · have := @rwq_le c (rwR R i) 0
      omega
end RWH

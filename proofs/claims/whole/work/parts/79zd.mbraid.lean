/-! braids in the model -/
def ms (s g : Nat) : Nat := ((List.range s).filter (fun i => g / 2 ^ i % 2 != 1)).length
theorem ms_or : ∀ s, s < 5 → ∀ g, g < 16 → ∀ x, x < s → g / 2 ^ x % 2 ≠ 1 → ms s (g ||| 2 ^ x) + 1 = ms s g := by decide +kernel
theorem ms_le : ∀ s, s < 5 → ∀ g, g < 16 → ms s g ≤ s := by decide +kernel
theorem ms_zero : ∀ s, s < 5 → ∀ g, g < 16 → ∀ x, x < s → ms s g = 0 → g / 2 ^ x % 2 = 1 := by decide +kernel
theorem khas_bit (g x : Nat) : khas (g : Int) (x : Int) = if g / 2 ^ x % 2 = 1 then 1 else 0 := by
  unfold khas
  rw [tn, kc_div]
  by_cases h : g / 2 ^ x % 2 = 1
  · rw [if_pos h, if_pos (by omega)]
  · rw [if_neg h, if_neg (by omega)]
/-- a braid told to the end -/
def bgS (K W : Nat → Int) (T : Nat) : Prop := (∀ j, j < T → rdPass K W j) ∧ T ≤ 400 ∧ rdS K T = 8
section BGS
variable {K W : Nat → Int} {T : Nat}
theorem bgS.len (h : bgS K W T) : (rdT K T).length ≤ 8 := ((rdWell_all T h.1).c (by have := h.2.2; omega)).2.2.2
theorem bgS.k3 (h : bgS K W T) : K 0 = 3 ∧ 2 ≤ T ∧ K 1 = 6 := by
  have w := rdWell_all T h.1
  have a := w.g (by have := h.2.2; omega)
  have b := w.b (by omega)
  have := h.2.2
  exact ⟨by omega, a⟩
theorem bgS.last (h : bgS K W T) : 3 ≤ T ∧ K (T - 1) = 7 ∧ rdT K T = rdT K (T - 1) := by
  have k3 := h.k3
  have p := (h.1 (T - 1) (by omega)).2.1
  have e : rdS K (T - 1 + 1) = stB (rdS K (T - 1)) (K (T - 1)) := rfl
  have e8 := h.2.2
  have st := stB_step p
  rw [← e, show T - 1 + 1 = T by omega] at st
  unfold rdStep at st
  have e7 : K (T - 1) = 7 := by omega
  have eT : rdT K (T - 1 + 1) = rdT K (T - 1) := if_neg (by omega)
  rw [show T - 1 + 1 = T by omega] at eT
  refine ⟨?_, e7, eT⟩
  apply Decidable.byContradiction
  intro n
  rw [show T - 1 = 1 by omega] at e7
  omega
theorem bgS.mid (h : bgS K W T) {k : Nat} (h2 : 2 ≤ k) (hk : k + 1 < T) : K k ≠ 7 ∧ rdS K k ≠ 5 := by
  have w := rdWell_all k (fun j hj => h.1 j (by omega))
  constructor
  · intro e
    have p := (h.1 k (by omega)).2.1
    have st := stB_step p
    have p2 := (h.1 (k + 1) hk).2.1
    have st2 := stB_step p2
    have e1 : rdS K (k + 1) = stB (rdS K k) (K k) := rfl
    rw [← e1] at st
    have b := w.b (by omega)
    have k3 := h.k3
    unfold rdStep at st st2
    omega
  · intro e
    have := (w.d e).1
    omega
theorem bgS.at (h : bgS K W T) {i : Nat} (hi : i < (rdT K T).length) : 2 ≤ (rdT K T).getD i 0 ∧ (rdT K T).getD i 0 < T ∧ K ((rdT K T).getD i 0) = 6 := by
  obtain ⟨a, b, c, e, _⟩ := rdT_mem T h.1 _ (gd_mem hi)
  exact ⟨e h.k3.1, b, c⟩
end BGS
section MGD
variable {xs : Nat → Int32} {Lx d : Nat} {V : km_V}
/-- a strand of the model goes down -/
theorem sp_mgoes {a b : Nat → Nat} {n x : Nat} {rs : List (List Nat)} {l : List Nat} {G : Int → km_V → Prop} (hn : n ≤ 8) (h0 : V 308 0 = (rs.length : Int)) (h3 : rs.length ≤ 3) (hA : ∀ c, c < n → V 312 c = (a c : Int) ∧ V 308 (70 + c) = if b c = 1 then 1 else -1) (hb : ∀ c, c < n → b c ≤ 1) (ha : ∀ c, c < n → a c ≤ 3) (hx : x ≤ 4) (hw : kRw V (rs ++ [l])) (hl : rs.flatten.length + (l.length + (brL a b n x).length) ≤ 16) (k : ∀ X, kRw X (rs ++ [l ++ brL a b n x]) → (∀ c j, ¬ (c = 308 ∧ 2 ≤ j ∧ j < 70) → X c j = V c j) → G (brX a n x : Int) X) (hX : ∀ c, c ≤ n → brX a c x ≤ 4) : kCI xs Lx (d + 1) 152 7 [.ref 299, kI (x : Int), kI (n : Int)] V G := by
  refine b152_0 ?_
  refine kloop n (fun c X => kRw X (rs ++ [l ++ brL a b c x]) ∧ (∀ c' j, ¬ (c' = 308 ∧ 2 ≤ j ∧ j < 70) → X c' j = V c' j)) (fun c X => kGo xs Lx (d + 1) 152 5 [some (.ref 299), none, some (kI (n : Int)), some (kI (brX a c x : Int)), some (kI (c : Int)), none, none] [] X (fun r V' => ∃ v : Int, r = some (kI v) ∧ G v V')) (fun X hX' => ?_) (fun c X hc hX' ih => ?_) 0 V (Nat.zero_le _) ⟨by rw [show l ++ brL a b 0 x = l from List.append_nil l]; exact hw, fun _ _ _ => rfl⟩
  · obtain ⟨q1, q2⟩ := hX'
    exact b152_5 ⟨by omega, by omega, fun _ => ⟨_, rfl, k X q1 q2⟩, fun q => by omega⟩
  · obtain ⟨q1, q2⟩ := hX'
    have lX := hX c (by omega)
    have lX2 := hX (c + 1) (by omega)
    have z3 : X 312 c = (a c : Int) := by rw [q2 312 c (by omega)]; exact (hA c hc).1
    have z8 : X 308 (70 + c) = if b c = 1 then 1 else -1 := by rw [q2 308 (70 + c) (by omega)]; exact (hA c hc).2
    have z0 : X 308 0 = (rs.length : Int) := by rw [q2 308 0 (by omega)]; exact h0
    have lm := brL_mono (a := a) (b := b) (x := x) (m := c + 1) n (by omega)
    have hac := ha c hc
    have hbc := hb c hc
    have eL : brL a b (c + 1) x = brL a b c x ++ brO a b c (brX a c x) := rfl
    have eX : brX a (c + 1) x = brT a c (brX a c x) := rfl
    have push : ∀ v : Nat, brO a b c (brX a c x) = [v] → ∀ vi y : Int, vi = (v : Int) → y = (brT a c (brX a c x) : Int) → kCV xs Lx (d + 0) 149 3 [.ref 308, kI (rs.length : Int), kI vi] X (fun W1 => kGo xs Lx (d + 1) 152 128 [some (.ref 299), none, some (kI (n : Int)), some (kI y), some (kI (c : Int)), none, none] [] W1 (fun r V' => ∃ v : Int, r = some (kI v) ∧ G v V')) := by
      intro v hv vi y hvi hy
      subst hvi
      subst hy
      rw [eL, hv, List.length_append, List.length_singleton] at lm
      have lR : (rs ++ [l ++ brL a b c x]).length = rs.length + 1 := by rw [List.length_append, List.length_singleton]
      have gR : (rs ++ [l ++ brL a b c x]).getD rs.length [] = l ++ brL a b c x := by rw [gd_appr (Nat.le_refl _), Nat.sub_self]; rfl
      have fR : ∀ s, ((rs ++ [l ++ brL a b c x]).getD s []).length ≤ 16 := fun s => by
        have := fl_each (R := rs ++ [l ++ brL a b c x]) (s := s)
        rw [List.flatten_append, List.length_append] at this
        have e : ([l ++ brL a b c x] : List (List Nat)).flatten.length = l.length + (brL a b c x).length := by simp
        omega
      refine sp_madds (d := d) (r := rs.length) (v := v) (R := rs ++ [l ++ brL a b c x]) (by omega) (by omega) q1 (by rw [gR, List.length_append]; omega) fR (fun Z z1 z2 => b152_128 ?_)
      have eS : (rs ++ [l ++ brL a b c x]).set rs.length ((rs ++ [l ++ brL a b c x]).getD rs.length [] ++ [v]) = rs ++ [l ++ brL a b (c + 1) x] := by
        rw [gR, List.set_append_right _ _ (Nat.le_refl _), Nat.sub_self, eL, hv]
        simp [List.append_assoc]
      rw [eS] at z1
      have := ih Z ⟨z1, fun c' j hj => by rw [z2 c' j hj]; exact q2 c' j hj⟩
      rw [eX] at this
      exact this
    have rZ : kR (X 308 (70 + c)) := by rw [z8]; split <;> decide
    have go38 : (brX a c x = a c ∨ brX a c x = a c + 1) → kGo xs Lx (d + 1) 152 38 [some (.ref 299), none, some (kI (n : Int)), some (kI (brX a c x : Int)), some (kI (c : Int)), none, none] [] X (fun r V' => ∃ v : Int, r = some (kI v) ∧ G v V') := by
      intro hq
      refine b152_38 ?_
      rw [tn_70, tn, tn0, z0, z3]
      rw [z8] at rZ ⊢
      refine ⟨⟨by omega, by omega⟩, by omega, by omega, fun ne => ⟨⟨by omega, by omega⟩, rZ, fun s0 => ?_, fun s1 => ?_⟩, fun eq => ⟨⟨by omega, by omega⟩, rZ, fun s0 => ?_, fun s1 => ?_⟩⟩
      · have b0 : b c = 0 := by
          apply Decidable.byContradiction
          intro q
          exact s0 (if_pos (by omega))
        exact push (2 * c + (1 - b c)) (by unfold brO; rw [if_neg (by omega), if_pos (by omega)]) _ _ (by omega) (by unfold brT; rw [if_neg (by omega), if_pos (by omega)]; omega)
      · have b1 : b c = 1 := by
          apply Decidable.byContradiction
          intro q
          rw [if_neg q] at s1
          exact absurd s1 (by decide)
        exact push (2 * c + (1 - b c)) (by unfold brO; rw [if_neg (by omega), if_pos (by omega)]) _ _ (by omega) (by unfold brT; rw [if_neg (by omega), if_pos (by omega)]; omega)
      · have b0 : b c = 0 := by
          apply Decidable.byContradiction
          intro q
          exact s0 (if_pos (by omega))
        exact push (2 * c + b c) (by unfold brO; rw [if_pos (by omega)]) _ _ (by omega) (by unfold brT; rw [if_pos (by omega)]; omega)
      · have b1 : b c = 1 := by
          apply Decidable.byContradiction
          intro q
          rw [if_neg q] at s1
          exact absurd s1 (by decide)
        exact push (2 * c + b c) (by unfold brO; rw [if_pos (by omega)]) _ _ (by omega) (by unfold brT; rw [if_pos (by omega)]; omega)
    refine b152_5 ?_
    rw [tn, z3]
    refine ⟨by omega, by omega, fun q => by omega, fun _ => ⟨⟨by omega, by omega⟩, by omega, by omega, fun e => go38 (Or.inl (by omega)), fun n1 => ⟨by omega, fun e => go38 (Or.inr (by omega)), fun n2 => b152_128 ?_⟩⟩⟩
    have hv : brO a b c (brX a c x) = [] := by unfold brO; rw [if_neg (by omega), if_neg (by omega)]
    have ht : brT a c (brX a c x) = brX a c x := by unfold brT; rw [if_neg (by omega), if_neg (by omega)]
    have e2 : brL a b (c + 1) x = brL a b c x := by rw [eL, hv, List.append_nil]
    have := ih X (by rw [e2]; exact ⟨q1, q2⟩)
    rw [eX, ht] at this
    exact this
end MGD

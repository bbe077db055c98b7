/-! a text after t tokens: kinds K, values W, places P -/
def rdS (K : Nat → Int) : Nat → Int
  | 0 => 0
  | t + 1 => stB (rdS K t) (K t)
/-- the ints told (all but the strands) -/
def rdT (K : Nat → Int) : Nat → List Nat
  | 0 => []
  | t + 1 => if K t = 6 ∧ rdS K t ≠ 5 then rdT K t ++ [t] else rdT K t
/-- unlike ints of passes -/
def rdU (K W : Nat → Int) : Nat → List Int
  | 0 => []
  | t + 1 => if K t = 6 ∧ rdS K t = 2 ∧ W t ∉ rdU K W t then rdU K W t ++ [W t] else rdU K W t
/-- how many ints are told ahead of each ring -/
def rdF (K : Nat → Int) : Nat → List Nat
  | 0 => []
  | t + 1 => if K t = 2 then rdF K t ++ [(rdT K t).length] else rdF K t
def rdO (K : Nat → Int) (t : Nat) : Nat := if rdS K t = 3 then (rdT K t).length - 1 else (rdT K t).length
def rdRoom (K W : Nat → Int) (t : Nat) : Prop := (K t = 2 → (rdF K t).length < 4) ∧ (K t = 6 → rdS K t = 2 → W t ∈ rdU K W t ∨ (rdU K W t).length < 8) ∧ (rdS K t = 6 → K t = 6 ∨ K t = 9 → (rdT K t).length < 8)
def rdPass (K W : Nat → Int) (t : Nat) : Prop := K t ≠ 0 ∧ stB (rdS K t) (K t) ≠ -1 ∧ t < 400 ∧ rdRoom K W t
def rdFault (K : Nat → Int) (t : Nat) : Int := if K t = 0 then (if rdS K t = 0 ∨ rdS K t = 4 ∨ rdS K t = 8 then 0 else 1) else if stB (rdS K t) (K t) = -1 then 1 else 2
def rdSg (K : Nat → Int) (j : Nat) : Int := if K 0 = 3 then (if K (j - 1) = 9 then 0 else 1) else (if K (j + 1) = 8 then 1 else 0)
def rdOv (K : Nat → Int) (j : Nat) : Int := if K (j - 1) = 4 then 1 else 0
/-- which token follows in which state -/
def rdStep (s k s' : Int) : Prop := s = 0 ∧ k = 2 ∧ s' = 1 ∨ s = 0 ∧ k = 3 ∧ s' = 5 ∨ s = 1 ∧ k = 7 ∧ s' = 4 ∨ s = 1 ∧ (k = 4 ∨ k = 5) ∧ s' = 2 ∨ s = 2 ∧ k = 6 ∧ s' = 3 ∨ s = 3 ∧ (k = 8 ∨ k = 9) ∧ s' = 1 ∨ s = 4 ∧ k = 2 ∧ s' = 1 ∨ s = 5 ∧ k = 6 ∧ s' = 6 ∨ s = 6 ∧ k = 7 ∧ s' = 8 ∨ s = 6 ∧ k = 9 ∧ s' = 7 ∨ s = 6 ∧ k = 6 ∧ s' = 6 ∨ s = 7 ∧ k = 6 ∧ s' = 6
theorem stB_step {s k : Int} (h : stB s k ≠ -1) : rdStep s k (stB s k) := by
  by_cases h0 : s = 0
  · subst h0
    have hk : k = 2 ∨ k = 3 := by
      apply Decidable.byContradiction
      intro n
      apply h
      unfold stB
      rw [if_pos rfl]
      rw [if_neg (by omega), if_neg (by omega)]
    rcases hk with rfl | rfl <;> (unfold rdStep; decide)
  by_cases h1 : s = 1
  · subst h1
    have hk : k = 7 ∨ k = 4 ∨ k = 5 := by
      apply Decidable.byContradiction
      intro n
      apply h
      unfold stB
      rw [if_neg (by decide)]
      rw [if_pos rfl]
      rw [if_neg (by omega), if_neg (by omega)]
    rcases hk with rfl | rfl | rfl <;> (unfold rdStep; decide)
  by_cases h2 : s = 2
  · subst h2
    have hk : k = 6 := by
      apply Decidable.byContradiction
      intro n
      apply h
      unfold stB
      rw [if_neg (by decide)]
      rw [if_neg (by decide)]
      rw [if_pos rfl]
      rw [if_neg (by omega)]
    rcases hk with rfl <;> (unfold rdStep; decide)
  by_cases h3 : s = 3
  · subst h3
    have hk : k = 8 ∨ k = 9 := by
      apply Decidable.byContradiction
      intro n
      apply h
      unfold stB
      rw [if_neg (by decide)]
      rw [if_neg (by decide)]
      rw [if_neg (by decide)]
      rw [if_pos rfl]
      rw [if_neg (by omega)]
    rcases hk with rfl | rfl <;> (unfold rdStep; decide)
  by_cases h4 : s = 4
  · subst h4
    have hk : k = 2 := by
      apply Decidable.byContradiction
      intro n
      apply h
      unfold stB
      rw [if_neg (by decide)]
      rw [if_neg (by decide)]
      rw [if_neg (by decide)]
      rw [if_neg (by decide)]
      rw [if_pos rfl]
      rw [if_neg (by omega)]
    rcases hk with rfl <;> (unfold rdStep; decide)
  by_cases h5 : s = 5
  · subst h5
    have hk : k = 6 := by
      apply Decidable.byContradiction
      intro n
      apply h
      unfold stB
      rw [if_neg (by decide)]
      rw [if_neg (by decide)]
      rw [if_neg (by decide)]
      rw [if_neg (by decide)]
      rw [if_neg (by decide)]
      rw [if_pos rfl]
      rw [if_neg (by omega)]
    rcases hk with rfl <;> (unfold rdStep; decide)
  by_cases h6 : s = 6
  · subst h6
    have hk : k = 7 ∨ k = 9 ∨ k = 6 := by
      apply Decidable.byContradiction
      intro n
      apply h
      unfold stB
      rw [if_neg (by decide)]
      rw [if_neg (by decide)]
      rw [if_neg (by decide)]
      rw [if_neg (by decide)]
      rw [if_neg (by decide)]
      rw [if_neg (by decide)]
      rw [if_pos rfl]
      rw [if_neg (by omega), if_neg (by omega), if_neg (by omega)]
    rcases hk with rfl | rfl | rfl <;> (unfold rdStep; decide)
  by_cases h7 : s = 7
  · subst h7
    have hk : k = 6 := by
      apply Decidable.byContradiction
      intro n
      apply h
      unfold stB
      rw [if_neg (by decide)]
      rw [if_neg (by decide)]
      rw [if_neg (by decide)]
      rw [if_neg (by decide)]
      rw [if_neg (by decide)]
      rw [if_neg (by decide)]
      rw [if_neg (by decide)]
      rw [if_pos rfl]
      rw [if_neg (by omega)]
    rcases hk with rfl <;> (unfold rdStep; decide)
  · exfalso
    apply h
    unfold stB
    rw [if_neg h0, if_neg h1, if_neg h2, if_neg h3, if_neg h4, if_neg h5, if_neg h6, if_neg h7]
/-- the state of a text that could be told so far -/
def rdWell (K W : Nat → Int) (t : Nat) : Prop := (0 ≤ rdS K t ∧ rdS K t ≤ 8) ∧ (rdS K t = 0 → t = 0) ∧ (rdF K t).length ≤ 4 ∧ (rdU K W t).length ≤ 8 ∧ (1 ≤ t → (K 0 = 3 ↔ 5 ≤ rdS K t)) ∧ (5 ≤ rdS K t → 1 ≤ t ∧ rdF K t = [] ∧ rdU K W t = [] ∧ (rdT K t).length ≤ 8) ∧ (rdS K t = 5 → t = 1 ∧ rdT K t = []) ∧ (rdS K t = 7 → (rdT K t).length < 8 ∧ K (t - 1) = 9) ∧ (6 ≤ rdS K t → 2 ≤ t ∧ K 1 = 6) ∧ (rdS K t = 3 → 2 ≤ t ∧ 3 * (rdT K t).length ≤ t + 1 ∧ K (t - 1) = 6 ∧ rdT K t = rdT K (t - 1) ++ [t - 1] ∧ (K (t - 2) = 4 ∨ K (t - 2) = 5)) ∧ (rdS K t = 2 → 1 ≤ t ∧ 3 * (rdT K t).length + 1 ≤ t ∧ (K (t - 1) = 4 ∨ K (t - 1) = 5)) ∧ (rdS K t = 0 ∨ rdS K t = 1 ∨ rdS K t = 4 → 3 * (rdT K t).length ≤ t) ∧ (rdS K t = 6 → K (t - 1) = 6)
section RDW
variable {K W : Nat → Int} {t : Nat}
theorem rdWell.r (h : rdWell K W t) : 0 ≤ rdS K t ∧ rdS K t ≤ 8 := h.1
theorem rdWell.z (h : rdWell K W t) (a : rdS K t = 0) : t = 0 := h.2.1 a
theorem rdWell.f (h : rdWell K W t) : (rdF K t).length ≤ 4 := h.2.2.1
theorem rdWell.u (h : rdWell K W t) : (rdU K W t).length ≤ 8 := h.2.2.2.1
theorem rdWell.b (h : rdWell K W t) (a : 1 ≤ t) : K 0 = 3 ↔ 5 ≤ rdS K t := h.2.2.2.2.1 a
theorem rdWell.c (h : rdWell K W t) (a : 5 ≤ rdS K t) : 1 ≤ t ∧ rdF K t = [] ∧ rdU K W t = [] ∧ (rdT K t).length ≤ 8 := h.2.2.2.2.2.1 a
theorem rdWell.d (h : rdWell K W t) (a : rdS K t = 5) : t = 1 ∧ rdT K t = [] := h.2.2.2.2.2.2.1 a
theorem rdWell.e (h : rdWell K W t) (a : rdS K t = 7) : (rdT K t).length < 8 ∧ K (t - 1) = 9 := h.2.2.2.2.2.2.2.1 a
theorem rdWell.g (h : rdWell K W t) (a : 6 ≤ rdS K t) : 2 ≤ t ∧ K 1 = 6 := h.2.2.2.2.2.2.2.2.1 a
theorem rdWell.i (h : rdWell K W t) (a : rdS K t = 3) : 2 ≤ t ∧ 3 * (rdT K t).length ≤ t + 1 ∧ K (t - 1) = 6 ∧ rdT K t = rdT K (t - 1) ++ [t - 1] ∧ (K (t - 2) = 4 ∨ K (t - 2) = 5) := h.2.2.2.2.2.2.2.2.2.1 a
theorem rdWell.j (h : rdWell K W t) (a : rdS K t = 2) : 1 ≤ t ∧ 3 * (rdT K t).length + 1 ≤ t ∧ (K (t - 1) = 4 ∨ K (t - 1) = 5) := h.2.2.2.2.2.2.2.2.2.2.1 a
theorem rdWell.l (h : rdWell K W t) (a : rdS K t = 0 ∨ rdS K t = 1 ∨ rdS K t = 4) : 3 * (rdT K t).length ≤ t := h.2.2.2.2.2.2.2.2.2.2.2.1 a
theorem rdWell.m (h : rdWell K W t) (a : rdS K t = 6) : K (t - 1) = 6 := h.2.2.2.2.2.2.2.2.2.2.2.2 a
theorem rdRoom.r (h : rdRoom K W t) (a : K t = 2) : (rdF K t).length < 4 := h.1 a
theorem rdRoom.u (h : rdRoom K W t) (a : K t = 6) (b : rdS K t = 2) : W t ∈ rdU K W t ∨ (rdU K W t).length < 8 := h.2.1 a b
theorem rdRoom.b (h : rdRoom K W t) (a : rdS K t = 6) (b : K t = 6 ∨ K t = 9) : (rdT K t).length < 8 := h.2.2 a b
end RDW
theorem rdWell_all {K W : Nat → Int} : ∀ t, (∀ j, j < t → rdPass K W j) → rdWell K W t := by
  intro t
  induction t with
  | zero => intro _; unfold rdWell; simp [rdS, rdF, rdU, rdT]
  | succ t ih =>
    intro h
    obtain ⟨p1, p2, p3, p4⟩ := h t (by omega)
    have w := ih (fun j hj => h j (by omega))
    have st := stB_step p2
    have eS : rdS K (t + 1) = stB (rdS K t) (K t) := rfl
    have eT : rdT K (t + 1) = if K t = 6 ∧ rdS K t ≠ 5 then rdT K t ++ [t] else rdT K t := rfl
    have eU : rdU K W (t + 1) = if K t = 6 ∧ rdS K t = 2 ∧ W t ∉ rdU K W t then rdU K W t ++ [W t] else rdU K W t := rfl
    have eF : rdF K (t + 1) = if K t = 2 then rdF K t ++ [(rdT K t).length] else rdF K t := rfl
    have lU : (rdU K W (t + 1)).length ≤ 8 := by
      have wu := w.u
      rw [eU]
      by_cases hc : K t = 6 ∧ rdS K t = 2 ∧ W t ∉ rdU K W t
      · rw [if_pos hc, List.length_append, List.length_singleton]
        rcases p4.u hc.1 hc.2.1 with q | q
        · exact absurd q hc.2.2
        · omega
      · rw [if_neg hc]; exact wu
    clear h ih p1
    have lone : ∀ (l : List Nat) (x : Nat), (l ++ [x]).length = l.length + 1 := fun l x => by rw [List.length_append, List.length_singleton]
    unfold rdStep at st
    unfold rdWell
    rw [eS]
    rw [Nat.add_sub_cancel]
    rcases st with ⟨a, b, c⟩ | ⟨a, b, c⟩ | ⟨a, b, c⟩ | ⟨a, b, c⟩ | ⟨a, b, c⟩ | ⟨a, b, c⟩ | ⟨a, b, c⟩ | ⟨a, b, c⟩ | ⟨a, b, c⟩ | ⟨a, b, c⟩ | ⟨a, b, c⟩ | ⟨a, b, c⟩
    · have c2 := c
      rw [c]
      have hT : rdT K (t + 1) = rdT K t := by rw [eT, if_neg (by omega)]
      have hU : rdU K W (t + 1) = rdU K W t := by rw [eU, if_neg (fun q => by omega)]
      have hF : rdF K (t + 1) = rdF K t ++ [(rdT K t).length] := by rw [eF, if_pos b]
      have t0 := w.z a
      refine ⟨⟨by decide, by decide⟩, fun q => absurd q (by decide), ?_, lU, fun _ => ?_, fun q => absurd q (by decide), fun q => absurd q (by decide), fun q => absurd q (by decide), fun q => absurd q (by decide), fun q => absurd q (by decide), fun q => absurd q (by decide), fun _ => ?_, fun q => absurd q (by decide)⟩
      · rw [hF, lone]; have := p4.r b; omega
      · rw [← t0]; omega
      · rw [hT]; have := w.l (by omega); omega
    · have c2 := c
      rw [c]
      have hT : rdT K (t + 1) = rdT K t := by rw [eT, if_neg (by omega)]
      have hU : rdU K W (t + 1) = rdU K W t := by rw [eU, if_neg (fun q => by omega)]
      have hF : rdF K (t + 1) = rdF K t := by rw [eF, if_neg (by omega)]
      have t0 := w.z a
      refine ⟨⟨by decide, by decide⟩, fun q => absurd q (by decide), ?_, lU, fun _ => ?_, fun _ => ⟨by omega, ?_, ?_, ?_⟩, fun _ => ⟨by omega, ?_⟩, fun q => absurd q (by decide), fun q => absurd q (by decide), fun q => absurd q (by decide), fun q => absurd q (by decide), fun q => absurd q (by decide), fun q => absurd q (by decide)⟩
      · rw [hF]; exact w.f
      · rw [← t0]; omega
      · rw [hF, t0]; rfl
      · rw [hU, t0]; rfl
      · rw [hT, t0]; exact Nat.zero_le 8
      · rw [hT, t0]; rfl
    · have c2 := c
      rw [c]
      have hT : rdT K (t + 1) = rdT K t := by rw [eT, if_neg (by omega)]
      have hU : rdU K W (t + 1) = rdU K W t := by rw [eU, if_neg (fun q => by omega)]
      have hF : rdF K (t + 1) = rdF K t := by rw [eF, if_neg (by omega)]
      have t0 : 1 ≤ t := by
        apply Decidable.byContradiction
        intro q
        have q2 : t = 0 := by omega
        rw [q2] at a
        have a0 : rdS K 0 = 0 := rfl
        omega
      refine ⟨⟨by decide, by decide⟩, fun q => absurd q (by decide), ?_, lU, fun _ => ?_, fun q => absurd q (by decide), fun q => absurd q (by decide), fun q => absurd q (by decide), fun q => absurd q (by decide), fun q => absurd q (by decide), fun q => absurd q (by decide), fun _ => ?_, fun q => absurd q (by decide)⟩
      · rw [hF]; exact w.f
      · have := w.b t0; omega
      · rw [hT]; have := w.l (by omega); omega
    · have c2 := c
      rw [c]
      have hT : rdT K (t + 1) = rdT K t := by rw [eT, if_neg (by omega)]
      have hU : rdU K W (t + 1) = rdU K W t := by rw [eU, if_neg (fun q => by omega)]
      have hF : rdF K (t + 1) = rdF K t := by rw [eF, if_neg (by omega)]
      have t0 : 1 ≤ t := by
        apply Decidable.byContradiction
        intro q
        have q2 : t = 0 := by omega
        rw [q2] at a
        have a0 : rdS K 0 = 0 := rfl
        omega
      refine ⟨⟨by decide, by decide⟩, fun q => absurd q (by decide), ?_, lU, fun _ => ?_, fun q => absurd q (by decide), fun q => absurd q (by decide), fun q => absurd q (by decide), fun q => absurd q (by decide), fun q => absurd q (by decide), fun _ => ⟨by omega, ?_, b⟩, fun q => absurd q (by decide), fun q => absurd q (by decide)⟩
      · rw [hF]; exact w.f
      · have := w.b t0; omega
      · rw [hT]; have := w.l (by omega); omega
    · have c2 := c
      rw [c]
      have hT : rdT K (t + 1) = rdT K t ++ [t] := by rw [eT, if_pos ⟨b, by omega⟩]
      have hF : rdF K (t + 1) = rdF K t := by rw [eF, if_neg (by omega)]
      have t0 : 1 ≤ t := by
        apply Decidable.byContradiction
        intro q
        have q2 : t = 0 := by omega
        rw [q2] at a
        have a0 : rdS K 0 = 0 := rfl
        omega
      refine ⟨⟨by decide, by decide⟩, fun q => absurd q (by decide), ?_, lU, fun _ => ?_, fun q => absurd q (by decide), fun q => absurd q (by decide), fun q => absurd q (by decide), fun q => absurd q (by decide), fun _ => ⟨by omega, ?_, b, hT, ?_⟩, fun q => absurd q (by decide), fun q => absurd q (by decide), fun q => absurd q (by decide)⟩
      · rw [hF]; exact w.f
      · have := w.b t0; omega
      · rw [hT, lone]; have := (w.j a).2.1; omega
      · rw [show t + 1 - 2 = t - 1 by omega]; exact (w.j a).2.2
    · have c2 := c
      rw [c]
      have hT : rdT K (t + 1) = rdT K t := by rw [eT, if_neg (by omega)]
      have hU : rdU K W (t + 1) = rdU K W t := by rw [eU, if_neg (fun q => by omega)]
      have hF : rdF K (t + 1) = rdF K t := by rw [eF, if_neg (by omega)]
      have t0 : 1 ≤ t := by
        apply Decidable.byContradiction
        intro q
        have q2 : t = 0 := by omega
        rw [q2] at a
        have a0 : rdS K 0 = 0 := rfl
        omega
      refine ⟨⟨by decide, by decide⟩, fun q => absurd q (by decide), ?_, lU, fun _ => ?_, fun q => absurd q (by decide), fun q => absurd q (by decide), fun q => absurd q (by decide), fun q => absurd q (by decide), fun q => absurd q (by decide), fun q => absurd q (by decide), fun _ => ?_, fun q => absurd q (by decide)⟩
      · rw [hF]; exact w.f
      · have := w.b t0; omega
      · rw [hT]; have := (w.i a).2.1; omega
    · have c2 := c
      rw [c]
      have hT : rdT K (t + 1) = rdT K t := by rw [eT, if_neg (by omega)]
      have hU : rdU K W (t + 1) = rdU K W t := by rw [eU, if_neg (fun q => by omega)]
      have hF : rdF K (t + 1) = rdF K t ++ [(rdT K t).length] := by rw [eF, if_pos b]
      have t0 : 1 ≤ t := by
        apply Decidable.byContradiction
        intro q
        have q2 : t = 0 := by omega
        rw [q2] at a
        have a0 : rdS K 0 = 0 := rfl
        omega
      refine ⟨⟨by decide, by decide⟩, fun q => absurd q (by decide), ?_, lU, fun _ => ?_, fun q => absurd q (by decide), fun q => absurd q (by decide), fun q => absurd q (by decide), fun q => absurd q (by decide), fun q => absurd q (by decide), fun q => absurd q (by decide), fun _ => ?_, fun q => absurd q (by decide)⟩
      · rw [hF, lone]; have := p4.r b; omega
      · have := w.b t0; omega
      · rw [hT]; have := w.l (by omega); omega
    · have c2 := c
      rw [c]
      have hT : rdT K (t + 1) = rdT K t := by rw [eT, if_neg (by omega)]
      have hU : rdU K W (t + 1) = rdU K W t := by rw [eU, if_neg (fun q => by omega)]
      have hF : rdF K (t + 1) = rdF K t := by rw [eF, if_neg (by omega)]
      have t0 : 1 ≤ t := by
        apply Decidable.byContradiction
        intro q
        have q2 : t = 0 := by omega
        rw [q2] at a
        have a0 : rdS K 0 = 0 := rfl
        omega
      refine ⟨⟨by decide, by decide⟩, fun q => absurd q (by decide), ?_, lU, fun _ => ?_, fun _ => ⟨by omega, ?_, ?_, ?_⟩, fun q => absurd q (by decide), fun q => absurd q (by decide), fun _ => ⟨by omega, ?_⟩, fun q => absurd q (by decide), fun q => absurd q (by decide), fun q => absurd q (by decide), fun _ => b⟩
      · rw [hF]; exact w.f
      · have := w.b t0; omega
      · rw [hF]; exact (w.c (by omega)).2.1
      · rw [hU]; exact (w.c (by omega)).2.2.1
      · rw [hT]; exact (w.c (by omega)).2.2.2
      · have z := (w.d a).1; rw [z] at b; exact b
    · have c2 := c
      rw [c]
      have hT : rdT K (t + 1) = rdT K t := by rw [eT, if_neg (by omega)]
      have hU : rdU K W (t + 1) = rdU K W t := by rw [eU, if_neg (fun q => by omega)]
      have hF : rdF K (t + 1) = rdF K t := by rw [eF, if_neg (by omega)]
      have t0 : 1 ≤ t := by
        apply Decidable.byContradiction
        intro q
        have q2 : t = 0 := by omega
        rw [q2] at a
        have a0 : rdS K 0 = 0 := rfl
        omega
      refine ⟨⟨by decide, by decide⟩, fun q => absurd q (by decide), ?_, lU, fun _ => ?_, fun _ => ⟨by omega, ?_, ?_, ?_⟩, fun q => absurd q (by decide), fun q => absurd q (by decide), fun _ => ⟨by omega, (w.g (by omega)).2⟩, fun q => absurd q (by decide), fun q => absurd q (by decide), fun q => absurd q (by decide), fun q => absurd q (by decide)⟩
      · rw [hF]; exact w.f
      · have := w.b t0; omega
      · rw [hF]; exact (w.c (by omega)).2.1
      · rw [hU]; exact (w.c (by omega)).2.2.1
      · rw [hT]; exact (w.c (by omega)).2.2.2
    · have c2 := c
      rw [c]
      have hT : rdT K (t + 1) = rdT K t := by rw [eT, if_neg (by omega)]
      have hU : rdU K W (t + 1) = rdU K W t := by rw [eU, if_neg (fun q => by omega)]
      have hF : rdF K (t + 1) = rdF K t := by rw [eF, if_neg (by omega)]
      have t0 : 1 ≤ t := by
        apply Decidable.byContradiction
        intro q
        have q2 : t = 0 := by omega
        rw [q2] at a
        have a0 : rdS K 0 = 0 := rfl
        omega
      refine ⟨⟨by decide, by decide⟩, fun q => absurd q (by decide), ?_, lU, fun _ => ?_, fun _ => ⟨by omega, ?_, ?_, ?_⟩, fun q => absurd q (by decide), fun _ => ⟨?_, b⟩, fun _ => ⟨by omega, (w.g (by omega)).2⟩, fun q => absurd q (by decide), fun q => absurd q (by decide), fun q => absurd q (by decide), fun q => absurd q (by decide)⟩
      · rw [hF]; exact w.f
      · have := w.b t0; omega
      · rw [hF]; exact (w.c (by omega)).2.1
      · rw [hU]; exact (w.c (by omega)).2.2.1
      · rw [hT]; exact (w.c (by omega)).2.2.2
      · rw [hT]; exact p4.b a (Or.inr b)
    · have c2 := c
      rw [c]
      have hT : rdT K (t + 1) = rdT K t ++ [t] := by rw [eT, if_pos ⟨b, by omega⟩]
      have hU : rdU K W (t + 1) = rdU K W t := by rw [eU, if_neg (fun q => by omega)]
      have hF : rdF K (t + 1) = rdF K t := by rw [eF, if_neg (by omega)]
      have t0 : 1 ≤ t := by
        apply Decidable.byContradiction
        intro q
        have q2 : t = 0 := by omega
        rw [q2] at a
        have a0 : rdS K 0 = 0 := rfl
        omega
      refine ⟨⟨by decide, by decide⟩, fun q => absurd q (by decide), ?_, lU, fun _ => ?_, fun _ => ⟨by omega, ?_, ?_, ?_⟩, fun q => absurd q (by decide), fun q => absurd q (by decide), fun _ => ⟨by omega, (w.g (by omega)).2⟩, fun q => absurd q (by decide), fun q => absurd q (by decide), fun q => absurd q (by decide), fun _ => b⟩
      · rw [hF]; exact w.f
      · have := w.b t0; omega
      · rw [hF]; exact (w.c (by omega)).2.1
      · rw [hU]; exact (w.c (by omega)).2.2.1
      · rw [hT, lone]; have := p4.b a (Or.inl b); omega
    · have c2 := c
      rw [c]
      have hT : rdT K (t + 1) = rdT K t ++ [t] := by rw [eT, if_pos ⟨b, by omega⟩]
      have hU : rdU K W (t + 1) = rdU K W t := by rw [eU, if_neg (fun q => by omega)]
      have hF : rdF K (t + 1) = rdF K t := by rw [eF, if_neg (by omega)]
      have t0 : 1 ≤ t := by
        apply Decidable.byContradiction
        intro q
        have q2 : t = 0 := by omega
        rw [q2] at a
        have a0 : rdS K 0 = 0 := rfl
        omega
      refine ⟨⟨by decide, by decide⟩, fun q => absurd q (by decide), ?_, lU, fun _ => ?_, fun _ => ⟨by omega, ?_, ?_, ?_⟩, fun q => absurd q (by decide), fun q => absurd q (by decide), fun _ => ⟨by omega, (w.g (by omega)).2⟩, fun q => absurd q (by decide), fun q => absurd q (by decide), fun q => absurd q (by decide), fun _ => b⟩
      · rw [hF]; exact w.f
      · have := w.b t0; omega
      · rw [hF]; exact (w.c (by omega)).2.1
      · rw [hU]; exact (w.c (by omega)).2.2.1
      · rw [hT, lone]; have := (w.e a).1; omega
theorem rdS_pos {K W : Nat → Int} {t : Nat} (h : ∀ j, j < t → rdPass K W j) (h1 : 1 ≤ t) : K 0 = 2 ∨ K 0 = 3 := by
  have p := (h 0 (by omega)).2.1
  have := stB_step p
  have e : rdS K 0 = 0 := rfl
  unfold rdStep at this
  omega
/-- every int told: what stands about it -/
theorem rdT_mem {K W : Nat → Int} : ∀ t, (∀ j, j < t → rdPass K W j) → ∀ j, j ∈ rdT K t → 1 ≤ j ∧ j < t ∧ K j = 6 ∧ (K 0 = 3 → 2 ≤ j) ∧ (K 0 = 2 → rdS K j = 2 ∧ W j ∈ rdU K W t ∧ (K (j - 1) = 4 ∨ K (j - 1) = 5) ∧ (j + 1 < t → K (j + 1) = 8 ∨ K (j + 1) = 9)) := by
  intro t
  induction t with
  | zero => intro _ j hj; exact absurd hj (by simp [rdT])
  | succ t ih =>
    intro h j hj
    have w := rdWell_all t (fun j hj => h j (by omega))
    obtain ⟨p1, p2, p3, p4⟩ := h t (by omega)
    have st := stB_step p2
    have mU : ∀ x, x ∈ rdU K W t → x ∈ rdU K W (t + 1) := by
      intro x hx
      show x ∈ (if K t = 6 ∧ rdS K t = 2 ∧ W t ∉ rdU K W t then rdU K W t ++ [W t] else rdU K W t)
      split
      · exact List.mem_append_left _ hx
      · exact hx
    have hj' : j ∈ (if K t = 6 ∧ rdS K t ≠ 5 then rdT K t ++ [t] else rdT K t) := hj
    have old : j ∈ rdT K t → 1 ≤ j ∧ j < t + 1 ∧ K j = 6 ∧ (K 0 = 3 → 2 ≤ j) ∧ (K 0 = 2 → rdS K j = 2 ∧ W j ∈ rdU K W (t + 1) ∧ (K (j - 1) = 4 ∨ K (j - 1) = 5) ∧ (j + 1 < t + 1 → K (j + 1) = 8 ∨ K (j + 1) = 9)) := by
      intro hm
      obtain ⟨a1, a2, a3, a4, a5⟩ := ih (fun j hj => h j (by omega)) j hm
      refine ⟨a1, by omega, a3, a4, fun hk => ?_⟩
      obtain ⟨b1, b2, b3, b4⟩ := a5 hk
      refine ⟨b1, mU _ b2, b3, fun hlt => ?_⟩
      by_cases e : j + 1 = t
      · have e2 : rdS K t = 3 := by
          rw [← e]
          show stB (rdS K j) (K j) = 3
          rw [b1, a3]; decide
        unfold rdStep at st
        rw [e]
        omega
      · exact b4 (by omega)
    split at hj'
    · rename_i hc
      rcases List.mem_append.mp hj' with hm | hm
      · exact old hm
      · have e := List.mem_singleton.mp hm
        subst e
        have w5' : 1 ≤ j := by
          apply Decidable.byContradiction
          intro n
          have z : j = 0 := by omega
          have : rdS K j = 0 := by rw [z]; rfl
          unfold rdStep at st
          omega
        have w5'' := w.b w5'
        unfold rdStep at st
        refine ⟨w5', by omega, hc.1, fun hk => ?_, fun hk => ?_⟩
        · have := w.g (by omega); omega
        · have s2 : rdS K j = 2 := by omega
          refine ⟨s2, ?_, ?_, fun n => by omega⟩
          · show W j ∈ (if K j = 6 ∧ rdS K j = 2 ∧ W j ∉ rdU K W j then rdU K W j ++ [W j] else rdU K W j)
            split
            · exact List.mem_append_right _ (List.mem_singleton.mpr rfl)
            · rename_i hn
              exact Decidable.byContradiction (fun q => hn ⟨hc.1, s2, q⟩)
          · have := (w.j s2).2.2; exact this
    · exact old hj'
theorem rdU_nodup {K W : Nat → Int} : ∀ t, (rdU K W t).Nodup := by
  intro t
  induction t with
  | zero => exact List.nodup_nil
  | succ t ih =>
    show (if K t = 6 ∧ rdS K t = 2 ∧ W t ∉ rdU K W t then rdU K W t ++ [W t] else rdU K W t).Nodup
    split
    · rename_i h
      refine List.nodup_append.mpr ⟨ih, List.nodup_cons.mpr ⟨by simp, List.nodup_nil⟩, ?_⟩
      intro a ha b hb e
      have := List.mem_singleton.mp hb
      subst this
      subst e
      exact h.2.2 ha
    · exact ih
theorem rdU_mem {K W : Nat → Int} : ∀ t x, x ∈ rdU K W t → ∃ j, K j = 6 ∧ W j = x := by
  intro t
  induction t with
  | zero => intro x hx; exact absurd hx (by simp [rdU])
  | succ t ih =>
    intro x hx
    have hx' : x ∈ (if K t = 6 ∧ rdS K t = 2 ∧ W t ∉ rdU K W t then rdU K W t ++ [W t] else rdU K W t) := hx
    split at hx'
    · rename_i h
      rcases List.mem_append.mp hx' with q | q
      · exact ih x q
      · exact ⟨t, h.1, (List.mem_singleton.mp q).symm⟩
    · exact ih x hx'

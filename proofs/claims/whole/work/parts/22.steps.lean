/-! THE LOGIC'S JUDGEMENT: from this place, with this view, the run comes to an end, and Q holds of its answer and view -/
def kGo (xs : Nat → Int32) (Lx d m pc : Nat) (ls : km_L) (st : List Value) (V : km_V) (Q : Option Value → km_V → Prop) : Prop := ∀ L, km_Vw V L → ∃ (f : Nat) (r : Option Value) (L' : km_M) (V' : km_V), km_run xs Lx f d m pc ls st L = some (r, L') ∧ km_Vw V' L' ∧ Q r V'
theorem kGo.mono {xs : Nat → Int32} {Lx d m pc : Nat} {ls : km_L} {st : List Value} {V : km_V} {Q Q' : Option Value → km_V → Prop} (h : kGo xs Lx d m pc ls st V Q) (hq : ∀ r V', Q r V' → Q' r V') : kGo xs Lx d m pc ls st V Q' := by
  intro L hL
  obtain ⟨f, r, L', V', h1, h2, h3⟩ := h L hL
  exact ⟨f, r, L', V', h1, h2, hq _ _ h3⟩
theorem kGo.weak {xs : Nat → Int32} {Lx d m pc : Nat} {ls ls' : km_L} {st : List Value} {V : km_V} {Q : Option Value → km_V → Prop} (hl : km_Le ls ls') (h : kGo xs Lx d m pc ls st V Q) : kGo xs Lx d m pc ls' st V Q := by
  intro L hL
  obtain ⟨f, r, L', V', h1, h2⟩ := h L hL
  exact ⟨f, r, L', V', km_run_le _ _ _ _ _ _ _ _ h1 f ls' (Nat.le_refl f) hl, h2⟩
def km_leb : km_L → km_L → Bool
  | [], [] => true
  | none :: t, _ :: t' => km_leb t t'
  | _, _ => false
section ST
variable {xs : Nat → Int32} {Lx d m pc : Nat} {ls : km_L} {st : List Value} {V : km_V} {Q : Option Value → km_V → Prop} {q : km_Q}
theorem g_pure {ins : KI} {st' : List Value} (hq : km_T[m]? = some q) (hi : km_at q.2.2.2.2.2.2.2 pc = some ins) (hp : km_pure q.2.2.2.2.1 ins st = some st') (k : kGo xs Lx d m (pc + km_len ins) ls st' V Q) : kGo xs Lx d m pc ls st V Q := by
  intro L hL
  obtain ⟨f, r, L', V', h1, h2⟩ := k L hL
  refine ⟨f + 1, r, L', V', ?_, h2⟩
  unfold km_run
  simp only [hq, hi, hp]
  exact h1
theorem g_loc {ins : KI} {ls' : km_L} {st' : List Value} (hq : km_T[m]? = some q) (hi : km_at q.2.2.2.2.2.2.2 pc = some ins) (hp : km_pure q.2.2.2.2.1 ins st = none) (hl : km_loc ins ls st = some (ls', st')) (k : kGo xs Lx d m (pc + km_len ins) ls' st' V Q) : kGo xs Lx d m pc ls st V Q := by
  intro L hL
  obtain ⟨f, r, L', V', h1, h2⟩ := k L hL
  refine ⟨f + 1, r, L', V', ?_, h2⟩
  unfold km_run
  simp only [hq, hi, hp, hl]
  exact h1
theorem g_jmp {ins : KI} {pc' : Nat} {st' : List Value} (hq : km_T[m]? = some q) (hi : km_at q.2.2.2.2.2.2.2 pc = some ins) (hp : km_pure q.2.2.2.2.1 ins st = none) (hl : km_loc ins ls st = none) (hj : km_jmp pc ins st = some (pc', st')) (k : kGo xs Lx d m pc' ls st' V Q) : kGo xs Lx d m pc ls st V Q := by
  intro L hL
  obtain ⟨f, r, L', V', h1, h2⟩ := k L hL
  refine ⟨f + 1, r, L', V', ?_, h2⟩
  unfold km_run
  simp only [hq, hi, hp, hl, hj]
  exact h1
theorem g_mem {ins : KI} {st' : List Value} {V1 : km_V} (hq : km_T[m]? = some q) (hi : km_at q.2.2.2.2.2.2.2 pc = some ins) (hp : km_pure q.2.2.2.2.1 ins st = none) (hl : km_loc ins ls st = none) (hj : km_jmp pc ins st = none) (hm : ∀ L, km_Vw V L → ∃ L1, km_mem xs Lx q.2.2.2.2.1 (km_init m) ins st L = some (st', L1) ∧ km_Vw V1 L1) (k : kGo xs Lx d m (pc + km_len ins) ls st' V1 Q) : kGo xs Lx d m pc ls st V Q := by
  intro L hL
  obtain ⟨L1, e1, e2⟩ := hm L hL
  obtain ⟨f, r, L', V', h1, h2⟩ := k L1 e2
  refine ⟨f + 1, r, L', V', ?_, h2⟩
  unfold km_run
  simp only [hq, hi, hp, hl, hj, e1]
  exact h1
theorem g_ret {ins : KI} {r : Option Value} (hq : km_T[m]? = some q) (hi : km_at q.2.2.2.2.2.2.2 pc = some ins) (hp : km_pure q.2.2.2.2.1 ins st = none) (hl : km_loc ins ls st = none) (hj : km_jmp pc ins st = none) (hm : ∀ L, km_mem xs Lx q.2.2.2.2.1 (km_init m) ins st L = none) (hr : km_ret q.2.2.2.1 ins st = some r) (k : Q r V) : kGo xs Lx d m pc ls st V Q := by
  intro L hL
  refine ⟨1, r, L, V, ?_, hL, k⟩
  unfold km_run
  simp only [hq, hi, hp, hl, hj, hm L, hr]
theorem g_inv {ins : KI} {j : Nat} {as rest : List Value} {qj : km_Q} (hq : km_T[m]? = some q) (hi : km_at q.2.2.2.2.2.2.2 pc = some ins) (hp : km_pure q.2.2.2.2.1 ins st = none) (hl : km_loc ins ls st = none) (hj : km_jmp pc ins st = none) (hm : ∀ L, km_mem xs Lx q.2.2.2.2.1 (km_init m) ins st L = none) (hr : km_ret q.2.2.2.1 ins st = none) (hv : ∀ L, km_Vw V L → km_inv q.2.2.2.2.1 ins st L = some (j, as, rest)) (hqj : km_T[j]? = some qj) (hle : Nat.ble (km_lay as).length qj.2.2.1 = true)
    (k : kGo xs Lx d j 0 (km_ent qj.2.2.1 as) [] V (fun r V' => kGo xs Lx (d + 1) m (pc + 3) ls (r.toList ++ rest) V' Q)) : kGo xs Lx (d + 1) m pc ls st V Q := by
  intro L hL
  obtain ⟨f1, r1, L1, V1, h1, h2, h3⟩ := k L hL
  obtain ⟨f2, r2, L2, V2, h4, h5⟩ := h3 L1 h2
  refine ⟨f1 + f2 + 1, r2, L2, V2, ?_, h5⟩
  unfold km_run
  simp only [hq, hi, hp, hl, hj, hm L, hr, hv L hL, hqj, hle]
  rw [km_run_le _ _ _ _ _ _ _ _ h1 (f1 + f2) _ (by omega) km_Le.rf]
  exact km_run_le _ _ _ _ _ _ _ _ h4 (f1 + f2) _ (by omega) km_Le.rf
end ST

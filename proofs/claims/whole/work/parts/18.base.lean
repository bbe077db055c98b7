/-! small rows that both layers need -/
theorem km_cb {α : Type} {b : Bool} {x y : Option α} {v : α} (h : cond b x y = some v) : (b = true ∧ x = some v) ∨ (b = false ∧ y = some v) := by
  cases b
  · exact Or.inr ⟨rfl, h⟩
  · exact Or.inl ⟨rfl, h⟩
theorem km_ldA_s {ls ls' : km_L} {i : Nat} {st st' : List Value} (h : km_ldA ls i st = some (ls', st')) : ls' = ls ∧ ∃ x, ls[i]? = some (some (.ref x)) ∧ st' = .ref x :: st := by
  unfold km_ldA at h
  split at h
  · cases h; exact ⟨rfl, _, by assumption, rfl⟩
  · cases h
theorem km_ldI_s {ls ls' : km_L} {i : Nat} {st st' : List Value} (h : km_ldI ls i st = some (ls', st')) : ls' = ls ∧ ∃ x, ls[i]? = some (some (.int x)) ∧ st' = .int x :: st := by
  unfold km_ldI at h
  split at h
  · cases h; exact ⟨rfl, _, by assumption, rfl⟩
  · cases h
theorem km_ldJ_s {ls ls' : km_L} {i : Nat} {st st' : List Value} (h : km_ldJ ls i st = some (ls', st')) : ls' = ls ∧ ∃ x, ls[i]? = some (some (.long x)) ∧ st' = .long x :: st := by
  unfold km_ldJ at h
  split at h
  · cases h; exact ⟨rfl, _, by assumption, rfl⟩
  · cases h
theorem km_stA_s {ls ls' : km_L} {i : Nat} {st st' : List Value} (h : km_stA ls i st = some (ls', st')) : ∃ x, st = .ref x :: st' ∧ km_st1 ls i (.ref x) = some ls' := by
  unfold km_stA at h
  split at h
  · split at h
    · cases h; exact ⟨_, rfl, by assumption⟩
    · cases h
  · cases h
theorem km_stI_s {ls ls' : km_L} {i : Nat} {st st' : List Value} (h : km_stI ls i st = some (ls', st')) : ∃ x, st = .int x :: st' ∧ km_st1 ls i (.int x) = some ls' := by
  unfold km_stI at h
  split at h
  · split at h
    · cases h; exact ⟨_, rfl, by assumption⟩
    · cases h
  · cases h
theorem km_stJ_s {ls ls' : km_L} {i : Nat} {st st' : List Value} (h : km_stJ ls i st = some (ls', st')) : ∃ x, st = .long x :: st' ∧ km_st2 ls i (.long x) = some ls' := by
  unfold km_stJ at h
  split at h
  · split at h
    · cases h; exact ⟨_, rfl, by assumption⟩
    · cases h
  · cases h
theorem km_lt {L : km_M} {a : Nat} {q : km_C} (h : L[a]? = some q) : a < L.length := (List.getElem?_eq_some_iff.mp h).1
theorem km_po_at {j : Nat} {q : km_Q} (h : km_T[j]? = some q) : km_po j = q.2.2.2.2.1 ∧ km_na j = q.2.2.2.2.2.1 := by
  unfold km_po km_na
  rw [h]
  exact ⟨rfl, rfl⟩

theorem br_ok {a b : Nat → Nat} {n s : Nat} (s2 : 2 ≤ s) (s4 : s ≤ 4) (hn : n ≤ 8) (ha : ∀ c, c < n → a c + 2 ≤ s) (hb : ∀ c, c < n → b c ≤ 1) : rwOk (brRw a b n s) ∧ rwPl (brRw a b n s) := by
  sorry

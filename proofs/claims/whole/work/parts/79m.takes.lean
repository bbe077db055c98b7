/-! what a token begins -/
section TKS
variable {xs : Nat → Int32} {Lx d : Nat} {V : km_V}
theorem sp_takesRing {r told : Nat} {K : Int → km_V → Prop} (h3 : V 3 3 = (r : Int)) (h7 : V 3 7 = (told : Int)) (hr : r ≤ 4) (k1 : r < 4 → K 1 (up (up V 4 r (told : Int)) 3 3 ((r + 1 : Nat) : Int))) (k0 : r = 4 → K 0 V) : kCI xs Lx (d + 0) 46 1 [.ref 3] V K := by
  refine b46_0 ?_
  rw [up_ne (show ¬ (3 = 4 ∧ 3 = Int.toNat (V 3 3)) by omega), h3, h7, tn]
  exact ⟨by omega, fun h => ⟨by omega, _, rfl, k1 (by omega)⟩, fun h => ⟨_, rfl, k0 (by omega)⟩⟩
theorem sp_takesSign {told : Nat} {b : Int} {K : Int → km_V → Prop} (hb : b = 0 ∨ b = 1) (h7 : V 3 7 = (told : Int)) (ht : told < 134) (k1 : K 1 (up (up V 9 told b) 3 7 ((told + 1 : Nat) : Int))) : kCI xs Lx (d + 0) 47 2 [.ref 3, kI b] V K := by
  refine b47_0 ?_
  rw [up_ne (show ¬ (3 = 9 ∧ 7 = Int.toNat (V 3 7)) by omega), h7, tn]
  exact ⟨by omega, fun _ => ⟨by omega, hb, _, rfl, k1⟩, fun h => by omega⟩
theorem sp_fails {w p : Int} {K : Int → km_V → Prop} (k : K 0 (up (up V 3 0 w) 3 1 p)) : kCI xs Lx (d + 0) 42 3 [.ref 3, kI w, kI p] V K := b42_0 ⟨_, rfl, k⟩
end TKS

/-! the model goes from token to token -/
section MPA
variable {xs : Nat → Int32} {Lx d : Nat} {V : km_V}
theorem sp_mfail {t : Nat} {a p : Int} {K : km_V → Prop} (h11 : V 299 11 = (t : Int)) (ht : t < 403) (h12 : V 299 12 = 0) (hp : V 303 t = p) (k : K (up (up V 299 12 a) 299 13 p)) : kCV xs Lx (d + 0) 137 2 [.ref 299, kI a] V K := by
  refine b137_0 ?_
  rw [up_ne (show ¬ (299 = 299 ∧ 11 = 12) by omega), h11, h12, tn, up_ne (show ¬ (303 = 299 ∧ t = 12) by omega), hp]
  exact ⟨by omega, fun _ => ⟨by omega, rfl, k⟩, fun h => by omega⟩
theorem sp_mpasses {t : Nat} {p : Int} {K : km_V → Prop} (h11 : V 299 11 = (t : Int)) (ht : t ≤ 400) (h12 : V 299 12 = 0) (hp : V 303 t = p) (k1 : t < 400 → K (up V 299 11 ((t : Int) + 1))) (k0 : t = 400 → K (up (up V 299 12 2) 299 13 p)) : kCV xs Lx (d + 1) 139 1 [.ref 299] V K := by
  refine b139_0 ?_
  rw [h11]
  exact ⟨by omega, fun h => ⟨rfl, k1 (by omega)⟩, fun h => sp_mfail (d := d) h11 (by omega) h12 hp ⟨rfl, k0 (by omega)⟩⟩
end MPA

/-! what a token begins -/
section TKS
variable {xs : Nat → Int32} {Lx d : Nat} {V : km_V}
theorem sp_takesRing {r told : Nat} {K : Int → km_V → Prop} (h3 : V 3 3 = (r : Int)) (h7 : V 3 7 = (told : Int)) (hr : r ≤ 4) (k1 : r < 4 → K 1 (up (up V 4 r (told : Int)) 3 3 ((r + 1 : Nat) : Int))) (k0 : r = 4 → K 0 V) : kCI xs Lx (d + 0) 46 1 [.ref 3] V K := by
  refine b46_0 ?_
  rw [up_ne (show ¬ (3 = 4 ∧ 3 = Int.toNat (V 3 3)) by omega), h3, h7, tn]
  exact ⟨by omega, fun h => ⟨by omega, _, rfl, k1 (by omega)⟩, fun h => ⟨_, rfl, k0 (by omega)⟩⟩
theorem sp_takesSign {told : Nat} {b : Int} {K : Int → km_V → Prop} (hb : b = 0 ∨ b = 1) (h7 : V 3 7 = (told : Int)) (ht : told < 134) (k1 : K 1 (up (up V 9 told b) 3 7 ((told + 1 : Nat) : Int))) : kCI xs Lx (d + 0) 47 2 [.ref 3, kI b] V K := by
  refine b47_0 ?_
  rw [up_ne (show ¬ (3 = 9 ∧ 7 = Int.toNat (V 3 7)) by omega), h7, tn]
  exact ⟨by omega, fun _ => ⟨by omega, hb, _, rfl, k1⟩, fun h => by omega⟩
theorem sp_fails {w p : Int} {K : Int → km_V → Prop} (k : K 0 (up (up V 3 0 w) 3 1 p)) : kCI xs Lx (d + 0) 42 3 [.ref 3, kI w, kI p] V K := b42_0 ⟨_, rfl, k⟩
theorem sp_takesNumber {told : Nat} {v : Int} {un : List Int} {K : Int → km_V → Prop} (hu : un.length ≤ 8) (h6 : V 3 6 = (un.length : Int)) (h7 : V 3 7 = (told : Int)) (ht : told < 134) (hv : V 5 told = v) (hvr : kR v) (h10 : ∀ j, j < un.length → V 10 j = un.getD j 0 ∧ kR (un.getD j 0)) (k1 : ∀ c : Nat, c ≤ un.length → c < 8 → (∀ j, j < c → un.getD j 0 ≠ v) → (c < un.length → un.getD c 0 = v) → K 1 (up (up (up V 10 c v) 3 6 (kmax (un.length : Int) ((c : Int) + 1))) 7 told (c : Int))) (k0 : un.length = 8 → (∀ j, j < 8 → un.getD j 0 ≠ v) → K 0 V) : kCI xs Lx (d + 1) 49 2 [.ref 3] V K := by
  refine b49_0 ?_
  have e6 : ∀ (i : Nat) (y : Int), up V 10 i y 3 6 = V 3 6 := fun i y => up_ne (by omega)
  have e7 : ∀ (i : Nat) (y z : Int), up (up V 10 i y) 3 6 z 3 7 = V 3 7 := fun i y z => by rw [up_ne (by omega), up_ne (by omega)]
  have key := kloop0 un.length (fun c => (∀ j, j < c → un.getD j 0 ≠ v) → kGo xs Lx (d + 1) 49 2 [some (.ref 3), some (kI (c : Int))] [] V (fun r V' => ∃ v : Int, r = some (kI v) ∧ K v V')) (fun hh => ?_) (fun c hc ih hh => ?_) 0 (Nat.zero_le _) (fun j hj => by omega)
  · exact key
  · refine b49_2 ?_
    simp only [e6, e7]
    rw [h6, h7]
    simp only [tn]
    rw [hv]
    exact ⟨by omega, by omega, fun _ => ⟨fun l => ⟨by omega, by omega, by omega, by omega, by omega, _, rfl, k1 un.length (Nat.le_refl _) (by omega) hh (fun h => by omega)⟩, fun l => ⟨_, rfl, k0 (by omega) (fun j hj => hh j (by omega))⟩⟩, fun h => by omega⟩
  · obtain ⟨a, b⟩ := h10 c hc
    refine b49_2 ?_
    simp only [e6, e7]
    rw [h6, h7]
    simp only [tn]
    rw [hv, a]
    exact ⟨by omega, by omega, fun h => by omega, fun _ => ⟨by omega, by omega, b, hvr, fun ne => ih (fun j hj => by
      by_cases z : j = c
      · subst z; exact ne
      · exact hh j (by omega)), fun e => ⟨fun l => ⟨by omega, by omega, by omega, _, rfl, k1 c (by omega) (by omega) hh (fun _ => e)⟩, fun l => by omega⟩⟩⟩
end TKS

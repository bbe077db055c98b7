/-! how a text goes on -/
def stB (st k : Int) : Int := if st = 0 then (if k = 2 then 1 else if k = 3 then 5 else -1) else if st = 1 then (if k = 7 then 4 else if k = 4 ∨ k = 5 then 2 else -1) else if st = 2 then (if k = 6 then 3 else -1) else if st = 3 then (if k = 8 ∨ k = 9 then 1 else -1) else if st = 4 then (if k = 2 then 1 else -1) else if st = 5 then (if k = 6 then 6 else -1) else if st = 6 then (if k = 7 then 8 else if k = 9 then 7 else if k = 6 then 6 else -1) else if st = 7 then (if k = 6 then 6 else -1) else -1
theorem stB_r (st k : Int) : -1 ≤ stB st k ∧ stB st k ≤ 8 := by
  unfold stB; (repeat' split) <;> omega
section BEH
variable {xs : Nat → Int32} {Lx d : Nat} {V : km_V}
theorem sp_behind {st k : Int} {K : Int → km_V → Prop} (hs : kR st) (hk : kR k) (h : K (stB st k) V) : kCI xs Lx (d + 0) 44 2 [kI st, kI k] V K := by
  have fin : ∀ v : Int, stB st k = v → ∃ w : Int, some (kI v) = some (kI w) ∧ K w V := fun v hv => ⟨v, rfl, by rw [← hv]; exact h⟩
  refine b44_0 ⟨hs, fun e => fin _ ?_, fun e => ⟨hk, fun a => ⟨fun b => fin _ ?_, fun b => fin _ ?_⟩, fun a => fin _ ?_⟩, fun e => ⟨hk, fun a => ⟨fun b => fin _ ?_, fun b => ⟨fun c => fin _ ?_, fun c => fin _ ?_⟩⟩, fun a => fin _ ?_⟩, fun e => ⟨hk, fun a => fin _ ?_, fun a => fin _ ?_⟩, fun e => ⟨hk, fun a => fin _ ?_, fun a => ⟨fun b => fin _ ?_, fun b => fin _ ?_⟩⟩, fun e => ⟨hk, fun a => fin _ ?_, fun a => fin _ ?_⟩, fun e => ⟨hk, fun a => fin _ ?_, fun a => fin _ ?_⟩, fun e => ⟨hk, fun a => ⟨fun b => ⟨fun c => fin _ ?_, fun c => fin _ ?_⟩, fun b => fin _ ?_⟩, fun a => fin _ ?_⟩, fun e => ⟨hk, fun a => fin _ ?_, fun a => fin _ ?_⟩⟩
  all_goals (unfold stB; (repeat' split) <;> omega)
end BEH

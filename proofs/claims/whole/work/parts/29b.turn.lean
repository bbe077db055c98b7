def kturnA (V : km_V) (r : Nat) (w : Int) : Int :=
  if w % 2 = 0 then 4 * (V 313 (Int.toNat (V 315 (Int.toNat (w / 2)))) / 2) + (kein V r (V 315 (Int.toNat (w / 2))) + 1) % 4
  else 4 * (V 313 (Int.toNat (w / 2)) / 2) + ((kein V r (w / 2) + 2) % 4 + 1) % 4
def kturn (V : km_V) (r : Nat) (w : Int) : Int := 2 * V 317 (Int.toNat (kturnA V r w)) + (if V 318 (Int.toNat (kturnA V r w)) = 0 then 0 else 1)
def kturnC (V : km_V) (r : Nat) (w : Int) : Prop := (0 ≤ w ∧ w < 32) ∧ keinC V r (if w % 2 = 0 then V 315 (Int.toNat (w / 2)) else w / 2) ∧ kR (V 318 (Int.toNat (kturnA V r w)))
theorem kein_r (V : km_V) (r : Nat) (k : Int) : 0 ≤ kein V r k ∧ kein V r k < 4 := by
  unfold kein
  split
  · omega
  · split <;> omega
section PT
variable {xs : Nat → Int32} {Lx d : Nat} {V : km_V} {Q : Option Value → km_V → Prop}
theorem sp_turn {r : Nat} {w : Int} (hr : km_sh[r]? = some (11, 78)) (c : kturnC V r w) (k : Q (some (kI (kturn V r w))) V) : kGo xs Lx (d + 1) 159 0 [some (.ref 299), some (.ref r), some (kI w), none, none, none, none] [] V Q := by
  obtain ⟨c1, c2, c5⟩ := c
  unfold kturnA at c5
  unfold kturn kturnA at k
  refine b159_0 hr ⟨by omega, by omega, fun h => ?_, fun h => ?_⟩
  · rw [if_neg h] at k c2 c5
    have h0 := c2.1
    have h1 := c2.2.1
    have h2 := kein_r V r (w / 2)
    refine ⟨c2, by omega, fun z1 e1 => ⟨by omega, by omega, by omega, fun z2 e2 => ?_⟩⟩
    have hz : z2 = 4 * (V 313 (Int.toNat (w / 2)) / 2) + ((kein V r (w / 2) + 2) % 4 + 1) % 4 := by rw [e2, e1]
    rw [← hz] at k c5
    refine ⟨by omega, c5, fun h4 => ?_, fun h4 => ?_⟩
    · rwa [if_pos h4] at k
    · rwa [if_neg h4] at k
  · rw [if_pos h] at k c2 c5
    have h0 := c2.1
    have h1 := c2.2.1
    have h2 := kein_r V r (V 315 (Int.toNat (w / 2)))
    refine ⟨by omega, fun z5 e5 => ?_⟩
    subst e5
    refine ⟨c2, fun z6 e6 => ⟨h0, by omega, by omega, fun z7 e7 => ?_⟩⟩
    have hz : z7 = 4 * (V 313 (Int.toNat (V 315 (Int.toNat (w / 2)))) / 2) + (kein V r (V 315 (Int.toNat (w / 2))) + 1) % 4 := by rw [e7, e6]
    rw [← hz] at k c5
    refine ⟨by omega, c5, fun h4 => ?_, fun h4 => ?_⟩
    · rwa [if_pos h4] at k
    · rwa [if_neg h4] at k
end PT

theorem k_ush : ∀ k : Nat, k < 32 → ((Int32.ofInt (k : Int)).toUInt32 &&& Int32.toUInt32 31) = UInt32.ofNat k := by decide +kernel
theorem k_ushr {a k : Nat} (ha : a < 2147483648) (hk : k < 32) : ((Int32.ofInt (a : Int)).toUInt32 >>> ((Int32.ofInt (k : Int)).toUInt32 &&& Int32.toUInt32 31)).toInt32 = Int32.ofInt ((a / 2 ^ k : Nat) : Int) := by
  rw [k_ush k hk, ← Int32.toBitVec_inj]
  show (Int32.ofInt (a : Int)).toBitVec >>> ((UInt32.ofNat k).toBitVec % 32#32) = _
  rw [Int32.toBitVec_ofInt, Int32.toBitVec_ofInt, BitVec.ofInt_natCast, BitVec.ofInt_natCast]
  apply BitVec.eq_of_toNat_eq
  have h1 : ((UInt32.ofNat k).toBitVec % 32#32).toNat = k := by
    show (BitVec.ofNat 32 k % 32#32).toNat = k
    rw [BitVec.toNat_umod, BitVec.toNat_ofNat, BitVec.toNat_ofNat]
    rw [show (32 % 2 ^ 32 : Nat) = 32 from rfl, Nat.mod_eq_of_lt (show k < 2 ^ 32 by omega), Nat.mod_eq_of_lt hk]
  have h2 : a / 2 ^ k ≤ a := Nat.div_le_self _ _
  rw [BitVec.ushiftRight_eq', BitVec.toNat_ushiftRight, h1, BitVec.toNat_ofNat, BitVec.toNat_ofNat, Nat.shiftRight_eq_div_pow, Nat.mod_eq_of_lt (by omega), Nat.mod_eq_of_lt (by omega)]
section TU
variable {xs : Nat → Int32} {Lx d m pc : Nat} {ls : km_L} {st : List Value} {V : km_V} {Q : Option Value → km_V → Prop} {q : km_Q}
theorem g_iushr (pc' : Nat) {x y : Int} (hq : km_T[m]? = some q) (hi : km_at q.2.2.2.2.2.2.2 pc = some .iushr) (e : pc + 1 = pc') (hx : 0 ≤ x ∧ x ≤ 2147483647) (hy : 0 ≤ y ∧ y < 32) (k : kGo xs Lx d m pc' ls (kI (x / ((2 ^ y.toNat : Nat) : Int)) :: st) V Q) : kGo xs Lx d m pc ls (kI y :: kI x :: st) V Q := by
  subst e
  refine g_pure hq hi ?_ k
  simp only [km_pure, km_ii, kI]
  have h := k_ushr (a := x.toNat) (k := y.toNat) (by omega) (by omega)
  rw [k_nat hx.1, k_nat hy.1] at h
  rw [h]
  congr 4
  rw [Int.natCast_ediv, k_nat hx.1]
end TU

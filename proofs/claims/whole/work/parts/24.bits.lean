/-! bits, over whole numbers -/
theorem k_and (a b : Nat) : Int32.ofInt a &&& Int32.ofInt b = Int32.ofInt ((a &&& b : Nat) : Int) := by
  rw [← Int32.toBitVec_inj, Int32.toBitVec_and, Int32.toBitVec_ofInt, Int32.toBitVec_ofInt, Int32.toBitVec_ofInt, BitVec.ofInt_natCast, BitVec.ofInt_natCast, BitVec.ofInt_natCast, BitVec.ofNat_and]
theorem k_or (a b : Nat) : Int32.ofInt a ||| Int32.ofInt b = Int32.ofInt ((a ||| b : Nat) : Int) := by
  rw [← Int32.toBitVec_inj, Int32.toBitVec_or, Int32.toBitVec_ofInt, Int32.toBitVec_ofInt, Int32.toBitVec_ofInt, BitVec.ofInt_natCast, BitVec.ofInt_natCast, BitVec.ofInt_natCast, BitVec.ofNat_or]
theorem k_xor (a b : Nat) : Int32.ofInt a ^^^ Int32.ofInt b = Int32.ofInt ((a ^^^ b : Nat) : Int) := by
  rw [← Int32.toBitVec_inj, Int32.toBitVec_xor, Int32.toBitVec_ofInt, Int32.toBitVec_ofInt, Int32.toBitVec_ofInt, BitVec.ofInt_natCast, BitVec.ofInt_natCast, BitVec.ofInt_natCast, BitVec.ofNat_xor]
theorem k_or64 (a b : Nat) : Int64.ofInt a ||| Int64.ofInt b = Int64.ofInt ((a ||| b : Nat) : Int) := by
  rw [← Int64.toBitVec_inj, Int64.toBitVec_or, Int64.toBitVec_ofInt, Int64.toBitVec_ofInt, Int64.toBitVec_ofInt, BitVec.ofInt_natCast, BitVec.ofInt_natCast, BitVec.ofInt_natCast, BitVec.ofNat_or]
theorem k_and64 (a b : Nat) : Int64.ofInt a &&& Int64.ofInt b = Int64.ofInt ((a &&& b : Nat) : Int) := by
  rw [← Int64.toBitVec_inj, Int64.toBitVec_and, Int64.toBitVec_ofInt, Int64.toBitVec_ofInt, Int64.toBitVec_ofInt, BitVec.ofInt_natCast, BitVec.ofInt_natCast, BitVec.ofInt_natCast, BitVec.ofNat_and]
theorem k_emod (x : Int) : Int32.ofInt x = Int32.ofInt (x % 4294967296) := by
  rw [← Int32.toInt_inj, Int32.toInt_ofInt, Int32.toInt_ofInt]
  show x.bmod 4294967296 = (x % 4294967296).bmod 4294967296
  rw [Int.bmod_def, Int.bmod_def, show ((4294967296 : Nat) : Int) = 4294967296 from rfl, Int.emod_emod]
theorem k_emod64 (x : Int) : Int64.ofInt x = Int64.ofInt (x % 18446744073709551616) := by
  rw [← Int64.toInt_inj, Int64.toInt_ofInt, Int64.toInt_ofInt]
  show x.bmod 18446744073709551616 = (x % 18446744073709551616).bmod 18446744073709551616
  rw [Int.bmod_def, Int.bmod_def, show ((18446744073709551616 : Nat) : Int) = 18446744073709551616 from rfl, Int.emod_emod]
theorem k_mask (x : Int) {k : Nat} (hk : k ≤ 31) : Int32.ofInt x &&& Int32.ofInt ((2 ^ k - 1 : Nat) : Int) = Int32.ofInt (x % ((2 ^ k : Nat) : Int)) := by
  rw [k_emod x]
  obtain ⟨a, ha⟩ : ∃ a : Nat, x % 4294967296 = (a : Int) := ⟨(x % 4294967296).toNat, by omega⟩
  rw [ha, k_and, Nat.and_two_pow_sub_one_eq_mod]
  congr 1
  have hd : ((2 ^ k : Nat) : Int) ∣ 4294967296 := by
    have : (2 ^ k : Nat) ∣ 2 ^ 32 := Nat.pow_dvd_pow 2 (by omega)
    exact Int.natCast_dvd_natCast.mpr this
  rw [Int.natCast_emod, ← ha, Int.emod_emod_of_dvd _ hd]
theorem k_mask64 (x : Int) {k : Nat} (hk : k ≤ 63) : Int64.ofInt x &&& Int64.ofInt ((2 ^ k - 1 : Nat) : Int) = Int64.ofInt (x % ((2 ^ k : Nat) : Int)) := by
  rw [k_emod64 x]
  obtain ⟨a, ha⟩ : ∃ a : Nat, x % 18446744073709551616 = (a : Int) := ⟨(x % 18446744073709551616).toNat, by omega⟩
  rw [ha, k_and64, Nat.and_two_pow_sub_one_eq_mod]
  congr 1
  have hd : ((2 ^ k : Nat) : Int) ∣ 18446744073709551616 := by
    have : (2 ^ k : Nat) ∣ 2 ^ 64 := Nat.pow_dvd_pow 2 (by omega)
    exact Int.natCast_dvd_natCast.mpr this
  rw [Int.natCast_emod, ← ha, Int.emod_emod_of_dvd _ hd]
theorem k_m4 : ∀ a : Nat, a < 64 → Int32.ofInt (a : Int) &&& Int32.ofInt (-4) = Int32.ofInt ((a - a % 4 : Nat) : Int) := by decide +kernel
theorem k_sh : ∀ k : Nat, k < 32 → (Int32.ofInt (k : Int) &&& 31).toBitVec.smod 32 = BitVec.ofNat 32 k ∧ BitVec.ofInt 32 ((2 ^ k : Nat) : Int) = BitVec.twoPow 32 k := by decide +kernel
theorem k_sh64 : ∀ k : Nat, k < 64 → ((Int32.ofInt (k : Int)).toInt64 &&& 63).toBitVec.smod 64 = BitVec.ofNat 64 k ∧ BitVec.ofInt 64 ((2 ^ k : Nat) : Int) = BitVec.twoPow 64 k := by decide +kernel
theorem k_shl (x : Int) {k : Nat} (hk : k < 32) : Int32.ofInt x <<< (Int32.ofInt (k : Int) &&& 31) = Int32.ofInt (x * ((2 ^ k : Nat) : Int)) := by
  obtain ⟨h1, h2⟩ := k_sh k hk
  rw [← Int32.toBitVec_inj, Int32.toBitVec_shiftLeft, h1, Int32.toBitVec_ofInt, Int32.toBitVec_ofInt, BitVec.ofInt_mul, h2, BitVec.shiftLeft_eq', BitVec.toNat_ofNat, Nat.mod_eq_of_lt (by omega), BitVec.shiftLeft_eq_mul_twoPow]
theorem k_shl64 (x : Int) {k : Nat} (hk : k < 64) : Int64.ofInt x <<< ((Int32.ofInt (k : Int)).toInt64 &&& 63) = Int64.ofInt (x * ((2 ^ k : Nat) : Int)) := by
  obtain ⟨h1, h2⟩ := k_sh64 k hk
  rw [← Int64.toBitVec_inj, Int64.toBitVec_shiftLeft, h1, Int64.toBitVec_ofInt, Int64.toBitVec_ofInt, BitVec.ofInt_mul, h2, BitVec.shiftLeft_eq', BitVec.toNat_ofNat, Nat.mod_eq_of_lt (by omega), BitVec.shiftLeft_eq_mul_twoPow]
theorem k_shr {x : Int} (hx : -2147483648 ≤ x ∧ x ≤ 2147483647) {k : Nat} (hk : k < 32) : Int32.ofInt x >>> (Int32.ofInt (k : Int) &&& 31) = Int32.ofInt (x / ((2 ^ k : Nat) : Int)) := by
  obtain ⟨h1, -⟩ := k_sh k hk
  refine k32_of ?_
  show (Int32.ofInt x >>> (Int32.ofInt (k : Int) &&& 31)).toBitVec.toInt = _
  rw [Int32.toBitVec_shiftRight, h1]
  show ((Int32.ofInt x).toBitVec.sshiftRight (BitVec.ofNat 32 k).toNat).toInt = _
  rw [BitVec.toInt_sshiftRight, BitVec.toNat_ofNat, Nat.mod_eq_of_lt (by omega), Int.shiftRight_eq_div_pow]
  rw [show (Int32.ofInt x).toBitVec.toInt = x from k32 hx]
theorem k_shr64 {x : Int} (hx : -9223372036854775808 ≤ x ∧ x ≤ 9223372036854775807) {k : Nat} (hk : k < 64) : Int64.ofInt x >>> ((Int32.ofInt (k : Int)).toInt64 &&& 63) = Int64.ofInt (x / ((2 ^ k : Nat) : Int)) := by
  obtain ⟨h1, -⟩ := k_sh64 k hk
  refine k64_of ?_
  show (Int64.ofInt x >>> ((Int32.ofInt (k : Int)).toInt64 &&& 63)).toBitVec.toInt = _
  rw [Int64.toBitVec_shiftRight, h1]
  show ((Int64.ofInt x).toBitVec.sshiftRight (BitVec.ofNat 64 k).toNat).toInt = _
  rw [BitVec.toInt_sshiftRight, BitVec.toNat_ofNat, Nat.mod_eq_of_lt (by omega), Int.shiftRight_eq_div_pow]
  rw [show (Int64.ofInt x).toBitVec.toInt = x from k64 hx]
theorem k_nat {x : Int} (h : 0 ≤ x) : ((x.toNat : Nat) : Int) = x := Int.toNat_of_nonneg h
section TB
variable {xs : Nat → Int32} {Lx d m pc : Nat} {ls : km_L} {st : List Value} {V : km_V} {Q : Option Value → km_V → Prop} {q : km_Q}
theorem g_iandM (pc' k0 : Nat) {x y : Int} (hq : km_T[m]? = some q) (hi : km_at q.2.2.2.2.2.2.2 pc = some .iand) (e : pc + 1 = pc') (hk : k0 ≤ 31) (hy : y = ((2 ^ k0 - 1 : Nat) : Int)) (k : kGo xs Lx d m pc' ls (kI (x % ((2 ^ k0 : Nat) : Int)) :: st) V Q) : kGo xs Lx d m pc ls (kI y :: kI x :: st) V Q := by
  subst e; subst hy; exact g_pure hq hi (by simp only [km_pure, km_ii, kI, k_mask x hk]) k
theorem g_iand (pc' : Nat) {x y : Int} (hq : km_T[m]? = some q) (hi : km_at q.2.2.2.2.2.2.2 pc = some .iand) (e : pc + 1 = pc') (hx : 0 ≤ x) (hy : 0 ≤ y) (k : kGo xs Lx d m pc' ls (kI ((x.toNat &&& y.toNat : Nat) : Int) :: st) V Q) : kGo xs Lx d m pc ls (kI y :: kI x :: st) V Q := by
  subst e
  refine g_pure hq hi ?_ k
  simp only [km_pure, km_ii, kI]
  rw [← k_and, k_nat hx, k_nat hy]
theorem g_iandN (pc' : Nat) {x : Int} (hq : km_T[m]? = some q) (hi : km_at q.2.2.2.2.2.2.2 pc = some .iand) (e : pc + 1 = pc') (hx : 0 ≤ x ∧ x < 64) (k : kGo xs Lx d m pc' ls (kI (x - x % 4) :: st) V Q) : kGo xs Lx d m pc ls (kI (-4) :: kI x :: st) V Q := by
  subst e
  refine g_pure hq hi ?_ k
  simp only [km_pure, km_ii, kI]
  rw [← k_nat hx.1, k_m4 _ (by omega)]
  congr 4
  omega
theorem g_ior (pc' : Nat) {x y : Int} (hq : km_T[m]? = some q) (hi : km_at q.2.2.2.2.2.2.2 pc = some .ior) (e : pc + 1 = pc') (hx : 0 ≤ x) (hy : 0 ≤ y) (k : kGo xs Lx d m pc' ls (kI ((x.toNat ||| y.toNat : Nat) : Int) :: st) V Q) : kGo xs Lx d m pc ls (kI y :: kI x :: st) V Q := by
  subst e
  refine g_pure hq hi ?_ k
  simp only [km_pure, km_ii, kI]
  rw [← k_or, k_nat hx, k_nat hy]
theorem g_ixor (pc' : Nat) {x y : Int} (hq : km_T[m]? = some q) (hi : km_at q.2.2.2.2.2.2.2 pc = some .ixor) (e : pc + 1 = pc') (hx : 0 ≤ x) (hy : 0 ≤ y) (k : kGo xs Lx d m pc' ls (kI ((x.toNat ^^^ y.toNat : Nat) : Int) :: st) V Q) : kGo xs Lx d m pc ls (kI y :: kI x :: st) V Q := by
  subst e
  refine g_pure hq hi ?_ k
  simp only [km_pure, km_ii, kI]
  rw [← k_xor, k_nat hx, k_nat hy]
theorem g_lor (pc' : Nat) {x y : Int} (hq : km_T[m]? = some q) (hi : km_at q.2.2.2.2.2.2.2 pc = some .lor) (e : pc + 1 = pc') (hx : 0 ≤ x) (hy : 0 ≤ y) (k : kGo xs Lx d m pc' ls (kJ ((x.toNat ||| y.toNat : Nat) : Int) :: st) V Q) : kGo xs Lx d m pc ls (kJ y :: kJ x :: st) V Q := by
  subst e
  refine g_pure hq hi ?_ k
  simp only [km_pure, km_ll, kJ]
  rw [← k_or64, k_nat hx, k_nat hy]
theorem g_landM (pc' k0 : Nat) {x y : Int} (hq : km_T[m]? = some q) (hi : km_at q.2.2.2.2.2.2.2 pc = some .land) (e : pc + 1 = pc') (hk : k0 ≤ 63) (hy : y = ((2 ^ k0 - 1 : Nat) : Int)) (k : kGo xs Lx d m pc' ls (kJ (x % ((2 ^ k0 : Nat) : Int)) :: st) V Q) : kGo xs Lx d m pc ls (kJ y :: kJ x :: st) V Q := by
  subst e; subst hy; exact g_pure hq hi (by simp only [km_pure, km_ll, kJ, k_mask64 x hk]) k
theorem g_ishl (pc' : Nat) {x y : Int} (hq : km_T[m]? = some q) (hi : km_at q.2.2.2.2.2.2.2 pc = some .ishl) (e : pc + 1 = pc') (hy : 0 ≤ y ∧ y < 32) (k : kGo xs Lx d m pc' ls (kI (x * ((2 ^ y.toNat : Nat) : Int)) :: st) V Q) : kGo xs Lx d m pc ls (kI y :: kI x :: st) V Q := by
  subst e
  refine g_pure hq hi ?_ k
  simp only [km_pure, km_ii, kI]
  rw [← k_shl x (k := y.toNat) (by omega), k_nat hy.1]
theorem g_ishr (pc' : Nat) {x y : Int} (hq : km_T[m]? = some q) (hi : km_at q.2.2.2.2.2.2.2 pc = some .ishr) (e : pc + 1 = pc') (hx : -2147483648 ≤ x ∧ x ≤ 2147483647) (hy : 0 ≤ y ∧ y < 32) (k : kGo xs Lx d m pc' ls (kI (x / ((2 ^ y.toNat : Nat) : Int)) :: st) V Q) : kGo xs Lx d m pc ls (kI y :: kI x :: st) V Q := by
  subst e
  refine g_pure hq hi ?_ k
  simp only [km_pure, km_ii, kI]
  rw [← k_shr hx (k := y.toNat) (by omega), k_nat hy.1]
theorem g_lshl (pc' : Nat) {x y : Int} (hq : km_T[m]? = some q) (hi : km_at q.2.2.2.2.2.2.2 pc = some .lshl) (e : pc + 1 = pc') (hy : 0 ≤ y ∧ y < 64) (k : kGo xs Lx d m pc' ls (kJ (x * ((2 ^ y.toNat : Nat) : Int)) :: st) V Q) : kGo xs Lx d m pc ls (kI y :: kJ x :: st) V Q := by
  subst e
  refine g_pure hq hi ?_ k
  simp only [km_pure, km_li, kI, kJ]
  rw [← k_shl64 x (k := y.toNat) (by omega), k_nat hy.1]
theorem g_lshr (pc' : Nat) {x y : Int} (hq : km_T[m]? = some q) (hi : km_at q.2.2.2.2.2.2.2 pc = some .lshr) (e : pc + 1 = pc') (hx : -9223372036854775808 ≤ x ∧ x ≤ 9223372036854775807) (hy : 0 ≤ y ∧ y < 64) (k : kGo xs Lx d m pc' ls (kJ (x / ((2 ^ y.toNat : Nat) : Int)) :: st) V Q) : kGo xs Lx d m pc ls (kI y :: kJ x :: st) V Q := by
  subst e
  refine g_pure hq hi ?_ k
  simp only [km_pure, km_li, kI, kJ]
  rw [← k_shr64 hx (k := y.toNat) (by omega), k_nat hy.1]
/-- what a byte keeps -/
def k8 (x : Int) : Int := (x + 128) % 256 - 128
theorem k_i8 (x : Int) : (Int32.ofInt x).toInt8.toInt32 = Int32.ofInt (k8 x) := by
  refine k32_of ?_
  rw [Int8.toInt_toInt32, Int32.toInt_toInt8, Int32.toInt_ofInt]
  show (x.bmod 4294967296).bmod 256 = _
  rw [Int.bmod_def, Int.bmod_def]
  unfold k8
  omega
theorem g_i2b (pc' : Nat) {x : Int} (hq : km_T[m]? = some q) (hi : km_at q.2.2.2.2.2.2.2 pc = some .i2b) (e : pc + 1 = pc') (k : kGo xs Lx d m pc' ls (kI (k8 x) :: st) V Q) : kGo xs Lx d m pc ls (kI x :: st) V Q := by
  subst e; exact g_pure hq hi (by simp only [km_pure, km_i1, kI, k_i8]) k
/-- how two longs stand -/
def kcmp (x y : Int) : Int := if y < x then 1 else if x = y then 0 else -1
theorem k_cmp {x y : Int} (hx : -9223372036854775808 ≤ x ∧ x ≤ 9223372036854775807) (hy : -9223372036854775808 ≤ y ∧ y ≤ 9223372036854775807) : lg_cmp (Int64.ofInt x) (Int64.ofInt y) = Int32.ofInt (kcmp x y) := by
  unfold lg_cmp kcmp
  simp only [gt_iff_lt, Int64.lt_iff_toInt_lt, k64 hx, k64 hy, k64_eq hx hy]
  split
  · rfl
  · split <;> rfl
theorem g_lcmp (pc' : Nat) {x y : Int} (hq : km_T[m]? = some q) (hi : km_at q.2.2.2.2.2.2.2 pc = some .lcmp) (e : pc + 1 = pc') (hx : -9223372036854775808 ≤ x ∧ x ≤ 9223372036854775807) (hy : -9223372036854775808 ≤ y ∧ y ≤ 9223372036854775807) (k : kGo xs Lx d m pc' ls (kI (kcmp x y) :: st) V Q) : kGo xs Lx d m pc ls (kJ y :: kJ x :: st) V Q := by
  subst e; exact g_pure hq hi (by simp only [km_pure, km_ll, kI, kJ, k_cmp hx hy]) k
end TB

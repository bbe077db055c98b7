/-! the steps, over whole numbers -/
theorem k32 {x : Int} (h : -2147483648 ≤ x ∧ x ≤ 2147483647) : (Int32.ofInt x).toInt = x := Int32.toInt_ofInt_of_le (by omega) (by omega)
theorem k64 {x : Int} (h : -9223372036854775808 ≤ x ∧ x ≤ 9223372036854775807) : (Int64.ofInt x).toInt = x := Int64.toInt_ofInt_of_le (by omega) (by omega)
theorem k32_lt {x y : Int} (hx : -2147483648 ≤ x ∧ x ≤ 2147483647) (hy : -2147483648 ≤ y ∧ y ≤ 2147483647) : (Int32.ofInt x < Int32.ofInt y) ↔ x < y := by rw [Int32.lt_iff_toInt_lt, k32 hx, k32 hy]
theorem k32_le {x y : Int} (hx : -2147483648 ≤ x ∧ x ≤ 2147483647) (hy : -2147483648 ≤ y ∧ y ≤ 2147483647) : (Int32.ofInt x ≤ Int32.ofInt y) ↔ x ≤ y := by rw [Int32.le_iff_toInt_le, k32 hx, k32 hy]
theorem k32_eq {x y : Int} (hx : -2147483648 ≤ x ∧ x ≤ 2147483647) (hy : -2147483648 ≤ y ∧ y ≤ 2147483647) : (Int32.ofInt x = Int32.ofInt y) ↔ x = y := by rw [← Int32.toInt_inj, k32 hx, k32 hy]
theorem k64_eq {x y : Int} (hx : -9223372036854775808 ≤ x ∧ x ≤ 9223372036854775807) (hy : -9223372036854775808 ≤ y ∧ y ≤ 9223372036854775807) : (Int64.ofInt x = Int64.ofInt y) ↔ x = y := by rw [← Int64.toInt_inj, k64 hx, k64 hy]
theorem k32_of {x : Int32} {z : Int} (h : x.toInt = z) : x = Int32.ofInt z := by rw [← h, Int32.ofInt_toInt]
theorem k64_of {x : Int64} {z : Int} (h : x.toInt = z) : x = Int64.ofInt z := by rw [← h, Int64.ofInt_toInt]
theorem k_bmod {z : Int} (h : -2147483648 ≤ z ∧ z ≤ 2147483647) : z.bmod (2 ^ 32) = z := by
  rw [show ((2 ^ 32 : Nat)) = 4294967296 from rfl, Int.bmod_def]
  omega
theorem k_bmod64 {z : Int} (h : -9223372036854775808 ≤ z ∧ z ≤ 9223372036854775807) : z.bmod (2 ^ 64) = z := by
  rw [show ((2 ^ 64 : Nat)) = 18446744073709551616 from rfl, Int.bmod_def]
  omega
theorem k_tdiv {x y : Int} (h0 : 0 ≤ x) (h1 : 0 < y) : x.tdiv y = x / y ∧ 0 ≤ x / y ∧ x / y ≤ x := by
  refine ⟨Int.tdiv_eq_ediv_of_nonneg h0, Int.ediv_nonneg h0 (by omega), Int.ediv_le_self _ h0⟩
theorem k_div {x y : Int} (hx : 0 ≤ x ∧ x ≤ 2147483647) (hy : 0 < y ∧ y ≤ 2147483647) : Int32.ofInt x / Int32.ofInt y = Int32.ofInt (x / y) := by
  obtain ⟨e, h1, h2⟩ := k_tdiv hx.1 hy.1
  refine k32_of ?_
  rw [Int32.toInt_div, k32 (by omega), k32 (by omega), e, k_bmod (by omega)]
theorem k_divT {x y : Int} (hx : -2147483648 ≤ x ∧ x ≤ 2147483647) (hy : -2147483648 ≤ y ∧ y ≤ 2147483647) : Int32.ofInt x / Int32.ofInt y = Int32.ofInt (x.tdiv y) := by
  rw [← Int32.toInt_inj, Int32.toInt_div, k32 hx, k32 hy, Int32.toInt_ofInt]
theorem k_divT64 {x y : Int} (hx : -9223372036854775808 ≤ x ∧ x ≤ 9223372036854775807) (hy : -9223372036854775808 ≤ y ∧ y ≤ 9223372036854775807) : Int64.ofInt x / Int64.ofInt y = Int64.ofInt (x.tdiv y) := by
  rw [← Int64.toInt_inj, Int64.toInt_div, k64 hx, k64 hy, Int64.toInt_ofInt]
section TY
variable {xs : Nat → Int32} {Lx d m pc : Nat} {ls : km_L} {st : List Value} {V : km_V} {Q : Option Value → km_V → Prop} {q : km_Q}
theorem g_iconst (pc' : Nat) {n : Int} (hq : km_T[m]? = some q) (hi : km_at q.2.2.2.2.2.2.2 pc = some (.iconst n)) (e : pc + 1 = pc') (k : kGo xs Lx d m pc' ls (kI n :: st) V Q) : kGo xs Lx d m pc ls st V Q := by
  subst e; exact g_pure hq hi rfl k
theorem g_bipush (pc' : Nat) {n : Int} (hq : km_T[m]? = some q) (hi : km_at q.2.2.2.2.2.2.2 pc = some (.bipush n)) (e : pc + 2 = pc') (h : (Int8.ofInt n).toInt32 = Int32.ofInt n) (k : kGo xs Lx d m pc' ls (kI n :: st) V Q) : kGo xs Lx d m pc ls st V Q := by
  subst e; exact g_pure hq hi (by show some _ = some _; rw [h]) k
theorem g_sipush (pc' : Nat) {n : Int} (hq : km_T[m]? = some q) (hi : km_at q.2.2.2.2.2.2.2 pc = some (.sipush n)) (e : pc + 3 = pc') (h : (Int16.ofInt n).toInt32 = Int32.ofInt n) (k : kGo xs Lx d m pc' ls (kI n :: st) V Q) : kGo xs Lx d m pc ls st V Q := by
  subst e; exact g_pure hq hi (by show some _ = some _; rw [h]) k
theorem g_lconst (pc' : Nat) (z : Int) {n : Fin 2} (hq : km_T[m]? = some q) (hi : km_at q.2.2.2.2.2.2.2 pc = some (.lconst n)) (e : pc + 1 = pc') (h : Int64.ofNat (n : Nat) = Int64.ofInt z) (k : kGo xs Lx d m pc' ls (kJ z :: st) V Q) : kGo xs Lx d m pc ls st V Q := by
  subst e; exact g_pure hq hi (by show some _ = some _; rw [h]) k
theorem g_ldc (pc' : Nat) (z : Int) {i : Nat} {v : Int32} (hq : km_T[m]? = some q) (hi : km_at q.2.2.2.2.2.2.2 pc = some (.ldc i)) (e : pc + 2 = pc') (h : km_kc q.2.2.2.2.1 i = some (.int v)) (hv : v = Int32.ofInt z) (k : kGo xs Lx d m pc' ls (kI z :: st) V Q) : kGo xs Lx d m pc ls st V Q := by
  subst e; subst hv; exact g_pure hq hi (by simp only [km_pure, h]; rfl) k
theorem g_ldcS (pc' : Nat) {i a : Nat} (hq : km_T[m]? = some q) (hi : km_at q.2.2.2.2.2.2.2 pc = some (.ldc i)) (e : pc + 2 = pc') (h : km_kc q.2.2.2.2.1 i = some (.ref a)) (k : kGo xs Lx d m pc' ls (.ref a :: st) V Q) : kGo xs Lx d m pc ls st V Q := by
  subst e; exact g_pure hq hi (by simp only [km_pure, h]; rfl) k
theorem g_ldcw (pc' : Nat) (z : Int) {i : Nat} {v : Int32} (hq : km_T[m]? = some q) (hi : km_at q.2.2.2.2.2.2.2 pc = some (.ldc_w i)) (e : pc + 3 = pc') (h : km_kc q.2.2.2.2.1 i = some (.int v)) (hv : v = Int32.ofInt z) (k : kGo xs Lx d m pc' ls (kI z :: st) V Q) : kGo xs Lx d m pc ls st V Q := by
  subst e; subst hv; exact g_pure hq hi (by simp only [km_pure, h]; rfl) k
theorem g_ldc2 (pc' : Nat) (z : Int) {i : Nat} {v : Int64} (hq : km_T[m]? = some q) (hi : km_at q.2.2.2.2.2.2.2 pc = some (.ldc2_w i)) (e : pc + 3 = pc') (h : km_kc q.2.2.2.2.1 i = some (.long v)) (hv : v = Int64.ofInt z) (k : kGo xs Lx d m pc' ls (kJ z :: st) V Q) : kGo xs Lx d m pc ls st V Q := by
  subst e; subst hv; exact g_pure hq hi (by simp only [km_pure, h]; rfl) k
theorem g_iadd (pc' : Nat) {x y : Int} (hq : km_T[m]? = some q) (hi : km_at q.2.2.2.2.2.2.2 pc = some .iadd) (e : pc + 1 = pc') (k : kGo xs Lx d m pc' ls (kI (x + y) :: st) V Q) : kGo xs Lx d m pc ls (kI y :: kI x :: st) V Q := by
  subst e; exact g_pure hq hi (by simp only [km_pure, km_ii, km_ll, km_i1, km_l1, kI, kJ, Int32.ofInt_add]) k
theorem g_isub (pc' : Nat) {x y : Int} (hq : km_T[m]? = some q) (hi : km_at q.2.2.2.2.2.2.2 pc = some .isub) (e : pc + 1 = pc') (k : kGo xs Lx d m pc' ls (kI (x - y) :: st) V Q) : kGo xs Lx d m pc ls (kI y :: kI x :: st) V Q := by
  subst e; exact g_pure hq hi (by simp only [km_pure, km_ii, km_ll, km_i1, km_l1, kI, kJ, Int32.ofInt_sub]) k
theorem g_imul (pc' : Nat) {x y : Int} (hq : km_T[m]? = some q) (hi : km_at q.2.2.2.2.2.2.2 pc = some .imul) (e : pc + 1 = pc') (k : kGo xs Lx d m pc' ls (kI (x * y) :: st) V Q) : kGo xs Lx d m pc ls (kI y :: kI x :: st) V Q := by
  subst e; exact g_pure hq hi (by simp only [km_pure, km_ii, km_ll, km_i1, km_l1, kI, kJ, Int32.ofInt_mul]) k
theorem g_ineg (pc' : Nat) {x : Int} (hq : km_T[m]? = some q) (hi : km_at q.2.2.2.2.2.2.2 pc = some .ineg) (e : pc + 1 = pc') (k : kGo xs Lx d m pc' ls (kI (-x) :: st) V Q) : kGo xs Lx d m pc ls (kI x :: st) V Q := by
  subst e; exact g_pure hq hi (by simp only [km_pure, km_ii, km_ll, km_i1, km_l1, kI, kJ, Int32.ofInt_neg]) k
theorem g_ladd (pc' : Nat) {x y : Int} (hq : km_T[m]? = some q) (hi : km_at q.2.2.2.2.2.2.2 pc = some .ladd) (e : pc + 1 = pc') (k : kGo xs Lx d m pc' ls (kJ (x + y) :: st) V Q) : kGo xs Lx d m pc ls (kJ y :: kJ x :: st) V Q := by
  subst e; exact g_pure hq hi (by simp only [km_pure, km_ii, km_ll, km_i1, km_l1, kI, kJ, Int64.ofInt_add]) k
theorem g_lsub (pc' : Nat) {x y : Int} (hq : km_T[m]? = some q) (hi : km_at q.2.2.2.2.2.2.2 pc = some .lsub) (e : pc + 1 = pc') (k : kGo xs Lx d m pc' ls (kJ (x - y) :: st) V Q) : kGo xs Lx d m pc ls (kJ y :: kJ x :: st) V Q := by
  subst e; exact g_pure hq hi (by simp only [km_pure, km_ii, km_ll, km_i1, km_l1, kI, kJ, Int64.ofInt_sub]) k
theorem g_lmul (pc' : Nat) {x y : Int} (hq : km_T[m]? = some q) (hi : km_at q.2.2.2.2.2.2.2 pc = some .lmul) (e : pc + 1 = pc') (k : kGo xs Lx d m pc' ls (kJ (x * y) :: st) V Q) : kGo xs Lx d m pc ls (kJ y :: kJ x :: st) V Q := by
  subst e; exact g_pure hq hi (by simp only [km_pure, km_ii, km_ll, km_i1, km_l1, kI, kJ, Int64.ofInt_mul]) k
theorem g_lneg (pc' : Nat) {x : Int} (hq : km_T[m]? = some q) (hi : km_at q.2.2.2.2.2.2.2 pc = some .lneg) (e : pc + 1 = pc') (k : kGo xs Lx d m pc' ls (kJ (-x) :: st) V Q) : kGo xs Lx d m pc ls (kJ x :: st) V Q := by
  subst e; exact g_pure hq hi (by simp only [km_pure, km_ii, km_ll, km_i1, km_l1, kI, kJ, Int64.ofInt_neg]) k
theorem g_idiv (pc' : Nat) {x y : Int} (hq : km_T[m]? = some q) (hi : km_at q.2.2.2.2.2.2.2 pc = some .idiv) (e : pc + 1 = pc') (hx : 0 ≤ x ∧ x ≤ 2147483647) (hy : 0 < y ∧ y ≤ 2147483647) (k : kGo xs Lx d m pc' ls (kI (x / y) :: st) V Q) : kGo xs Lx d m pc ls (kI y :: kI x :: st) V Q := by
  subst e
  refine g_pure hq hi ?_ k
  have h0 : ¬ Int32.ofInt y = 0 := fun z => by
    have := (k32_eq (x := y) (y := 0) (by omega) (by omega)).mp z
    omega
  simp only [km_pure, km_ii, kI, if_neg h0, k_div hx hy]
theorem g_irem (pc' : Nat) {x y : Int} (hq : km_T[m]? = some q) (hi : km_at q.2.2.2.2.2.2.2 pc = some .irem) (e : pc + 1 = pc') (hx : 0 ≤ x ∧ x ≤ 2147483647) (hy : 0 < y ∧ y ≤ 2147483647) (k : kGo xs Lx d m pc' ls (kI (x % y) :: st) V Q) : kGo xs Lx d m pc ls (kI y :: kI x :: st) V Q := by
  subst e
  refine g_pure hq hi ?_ k
  have h0 : ¬ Int32.ofInt y = 0 := fun z => by
    have := (k32_eq (x := y) (y := 0) (by omega) (by omega)).mp z
    omega
  simp only [km_pure, km_ii, kI, if_neg h0, k_div hx hy]
  rw [← Int32.ofInt_mul, ← Int32.ofInt_sub]
  have e1 : x - x / y * y = x % y := by rw [Int.emod_def, Int.mul_comm]
  rw [e1]
theorem g_idivT (pc' : Nat) {x y : Int} (hq : km_T[m]? = some q) (hi : km_at q.2.2.2.2.2.2.2 pc = some .idiv) (e : pc + 1 = pc') (hx : -2147483648 ≤ x ∧ x ≤ 2147483647) (hy : (-2147483648 ≤ y ∧ y ≤ 2147483647) ∧ y ≠ 0) (k : kGo xs Lx d m pc' ls (kI (x.tdiv y) :: st) V Q) : kGo xs Lx d m pc ls (kI y :: kI x :: st) V Q := by
  subst e
  refine g_pure hq hi ?_ k
  have h0 : ¬ Int32.ofInt y = 0 := fun z => hy.2 ((k32_eq (x := y) (y := 0) hy.1 (by omega)).mp z)
  simp only [km_pure, km_ii, kI, if_neg h0, k_divT hx hy.1]
theorem g_iremT (pc' : Nat) {x y : Int} (hq : km_T[m]? = some q) (hi : km_at q.2.2.2.2.2.2.2 pc = some .irem) (e : pc + 1 = pc') (hx : -2147483648 ≤ x ∧ x ≤ 2147483647) (hy : (-2147483648 ≤ y ∧ y ≤ 2147483647) ∧ y ≠ 0) (k : kGo xs Lx d m pc' ls (kI (x.tmod y) :: st) V Q) : kGo xs Lx d m pc ls (kI y :: kI x :: st) V Q := by
  subst e
  refine g_pure hq hi ?_ k
  have h0 : ¬ Int32.ofInt y = 0 := fun z => hy.2 ((k32_eq (x := y) (y := 0) hy.1 (by omega)).mp z)
  simp only [km_pure, km_ii, kI, if_neg h0, k_divT hx hy.1]
  rw [← Int32.ofInt_mul, ← Int32.ofInt_sub]
  have e1 : x - x.tdiv y * y = x.tmod y := by rw [Int.tmod_def, Int.mul_comm]
  rw [e1]
theorem g_ldivT (pc' : Nat) {x y : Int} (hq : km_T[m]? = some q) (hi : km_at q.2.2.2.2.2.2.2 pc = some .ldiv) (e : pc + 1 = pc') (hx : -9223372036854775808 ≤ x ∧ x ≤ 9223372036854775807) (hy : (-9223372036854775808 ≤ y ∧ y ≤ 9223372036854775807) ∧ y ≠ 0) (k : kGo xs Lx d m pc' ls (kJ (x.tdiv y) :: st) V Q) : kGo xs Lx d m pc ls (kJ y :: kJ x :: st) V Q := by
  subst e
  refine g_pure hq hi ?_ k
  have h0 : ¬ Int64.ofInt y = 0 := fun z => hy.2 ((k64_eq (x := y) (y := 0) hy.1 (by omega)).mp z)
  simp only [km_pure, km_ll, kJ, if_neg h0, k_divT64 hx hy.1]
theorem g_lremT (pc' : Nat) {x y : Int} (hq : km_T[m]? = some q) (hi : km_at q.2.2.2.2.2.2.2 pc = some .lrem) (e : pc + 1 = pc') (hx : -9223372036854775808 ≤ x ∧ x ≤ 9223372036854775807) (hy : (-9223372036854775808 ≤ y ∧ y ≤ 9223372036854775807) ∧ y ≠ 0) (k : kGo xs Lx d m pc' ls (kJ (x.tmod y) :: st) V Q) : kGo xs Lx d m pc ls (kJ y :: kJ x :: st) V Q := by
  subst e
  refine g_pure hq hi ?_ k
  have h0 : ¬ Int64.ofInt y = 0 := fun z => hy.2 ((k64_eq (x := y) (y := 0) hy.1 (by omega)).mp z)
  simp only [km_pure, km_ll, kJ, if_neg h0, k_divT64 hx hy.1]
  rw [← Int64.ofInt_mul, ← Int64.ofInt_sub]
  have e1 : x - x.tdiv y * y = x.tmod y := by rw [Int.tmod_def, Int.mul_comm]
  rw [e1]
theorem g_i2l (pc' : Nat) {x : Int} (hq : km_T[m]? = some q) (hi : km_at q.2.2.2.2.2.2.2 pc = some .i2l) (e : pc + 1 = pc') (hx : -2147483648 ≤ x ∧ x ≤ 2147483647) (k : kGo xs Lx d m pc' ls (kJ x :: st) V Q) : kGo xs Lx d m pc ls (kI x :: st) V Q := by
  subst e
  refine g_pure hq hi ?_ k
  simp only [km_pure, km_i1, kI, kJ]
  rw [← Int64.ofInt_int32ToInt, k32 hx]
theorem g_l2i (pc' : Nat) {x : Int} (hq : km_T[m]? = some q) (hi : km_at q.2.2.2.2.2.2.2 pc = some .l2i) (e : pc + 1 = pc') (k : kGo xs Lx d m pc' ls (kI x :: st) V Q) : kGo xs Lx d m pc ls (kJ x :: st) V Q := by
  subst e
  refine g_pure hq hi ?_ k
  simp only [km_pure, km_l1, kI, kJ]
  rw [Int64.toInt32_ofInt]
theorem g_dup (pc' : Nat) {v : Value} (hq : km_T[m]? = some q) (hi : km_at q.2.2.2.2.2.2.2 pc = some .dup) (e : pc + 1 = pc') (hv : v.category = 1) (k : kGo xs Lx d m pc' ls (v :: v :: st) V Q) : kGo xs Lx d m pc ls (v :: st) V Q := by
  subst e; exact g_pure hq hi (by simp only [km_pure, km_dup, if_pos hv]) k
theorem g_dup2 (pc' : Nat) {v w : Value} (hq : km_T[m]? = some q) (hi : km_at q.2.2.2.2.2.2.2 pc = some .dup2) (e : pc + 1 = pc') (hv : v.category = 1) (hw : w.category = 1) (k : kGo xs Lx d m pc' ls (v :: w :: v :: w :: st) V Q) : kGo xs Lx d m pc ls (v :: w :: st) V Q := by
  subst e; exact g_pure hq hi (by simp only [km_pure, km_dup2, if_pos (And.intro hv hw)]) k
theorem g_pop (pc' : Nat) {v : Value} (hq : km_T[m]? = some q) (hi : km_at q.2.2.2.2.2.2.2 pc = some .pop) (e : pc + 1 = pc') (hv : v.category = 1) (k : kGo xs Lx d m pc' ls st V Q) : kGo xs Lx d m pc ls (v :: st) V Q := by
  subst e; exact g_pure hq hi (by simp only [km_pure, km_pop, if_pos hv]) k
end TY

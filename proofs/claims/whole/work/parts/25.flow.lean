/-! the steps: where it goes, locals, memory, calls -/
section TF
variable {xs : Nat → Int32} {Lx d m pc : Nat} {ls : km_L} {st : List Value} {V : km_V} {Q : Option Value → km_V → Prop} {q : km_Q}
theorem g_goto (pc' : Nat) {off : Int} (hq : km_T[m]? = some q) (hi : km_at q.2.2.2.2.2.2.2 pc = some (.goto off)) (e : km_tg pc off = some pc') (k : kGo xs Lx d m pc' ls st V Q) : kGo xs Lx d m pc ls st V Q :=
  g_jmp hq hi rfl rfl (by simp only [km_jmp, e]) k
theorem g_icmp_eq (t n : Nat) {x y : Int} {off : Int} (hq : km_T[m]? = some q) (hi : km_at q.2.2.2.2.2.2.2 pc = some (.if_icmp .eq off)) (e : km_tg pc off = some t) (e3 : pc + 3 = n) (hx : -2147483648 ≤ x ∧ x ≤ 2147483647) (hy : -2147483648 ≤ y ∧ y ≤ 2147483647) (kt : x = y → kGo xs Lx d m t ls st V Q) (kf : x ≠ y → kGo xs Lx d m n ls st V Q) : kGo xs Lx d m pc ls (kI y :: kI x :: st) V Q := by
  subst e3
  by_cases h : x = y
  · exact g_jmp hq hi rfl rfl (by simp only [km_jmp, e, kI, km_cmp, k32_eq hx hy, k32_lt hx hy, k32_lt hy hx, k32_le hx hy, k32_le hy hx, h, not_true_eq_false, not_false_eq_true, decide_true, decide_false, cond_true, cond_false]) (kt (by omega))
  · exact g_jmp hq hi rfl rfl (by simp only [km_jmp, e, kI, km_cmp, k32_eq hx hy, k32_lt hx hy, k32_lt hy hx, k32_le hx hy, k32_le hy hx, h, not_true_eq_false, not_false_eq_true, decide_true, decide_false, cond_true, cond_false]) (kf (by omega))
theorem g_if_eq (t n : Nat) {x : Int} {off : Int} (hq : km_T[m]? = some q) (hi : km_at q.2.2.2.2.2.2.2 pc = some (.ifCond .eq off)) (e : km_tg pc off = some t) (e3 : pc + 3 = n) (hx : -2147483648 ≤ x ∧ x ≤ 2147483647) (kt : x = 0 → kGo xs Lx d m t ls st V Q) (kf : x ≠ 0 → kGo xs Lx d m n ls st V Q) : kGo xs Lx d m pc ls (kI x :: st) V Q := by
  subst e3
  have hy : -2147483648 ≤ (0 : Int) ∧ (0 : Int) ≤ 2147483647 := by omega
  have e0 : (0 : Int32) = Int32.ofInt 0 := rfl
  by_cases h : x = 0
  · exact g_jmp hq hi rfl rfl (by simp only [km_jmp, e, kI, km_cmp, e0, k32_eq hx hy, k32_lt hx hy, k32_lt hy hx, k32_le hx hy, k32_le hy hx, h, not_true_eq_false, not_false_eq_true, decide_true, decide_false, cond_true, cond_false]) (kt (by omega))
  · exact g_jmp hq hi rfl rfl (by simp only [km_jmp, e, kI, km_cmp, e0, k32_eq hx hy, k32_lt hx hy, k32_lt hy hx, k32_le hx hy, k32_le hy hx, h, not_true_eq_false, not_false_eq_true, decide_true, decide_false, cond_true, cond_false]) (kf (by omega))
theorem g_icmp_ne (t n : Nat) {x y : Int} {off : Int} (hq : km_T[m]? = some q) (hi : km_at q.2.2.2.2.2.2.2 pc = some (.if_icmp .ne off)) (e : km_tg pc off = some t) (e3 : pc + 3 = n) (hx : -2147483648 ≤ x ∧ x ≤ 2147483647) (hy : -2147483648 ≤ y ∧ y ≤ 2147483647) (kt : x ≠ y → kGo xs Lx d m t ls st V Q) (kf : x = y → kGo xs Lx d m n ls st V Q) : kGo xs Lx d m pc ls (kI y :: kI x :: st) V Q := by
  subst e3
  by_cases h : x ≠ y
  · exact g_jmp hq hi rfl rfl (by simp only [km_jmp, e, kI, km_cmp, k32_eq hx hy, k32_lt hx hy, k32_lt hy hx, k32_le hx hy, k32_le hy hx, h, not_true_eq_false, not_false_eq_true, decide_true, decide_false, cond_true, cond_false]) (kt (by omega))
  · exact g_jmp hq hi rfl rfl (by simp only [km_jmp, e, kI, km_cmp, k32_eq hx hy, k32_lt hx hy, k32_lt hy hx, k32_le hx hy, k32_le hy hx, h, not_true_eq_false, not_false_eq_true, decide_true, decide_false, cond_true, cond_false]) (kf (by omega))
theorem g_if_ne (t n : Nat) {x : Int} {off : Int} (hq : km_T[m]? = some q) (hi : km_at q.2.2.2.2.2.2.2 pc = some (.ifCond .ne off)) (e : km_tg pc off = some t) (e3 : pc + 3 = n) (hx : -2147483648 ≤ x ∧ x ≤ 2147483647) (kt : x ≠ 0 → kGo xs Lx d m t ls st V Q) (kf : x = 0 → kGo xs Lx d m n ls st V Q) : kGo xs Lx d m pc ls (kI x :: st) V Q := by
  subst e3
  have hy : -2147483648 ≤ (0 : Int) ∧ (0 : Int) ≤ 2147483647 := by omega
  have e0 : (0 : Int32) = Int32.ofInt 0 := rfl
  by_cases h : x ≠ 0
  · exact g_jmp hq hi rfl rfl (by simp only [km_jmp, e, kI, km_cmp, e0, k32_eq hx hy, k32_lt hx hy, k32_lt hy hx, k32_le hx hy, k32_le hy hx, h, not_true_eq_false, not_false_eq_true, decide_true, decide_false, cond_true, cond_false]) (kt (by omega))
  · exact g_jmp hq hi rfl rfl (by simp only [km_jmp, e, kI, km_cmp, e0, k32_eq hx hy, k32_lt hx hy, k32_lt hy hx, k32_le hx hy, k32_le hy hx, h, not_true_eq_false, not_false_eq_true, decide_true, decide_false, cond_true, cond_false]) (kf (by omega))
theorem g_icmp_lt (t n : Nat) {x y : Int} {off : Int} (hq : km_T[m]? = some q) (hi : km_at q.2.2.2.2.2.2.2 pc = some (.if_icmp .lt off)) (e : km_tg pc off = some t) (e3 : pc + 3 = n) (hx : -2147483648 ≤ x ∧ x ≤ 2147483647) (hy : -2147483648 ≤ y ∧ y ≤ 2147483647) (kt : x < y → kGo xs Lx d m t ls st V Q) (kf : y ≤ x → kGo xs Lx d m n ls st V Q) : kGo xs Lx d m pc ls (kI y :: kI x :: st) V Q := by
  subst e3
  by_cases h : x < y
  · exact g_jmp hq hi rfl rfl (by simp only [km_jmp, e, kI, km_cmp, k32_eq hx hy, k32_lt hx hy, k32_lt hy hx, k32_le hx hy, k32_le hy hx, h, not_true_eq_false, not_false_eq_true, decide_true, decide_false, cond_true, cond_false]) (kt (by omega))
  · exact g_jmp hq hi rfl rfl (by simp only [km_jmp, e, kI, km_cmp, k32_eq hx hy, k32_lt hx hy, k32_lt hy hx, k32_le hx hy, k32_le hy hx, h, not_true_eq_false, not_false_eq_true, decide_true, decide_false, cond_true, cond_false]) (kf (by omega))
theorem g_if_lt (t n : Nat) {x : Int} {off : Int} (hq : km_T[m]? = some q) (hi : km_at q.2.2.2.2.2.2.2 pc = some (.ifCond .lt off)) (e : km_tg pc off = some t) (e3 : pc + 3 = n) (hx : -2147483648 ≤ x ∧ x ≤ 2147483647) (kt : x < 0 → kGo xs Lx d m t ls st V Q) (kf : 0 ≤ x → kGo xs Lx d m n ls st V Q) : kGo xs Lx d m pc ls (kI x :: st) V Q := by
  subst e3
  have hy : -2147483648 ≤ (0 : Int) ∧ (0 : Int) ≤ 2147483647 := by omega
  have e0 : (0 : Int32) = Int32.ofInt 0 := rfl
  by_cases h : x < 0
  · exact g_jmp hq hi rfl rfl (by simp only [km_jmp, e, kI, km_cmp, e0, k32_eq hx hy, k32_lt hx hy, k32_lt hy hx, k32_le hx hy, k32_le hy hx, h, not_true_eq_false, not_false_eq_true, decide_true, decide_false, cond_true, cond_false]) (kt (by omega))
  · exact g_jmp hq hi rfl rfl (by simp only [km_jmp, e, kI, km_cmp, e0, k32_eq hx hy, k32_lt hx hy, k32_lt hy hx, k32_le hx hy, k32_le hy hx, h, not_true_eq_false, not_false_eq_true, decide_true, decide_false, cond_true, cond_false]) (kf (by omega))
theorem g_icmp_ge (t n : Nat) {x y : Int} {off : Int} (hq : km_T[m]? = some q) (hi : km_at q.2.2.2.2.2.2.2 pc = some (.if_icmp .ge off)) (e : km_tg pc off = some t) (e3 : pc + 3 = n) (hx : -2147483648 ≤ x ∧ x ≤ 2147483647) (hy : -2147483648 ≤ y ∧ y ≤ 2147483647) (kt : y ≤ x → kGo xs Lx d m t ls st V Q) (kf : x < y → kGo xs Lx d m n ls st V Q) : kGo xs Lx d m pc ls (kI y :: kI x :: st) V Q := by
  subst e3
  by_cases h : y ≤ x
  · exact g_jmp hq hi rfl rfl (by simp only [km_jmp, e, kI, km_cmp, k32_eq hx hy, k32_lt hx hy, k32_lt hy hx, k32_le hx hy, k32_le hy hx, h, not_true_eq_false, not_false_eq_true, decide_true, decide_false, cond_true, cond_false]) (kt (by omega))
  · exact g_jmp hq hi rfl rfl (by simp only [km_jmp, e, kI, km_cmp, k32_eq hx hy, k32_lt hx hy, k32_lt hy hx, k32_le hx hy, k32_le hy hx, h, not_true_eq_false, not_false_eq_true, decide_true, decide_false, cond_true, cond_false]) (kf (by omega))
theorem g_if_ge (t n : Nat) {x : Int} {off : Int} (hq : km_T[m]? = some q) (hi : km_at q.2.2.2.2.2.2.2 pc = some (.ifCond .ge off)) (e : km_tg pc off = some t) (e3 : pc + 3 = n) (hx : -2147483648 ≤ x ∧ x ≤ 2147483647) (kt : 0 ≤ x → kGo xs Lx d m t ls st V Q) (kf : x < 0 → kGo xs Lx d m n ls st V Q) : kGo xs Lx d m pc ls (kI x :: st) V Q := by
  subst e3
  have hy : -2147483648 ≤ (0 : Int) ∧ (0 : Int) ≤ 2147483647 := by omega
  have e0 : (0 : Int32) = Int32.ofInt 0 := rfl
  by_cases h : 0 ≤ x
  · exact g_jmp hq hi rfl rfl (by simp only [km_jmp, e, kI, km_cmp, e0, k32_eq hx hy, k32_lt hx hy, k32_lt hy hx, k32_le hx hy, k32_le hy hx, h, not_true_eq_false, not_false_eq_true, decide_true, decide_false, cond_true, cond_false]) (kt (by omega))
  · exact g_jmp hq hi rfl rfl (by simp only [km_jmp, e, kI, km_cmp, e0, k32_eq hx hy, k32_lt hx hy, k32_lt hy hx, k32_le hx hy, k32_le hy hx, h, not_true_eq_false, not_false_eq_true, decide_true, decide_false, cond_true, cond_false]) (kf (by omega))
theorem g_icmp_gt (t n : Nat) {x y : Int} {off : Int} (hq : km_T[m]? = some q) (hi : km_at q.2.2.2.2.2.2.2 pc = some (.if_icmp .gt off)) (e : km_tg pc off = some t) (e3 : pc + 3 = n) (hx : -2147483648 ≤ x ∧ x ≤ 2147483647) (hy : -2147483648 ≤ y ∧ y ≤ 2147483647) (kt : y < x → kGo xs Lx d m t ls st V Q) (kf : x ≤ y → kGo xs Lx d m n ls st V Q) : kGo xs Lx d m pc ls (kI y :: kI x :: st) V Q := by
  subst e3
  by_cases h : y < x
  · exact g_jmp hq hi rfl rfl (by simp only [km_jmp, e, kI, km_cmp, k32_eq hx hy, k32_lt hx hy, k32_lt hy hx, k32_le hx hy, k32_le hy hx, h, not_true_eq_false, not_false_eq_true, decide_true, decide_false, cond_true, cond_false]) (kt (by omega))
  · exact g_jmp hq hi rfl rfl (by simp only [km_jmp, e, kI, km_cmp, k32_eq hx hy, k32_lt hx hy, k32_lt hy hx, k32_le hx hy, k32_le hy hx, h, not_true_eq_false, not_false_eq_true, decide_true, decide_false, cond_true, cond_false]) (kf (by omega))
theorem g_if_gt (t n : Nat) {x : Int} {off : Int} (hq : km_T[m]? = some q) (hi : km_at q.2.2.2.2.2.2.2 pc = some (.ifCond .gt off)) (e : km_tg pc off = some t) (e3 : pc + 3 = n) (hx : -2147483648 ≤ x ∧ x ≤ 2147483647) (kt : 0 < x → kGo xs Lx d m t ls st V Q) (kf : x ≤ 0 → kGo xs Lx d m n ls st V Q) : kGo xs Lx d m pc ls (kI x :: st) V Q := by
  subst e3
  have hy : -2147483648 ≤ (0 : Int) ∧ (0 : Int) ≤ 2147483647 := by omega
  have e0 : (0 : Int32) = Int32.ofInt 0 := rfl
  by_cases h : 0 < x
  · exact g_jmp hq hi rfl rfl (by simp only [km_jmp, e, kI, km_cmp, e0, k32_eq hx hy, k32_lt hx hy, k32_lt hy hx, k32_le hx hy, k32_le hy hx, h, not_true_eq_false, not_false_eq_true, decide_true, decide_false, cond_true, cond_false]) (kt (by omega))
  · exact g_jmp hq hi rfl rfl (by simp only [km_jmp, e, kI, km_cmp, e0, k32_eq hx hy, k32_lt hx hy, k32_lt hy hx, k32_le hx hy, k32_le hy hx, h, not_true_eq_false, not_false_eq_true, decide_true, decide_false, cond_true, cond_false]) (kf (by omega))
theorem g_icmp_le (t n : Nat) {x y : Int} {off : Int} (hq : km_T[m]? = some q) (hi : km_at q.2.2.2.2.2.2.2 pc = some (.if_icmp .le off)) (e : km_tg pc off = some t) (e3 : pc + 3 = n) (hx : -2147483648 ≤ x ∧ x ≤ 2147483647) (hy : -2147483648 ≤ y ∧ y ≤ 2147483647) (kt : x ≤ y → kGo xs Lx d m t ls st V Q) (kf : y < x → kGo xs Lx d m n ls st V Q) : kGo xs Lx d m pc ls (kI y :: kI x :: st) V Q := by
  subst e3
  by_cases h : x ≤ y
  · exact g_jmp hq hi rfl rfl (by simp only [km_jmp, e, kI, km_cmp, k32_eq hx hy, k32_lt hx hy, k32_lt hy hx, k32_le hx hy, k32_le hy hx, h, not_true_eq_false, not_false_eq_true, decide_true, decide_false, cond_true, cond_false]) (kt (by omega))
  · exact g_jmp hq hi rfl rfl (by simp only [km_jmp, e, kI, km_cmp, k32_eq hx hy, k32_lt hx hy, k32_lt hy hx, k32_le hx hy, k32_le hy hx, h, not_true_eq_false, not_false_eq_true, decide_true, decide_false, cond_true, cond_false]) (kf (by omega))
theorem g_if_le (t n : Nat) {x : Int} {off : Int} (hq : km_T[m]? = some q) (hi : km_at q.2.2.2.2.2.2.2 pc = some (.ifCond .le off)) (e : km_tg pc off = some t) (e3 : pc + 3 = n) (hx : -2147483648 ≤ x ∧ x ≤ 2147483647) (kt : x ≤ 0 → kGo xs Lx d m t ls st V Q) (kf : 0 < x → kGo xs Lx d m n ls st V Q) : kGo xs Lx d m pc ls (kI x :: st) V Q := by
  subst e3
  have hy : -2147483648 ≤ (0 : Int) ∧ (0 : Int) ≤ 2147483647 := by omega
  have e0 : (0 : Int32) = Int32.ofInt 0 := rfl
  by_cases h : x ≤ 0
  · exact g_jmp hq hi rfl rfl (by simp only [km_jmp, e, kI, km_cmp, e0, k32_eq hx hy, k32_lt hx hy, k32_lt hy hx, k32_le hx hy, k32_le hy hx, h, not_true_eq_false, not_false_eq_true, decide_true, decide_false, cond_true, cond_false]) (kt (by omega))
  · exact g_jmp hq hi rfl rfl (by simp only [km_jmp, e, kI, km_cmp, e0, k32_eq hx hy, k32_lt hx hy, k32_lt hy hx, k32_le hx hy, k32_le hy hx, h, not_true_eq_false, not_false_eq_true, decide_true, decide_false, cond_true, cond_false]) (kf (by omega))
theorem g_iload (pc' : Nat) {i : Nat} {x : Int} (hq : km_T[m]? = some q) (hi : km_at q.2.2.2.2.2.2.2 pc = some (.iload i)) (e : pc + 2 = pc') (hl : ls[i]? = some (some (kI x))) (k : kGo xs Lx d m pc' ls (kI x :: st) V Q) : kGo xs Lx d m pc ls st V Q := by
  subst e
  exact g_loc hq hi rfl (by simp only [km_loc, km_ldI, hl, kI, kJ]) k
theorem g_iload_n (pc' : Nat) {i : Fin 4} {x : Int} (hq : km_T[m]? = some q) (hi : km_at q.2.2.2.2.2.2.2 pc = some (.iload_n i)) (e : pc + 1 = pc') (hl : ls[(i : Nat)]? = some (some (kI x))) (k : kGo xs Lx d m pc' ls (kI x :: st) V Q) : kGo xs Lx d m pc ls st V Q := by
  subst e
  exact g_loc hq hi rfl (by simp only [km_loc, km_ldI, hl, kI, kJ]) k
theorem g_lload (pc' : Nat) {i : Nat} {x : Int} (hq : km_T[m]? = some q) (hi : km_at q.2.2.2.2.2.2.2 pc = some (.lload i)) (e : pc + 2 = pc') (hl : ls[i]? = some (some (kJ x))) (k : kGo xs Lx d m pc' ls (kJ x :: st) V Q) : kGo xs Lx d m pc ls st V Q := by
  subst e
  exact g_loc hq hi rfl (by simp only [km_loc, km_ldJ, hl, kI, kJ]) k
theorem g_lload_n (pc' : Nat) {i : Fin 4} {x : Int} (hq : km_T[m]? = some q) (hi : km_at q.2.2.2.2.2.2.2 pc = some (.lload_n i)) (e : pc + 1 = pc') (hl : ls[(i : Nat)]? = some (some (kJ x))) (k : kGo xs Lx d m pc' ls (kJ x :: st) V Q) : kGo xs Lx d m pc ls st V Q := by
  subst e
  exact g_loc hq hi rfl (by simp only [km_loc, km_ldJ, hl, kI, kJ]) k
theorem g_aload (pc' : Nat) {i : Nat} {x : Nat} (hq : km_T[m]? = some q) (hi : km_at q.2.2.2.2.2.2.2 pc = some (.aload i)) (e : pc + 2 = pc') (hl : ls[i]? = some (some (.ref x))) (k : kGo xs Lx d m pc' ls (.ref x :: st) V Q) : kGo xs Lx d m pc ls st V Q := by
  subst e
  exact g_loc hq hi rfl (by simp only [km_loc, km_ldA, hl, kI, kJ]) k
theorem g_aload_n (pc' : Nat) {i : Fin 4} {x : Nat} (hq : km_T[m]? = some q) (hi : km_at q.2.2.2.2.2.2.2 pc = some (.aload_n i)) (e : pc + 1 = pc') (hl : ls[(i : Nat)]? = some (some (.ref x))) (k : kGo xs Lx d m pc' ls (.ref x :: st) V Q) : kGo xs Lx d m pc ls st V Q := by
  subst e
  exact g_loc hq hi rfl (by simp only [km_loc, km_ldA, hl, kI, kJ]) k
theorem g_istore (pc' : Nat) {i : Nat} {x : Int} {ls' : km_L} (hq : km_T[m]? = some q) (hi : km_at q.2.2.2.2.2.2.2 pc = some (.istore i)) (e : pc + 2 = pc') (hl : km_st1 ls i (kI x) = some ls') (k : kGo xs Lx d m pc' ls' st V Q) : kGo xs Lx d m pc ls (kI x :: st) V Q := by
  subst e
  exact g_loc hq hi rfl (by simp only [km_loc, km_stI, kI, kJ] at hl ⊢; rw [hl]) k
theorem g_istore_n (pc' : Nat) {i : Fin 4} {x : Int} {ls' : km_L} (hq : km_T[m]? = some q) (hi : km_at q.2.2.2.2.2.2.2 pc = some (.istore_n i)) (e : pc + 1 = pc') (hl : km_st1 ls (i : Nat) (kI x) = some ls') (k : kGo xs Lx d m pc' ls' st V Q) : kGo xs Lx d m pc ls (kI x :: st) V Q := by
  subst e
  exact g_loc hq hi rfl (by simp only [km_loc, km_stI, kI, kJ] at hl ⊢; rw [hl]) k
theorem g_lstore (pc' : Nat) {i : Nat} {x : Int} {ls' : km_L} (hq : km_T[m]? = some q) (hi : km_at q.2.2.2.2.2.2.2 pc = some (.lstore i)) (e : pc + 2 = pc') (hl : km_st2 ls i (kJ x) = some ls') (k : kGo xs Lx d m pc' ls' st V Q) : kGo xs Lx d m pc ls (kJ x :: st) V Q := by
  subst e
  exact g_loc hq hi rfl (by simp only [km_loc, km_stJ, kI, kJ] at hl ⊢; rw [hl]) k
theorem g_lstore_n (pc' : Nat) {i : Fin 4} {x : Int} {ls' : km_L} (hq : km_T[m]? = some q) (hi : km_at q.2.2.2.2.2.2.2 pc = some (.lstore_n i)) (e : pc + 1 = pc') (hl : km_st2 ls (i : Nat) (kJ x) = some ls') (k : kGo xs Lx d m pc' ls' st V Q) : kGo xs Lx d m pc ls (kJ x :: st) V Q := by
  subst e
  exact g_loc hq hi rfl (by simp only [km_loc, km_stJ, kI, kJ] at hl ⊢; rw [hl]) k
theorem g_astore (pc' : Nat) {i : Nat} {x : Nat} {ls' : km_L} (hq : km_T[m]? = some q) (hi : km_at q.2.2.2.2.2.2.2 pc = some (.astore i)) (e : pc + 2 = pc') (hl : km_st1 ls i (.ref x) = some ls') (k : kGo xs Lx d m pc' ls' st V Q) : kGo xs Lx d m pc ls (.ref x :: st) V Q := by
  subst e
  exact g_loc hq hi rfl (by simp only [km_loc, km_stA, kI, kJ] at hl ⊢; rw [hl]) k
theorem g_astore_n (pc' : Nat) {i : Fin 4} {x : Nat} {ls' : km_L} (hq : km_T[m]? = some q) (hi : km_at q.2.2.2.2.2.2.2 pc = some (.astore_n i)) (e : pc + 1 = pc') (hl : km_st1 ls (i : Nat) (.ref x) = some ls') (k : kGo xs Lx d m pc' ls' st V Q) : kGo xs Lx d m pc ls (.ref x :: st) V Q := by
  subst e
  exact g_loc hq hi rfl (by simp only [km_loc, km_stA, kI, kJ] at hl ⊢; rw [hl]) k
theorem g_iinc (pc' : Nat) {i : Nat} {n x : Int} {ls' : km_L} (hq : km_T[m]? = some q) (hi : km_at q.2.2.2.2.2.2.2 pc = some (.iinc i n)) (e : pc + 3 = pc') (hx : ls[i]? = some (some (kI x))) (hl : km_st1 ls i (kI (x + n)) = some ls') (k : kGo xs Lx d m pc' ls' st V Q) : kGo xs Lx d m pc ls st V Q := by
  subst e
  refine g_loc hq hi rfl ?_ k
  simp only [kI, Int32.ofInt_add] at hx hl
  simp only [km_loc, hx, hl]
/-! memory -/
theorem km_vlI {k a i : Nat} (x : Int) (h : km_el k i = 0) : km_vl k a i x = kI x := by simp only [km_vl, h]
theorem km_vlJ {k a i : Nat} (x : Int) (h : km_el k i = 1) : km_vl k a i x = kJ x := by simp only [km_vl, h]
theorem km_vlA {k a i : Nat} (x : Int) (h : km_el k i = 2) : km_vl k a i x = .ref (km_rf a i) := by simp only [km_vl, h]
theorem g_getI (pc' : Nat) {i k j n pl a : Nat} (hq : km_T[m]? = some q) (hi : km_at q.2.2.2.2.2.2.2 pc = some (.getfield i)) (e : pc + 3 = pc') (hf : km_fF km_F q.2.2.2.2.1 i = some (k, j, pl)) (hs : km_sh[a]? = some (k, n)) (hj : Nat.blt j n = true) (he : km_el k j = 0) (kk : kGo xs Lx d m pc' ls (kI (V a j) :: st) V Q) : kGo xs Lx d m pc ls (.ref a :: st) V Q := by
  subst e
  refine g_mem hq hi rfl rfl rfl (fun L hL => ⟨L, ?_, hL⟩) kk
  simp only [km_mem, hf, hL.rd hs (Nat.le_of_ble_eq_true hj), km_vlI _ he]
theorem g_getA (pc' b : Nat) {i k j n pl a : Nat} (hq : km_T[m]? = some q) (hi : km_at q.2.2.2.2.2.2.2 pc = some (.getfield i)) (e : pc + 3 = pc') (hf : km_fF km_F q.2.2.2.2.1 i = some (k, j, pl)) (hs : km_sh[a]? = some (k, n)) (hj : Nat.blt j n = true) (he : km_el k j = 2) (hb : km_rf a j = b) (kk : kGo xs Lx d m pc' ls (.ref b :: st) V Q) : kGo xs Lx d m pc ls (.ref a :: st) V Q := by
  subst e
  subst hb
  refine g_mem hq hi rfl rfl rfl (fun L hL => ⟨L, ?_, hL⟩) kk
  simp only [km_mem, hf, hL.rd hs (Nat.le_of_ble_eq_true hj), km_vlA _ he]
theorem g_putI (pc' : Nat) {i k j n pl a : Nat} {x : Int} (hq : km_T[m]? = some q) (hi : km_at q.2.2.2.2.2.2.2 pc = some (.putfield i)) (e : pc + 3 = pc') (hf : km_fF km_F q.2.2.2.2.1 i = some (k, j, pl)) (hs : km_sh[a]? = some (k, n)) (hj : Nat.blt j n = true) (he : km_Ty k j = .int) (he0 : km_el k j = 0) (hn : (km_X k j).2.2.2 = false) (kk : kGo xs Lx d m pc' ls st (up V a j x) Q) : kGo xs Lx d m pc ls (kI x :: .ref a :: st) V Q := by
  subst e
  refine g_mem hq hi rfl rfl rfl (fun L hL => ?_) kk
  obtain ⟨L1, h1, h2⟩ := hL.wr (v := kI x) hs (Nat.le_of_ble_eq_true hj) (km_vlI x he0).symm
  refine ⟨L1, ?_, h2⟩
  simp only [kI] at h1
  simp only [km_mem, hf, he, hn, km_fit, kI, h1]
  rfl
theorem g_putZ (pc' : Nat) {i k j n pl a : Nat} {x : Int} (hq : km_T[m]? = some q) (hi : km_at q.2.2.2.2.2.2.2 pc = some (.putfield i)) (e : pc + 3 = pc') (hf : km_fF km_F q.2.2.2.2.1 i = some (k, j, pl)) (hs : km_sh[a]? = some (k, n)) (hj : Nat.blt j n = true) (he : km_Ty k j = .boolean) (he0 : km_el k j = 0) (hn : (km_X k j).2.2.2 = false) (hx : x = 0 ∨ x = 1) (kk : kGo xs Lx d m pc' ls st (up V a j x) Q) : kGo xs Lx d m pc ls (kI x :: .ref a :: st) V Q := by
  subst e
  refine g_mem hq hi rfl rfl rfl (fun L hL => ?_) kk
  obtain ⟨L1, h1, h2⟩ := hL.wr (v := kI x) hs (Nat.le_of_ble_eq_true hj) (km_vlI x he0).symm
  refine ⟨L1, ?_, h2⟩
  simp only [kI] at h1
  have h3 : km_fit .boolean (.int (Int32.ofInt x)) = true := by rcases hx with rfl | rfl <;> rfl
  simp only [km_mem, hf, he, hn, kI, h1, h3]
  rfl
theorem km_Vw.ar {V : km_V} {L : km_M} (h : km_Vw V L) {a k n : Nat} {x : Int} (hs : km_sh[a]? = some (k, n)) (hx : 0 ≤ x ∧ x < n) (hn : n < 10000) : km_ar L a k (Int32.ofInt x) = some (km_vl k a x.toNat (V a x.toNat)) := by
  have h0 : ¬ Int32.ofInt x < 0 := fun z => by
    have := (k32_lt (x := x) (y := 0) (by omega) (by omega)).mp z
    omega
  have h1 : (Int32.ofInt x).toNatClampNeg = x.toNat := by
    show (Int32.ofInt x).toInt.toNat = _
    rw [k32 (by omega)]
  unfold km_ar
  rw [if_neg h0, h1]
  exact h.rd hs (by omega)
theorem km_Vw.ar0 {V : km_V} {L : km_M} (h : km_Vw V L) {a k k' n : Nat} {i : Int32} (hs : km_sh[a]? = some (k, n)) (hk : k ≠ k') : km_ar L a k' i = none := by
  obtain ⟨f, h1, -⟩ := h.2 a k n hs
  unfold km_ar km_rd
  rw [h1]
  have : Nat.beq k k' = false := by cases hb : Nat.beq k k' with | false => rfl | true => exact absurd (Nat.eq_of_beq_eq_true hb) hk
  simp [this]
theorem km_Vw.aw {V : km_V} {L : km_M} (h : km_Vw V L) {a k n : Nat} {x : Int} {v : Value} {y : Int} (hs : km_sh[a]? = some (k, n)) (hx : 0 ≤ x ∧ x < n) (hn : n < 10000) (hv : v = km_vl k a x.toNat y) : ∃ L', km_aw L a k (Int32.ofInt x) v = some L' ∧ km_Vw (up V a x.toNat y) L' := by
  have h0 : ¬ Int32.ofInt x < 0 := fun z => by
    have := (k32_lt (x := x) (y := 0) (by omega) (by omega)).mp z
    omega
  have h1 : (Int32.ofInt x).toNatClampNeg = x.toNat := by
    show (Int32.ofInt x).toInt.toNat = _
    rw [k32 (by omega)]
  unfold km_aw
  rw [if_neg h0, h1]
  exact h.wr hs (by omega) hv
theorem km_Vw.aw0 {V : km_V} {L : km_M} (h : km_Vw V L) {a k k' n : Nat} {i : Int32} {v : Value} (hs : km_sh[a]? = some (k, n)) (hk : k ≠ k') : km_aw L a k' i v = none := by
  obtain ⟨f, h1, -⟩ := h.2 a k n hs
  unfold km_aw km_wr
  rw [h1]
  have : Nat.beq k k' = false := by cases hb : Nat.beq k k' with | false => rfl | true => exact absurd (Nat.eq_of_beq_eq_true hb) hk
  simp [this]
theorem km_sh_lt {a : Nat} {z : Nat × Nat} (h : km_sh[a]? = some z) : Nat.beq a km_scr = false := by
  have h1 : a < km_sh.length := (List.getElem?_eq_some_iff.mp h).1
  have h2 : km_sh.length ≤ 1000 := by decide +kernel
  cases hb : Nat.beq a km_scr with
  | false => rfl
  | true =>
    have := Nat.eq_of_beq_eq_true hb
    unfold km_scr at this
    omega
theorem km_shn : ∀ z ∈ km_sh, z.2 < 10000 := by decide +kernel
theorem km_sh_n {a k n : Nat} (h : km_sh[a]? = some (k, n)) : n < 10000 := km_shn _ (List.mem_of_getElem? h)
theorem g_iald (pc' : Nat) {n a : Nat} {x : Int} (hq : km_T[m]? = some q) (hi : km_at q.2.2.2.2.2.2.2 pc = some .iaload) (e : pc + 1 = pc') (hs : km_sh[a]? = some (11, n)) (hx : 0 ≤ x ∧ x < n) (kk : kGo xs Lx d m pc' ls (kI (V a x.toNat) :: st) V Q) : kGo xs Lx d m pc ls (kI x :: .ref a :: st) V Q := by
  subst e
  refine g_mem hq hi rfl rfl rfl (fun L hL => ⟨L, ?_, hL⟩) kk
  simp only [km_mem, kI, km_sh_lt hs, cond_false, hL.ar hs hx (km_sh_n hs), km_vlI (k := 11) _ rfl]
theorem g_bald (pc' : Nat) {n a : Nat} {x : Int} (hq : km_T[m]? = some q) (hi : km_at q.2.2.2.2.2.2.2 pc = some .baload) (e : pc + 1 = pc') (hs : km_sh[a]? = some (10, n)) (hx : 0 ≤ x ∧ x < n) (kk : kGo xs Lx d m pc' ls (kI (V a x.toNat) :: st) V Q) : kGo xs Lx d m pc ls (kI x :: .ref a :: st) V Q := by
  subst e
  refine g_mem hq hi rfl rfl rfl (fun L hL => ⟨L, ?_, hL⟩) kk
  simp only [km_mem, kI, km_or, hL.ar hs hx (km_sh_n hs), km_vlI (k := 10) _ rfl]
theorem g_zald (pc' : Nat) {n a : Nat} {x : Int} (hq : km_T[m]? = some q) (hi : km_at q.2.2.2.2.2.2.2 pc = some .baload) (e : pc + 1 = pc') (hs : km_sh[a]? = some (13, n)) (hx : 0 ≤ x ∧ x < n) (kk : kGo xs Lx d m pc' ls (kI (V a x.toNat) :: st) V Q) : kGo xs Lx d m pc ls (kI x :: .ref a :: st) V Q := by
  subst e
  refine g_mem hq hi rfl rfl rfl (fun L hL => ⟨L, ?_, hL⟩) kk
  simp only [km_mem, kI, km_or, hL.ar0 (k' := 10) hs (by decide), hL.ar hs hx (km_sh_n hs), km_vlI (k := 13) _ rfl]
theorem g_lald (pc' : Nat) {n a : Nat} {x : Int} (hq : km_T[m]? = some q) (hi : km_at q.2.2.2.2.2.2.2 pc = some .laload) (e : pc + 1 = pc') (hs : km_sh[a]? = some (12, n)) (hx : 0 ≤ x ∧ x < n) (kk : kGo xs Lx d m pc' ls (kJ (V a x.toNat) :: st) V Q) : kGo xs Lx d m pc ls (kI x :: .ref a :: st) V Q := by
  subst e
  refine g_mem hq hi rfl rfl rfl (fun L hL => ⟨L, ?_, hL⟩) kk
  simp only [km_mem, kI, hL.ar hs hx (km_sh_n hs), km_vlJ (k := 12) _ rfl]
theorem g_aald (pc' b : Nat) {n a kd : Nat} {x : Int} (hq : km_T[m]? = some q) (hi : km_at q.2.2.2.2.2.2.2 pc = some .aaload) (e : pc + 1 = pc') (hkd : kd = 14 ∨ kd = 15 ∨ kd = 16) (hs : km_sh[a]? = some (kd, n)) (hx : 0 ≤ x ∧ x < n) (hb : km_rf a x.toNat = b) (kk : kGo xs Lx d m pc' ls (.ref b :: st) V Q) : kGo xs Lx d m pc ls (kI x :: .ref a :: st) V Q := by
  subst e; subst hb
  refine g_mem hq hi rfl rfl rfl (fun L hL => ⟨L, ?_, hL⟩) kk
  rcases hkd with rfl | rfl | rfl
  · simp only [km_mem, kI, km_or, hL.ar hs hx (km_sh_n hs), km_vlA (k := 14) _ rfl]
  · simp only [km_mem, kI, km_or, hL.ar0 (k' := 14) hs (by decide), hL.ar hs hx (km_sh_n hs), km_vlA (k := 15) _ rfl]
  · simp only [km_mem, kI, km_or, hL.ar0 (k' := 14) hs (by decide), hL.ar0 (k' := 15) hs (by decide), hL.ar hs hx (km_sh_n hs), km_vlA (k := 16) _ rfl]
theorem g_iast (pc' : Nat) {n a : Nat} {x y : Int} (hq : km_T[m]? = some q) (hi : km_at q.2.2.2.2.2.2.2 pc = some .iastore) (e : pc + 1 = pc') (hs : km_sh[a]? = some (11, n)) (hx : 0 ≤ x ∧ x < n) (kk : kGo xs Lx d m pc' ls st (up V a x.toNat y) Q) : kGo xs Lx d m pc ls (kI y :: kI x :: .ref a :: st) V Q := by
  subst e
  refine g_mem hq hi rfl rfl rfl (fun L hL => ?_) kk
  obtain ⟨L1, h1, h2⟩ := hL.aw (v := kI y) (y := y) hs hx (km_sh_n hs) (km_vlI (k := 11) y rfl).symm
  simp only [kI] at h1
  exact ⟨L1, by simp only [km_mem, kI, h1], h2⟩
theorem g_bast (pc' : Nat) {n a : Nat} {x y : Int} (hq : km_T[m]? = some q) (hi : km_at q.2.2.2.2.2.2.2 pc = some .bastore) (e : pc + 1 = pc') (hs : km_sh[a]? = some (10, n)) (hx : 0 ≤ x ∧ x < n) (kk : kGo xs Lx d m pc' ls st (up V a x.toNat (k8 y)) Q) : kGo xs Lx d m pc ls (kI y :: kI x :: .ref a :: st) V Q := by
  subst e
  refine g_mem hq hi rfl rfl rfl (fun L hL => ?_) kk
  obtain ⟨L1, h1, h2⟩ := hL.aw (v := kI (k8 y)) (y := k8 y) hs hx (km_sh_n hs) (km_vlI (k := 10) _ rfl).symm
  simp only [kI] at h1
  exact ⟨L1, by simp only [km_mem, kI, k_i8, h1, km_or], h2⟩
theorem g_zast (pc' : Nat) {n a : Nat} {x y : Int} (hq : km_T[m]? = some q) (hi : km_at q.2.2.2.2.2.2.2 pc = some .bastore) (e : pc + 1 = pc') (hs : km_sh[a]? = some (13, n)) (hx : 0 ≤ x ∧ x < n) (hy : y = 0 ∨ y = 1) (kk : kGo xs Lx d m pc' ls st (up V a x.toNat y) Q) : kGo xs Lx d m pc ls (kI y :: kI x :: .ref a :: st) V Q := by
  subst e
  refine g_mem hq hi rfl rfl rfl (fun L hL => ?_) kk
  obtain ⟨L1, h1, h2⟩ := hL.aw (v := kI y) (y := y) hs hx (km_sh_n hs) (km_vlI (k := 13) _ rfl).symm
  simp only [kI] at h1
  have h3 : Int32.ofInt y &&& 1 = Int32.ofInt y := by rcases hy with rfl | rfl <;> rfl
  exact ⟨L1, by simp only [km_mem, kI, h3, hL.aw0 (k' := 10) hs (by decide), h1, km_or], h2⟩
theorem g_last (pc' : Nat) {n a : Nat} {x y : Int} (hq : km_T[m]? = some q) (hi : km_at q.2.2.2.2.2.2.2 pc = some .lastore) (e : pc + 1 = pc') (hs : km_sh[a]? = some (12, n)) (hx : 0 ≤ x ∧ x < n) (kk : kGo xs Lx d m pc' ls st (up V a x.toNat y) Q) : kGo xs Lx d m pc ls (kJ y :: kI x :: .ref a :: st) V Q := by
  subst e
  refine g_mem hq hi rfl rfl rfl (fun L hL => ?_) kk
  obtain ⟨L1, h1, h2⟩ := hL.aw (v := kJ y) (y := y) hs hx (km_sh_n hs) (km_vlJ (k := 12) y rfl).symm
  simp only [kJ] at h1
  exact ⟨L1, by simp only [km_mem, kI, kJ, h1], h2⟩
theorem g_alen (pc' : Nat) {n k a : Nat} (hq : km_T[m]? = some q) (hi : km_at q.2.2.2.2.2.2.2 pc = some .arraylength) (e : pc + 1 = pc') (hs : km_sh[a]? = some (k, n)) (hk : (Nat.blt 9 k && Nat.blt k 17) = true) (kk : kGo xs Lx d m pc' ls (kI n :: st) V Q) : kGo xs Lx d m pc ls (.ref a :: st) V Q := by
  subst e
  refine g_mem hq hi rfl rfl rfl (fun L hL => ⟨L, ?_, hL⟩) kk
  obtain ⟨f, h1, -⟩ := hL.2 a k n hs
  simp only [km_mem, km_sh_lt hs, cond_false, h1, hk, cond_true, kI, Int32.ofInt_eq_ofNat]
end TF

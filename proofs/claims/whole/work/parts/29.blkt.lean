set_option maxRecDepth 10000 in
theorem b159_0 {xs : Nat → Int32} {Lx d : Nat} {V : km_V} {Q : Option Value → km_V → Prop} {a2 : Int} {r1 : Nat} (hr1 : km_sh[r1]? = some (11, 78))
    (h : (0 ≤ a2 ∧ a2 ≤ 2147483647) ∧ (kR (a2 % 2)) ∧ (((a2 % 2) ≠ 0 →
    (keinC V r1 (a2 / 2)) ∧ (0 ≤ ((kein V r1 (a2 / 2)) + 2) ∧ ((kein V r1 (a2 / 2)) + 2) ≤ 2147483647) ∧ (∀ z1 : Int, z1 = (((kein V r1 (a2 / 2)) + 2) % 4) → (0 ≤ (a2 / 2) ∧ (a2 / 2) < (16 : Nat)) ∧ (0 ≤ (V 313 (Int.toNat (a2 / 2))) ∧ (V 313 (Int.toNat (a2 / 2))) ≤ 2147483647) ∧ (0 ≤ (z1 + 1) ∧ (z1 + 1) ≤ 2147483647) ∧ (∀ z2 : Int, z2 = ((4 * ((V 313 (Int.toNat (a2 / 2))) / 2)) + ((z1 + 1) % 4)) → (0 ≤ z2 ∧ z2 < (32 : Nat)) ∧ (kR (V 318 (Int.toNat z2))) ∧ (((V 318 (Int.toNat z2)) = 0 →
      Q (some (kI ((2 * (V 317 (Int.toNat z2))) + 0))) V) ∧
     ((V 318 (Int.toNat z2)) ≠ 0 →
      Q (some (kI ((2 * (V 317 (Int.toNat z2))) + 1))) V))))) ∧
   ((a2 % 2) = 0 →
    (0 ≤ (a2 / 2) ∧ (a2 / 2) < (16 : Nat)) ∧ (∀ z3 : Int, z3 = (V 315 (Int.toNat (a2 / 2))) → (keinC V r1 z3) ∧ (∀ z4 : Int, z4 = (kein V r1 z3) → (0 ≤ z3 ∧ z3 < (16 : Nat)) ∧ (0 ≤ (V 313 (Int.toNat z3)) ∧ (V 313 (Int.toNat z3)) ≤ 2147483647) ∧ (0 ≤ (z4 + 1) ∧ (z4 + 1) ≤ 2147483647) ∧ (∀ z5 : Int, z5 = ((4 * ((V 313 (Int.toNat z3)) / 2)) + ((z4 + 1) % 4)) → (0 ≤ z5 ∧ z5 < (32 : Nat)) ∧ (kR (V 318 (Int.toNat z5))) ∧ (((V 318 (Int.toNat z5)) = 0 →
      Q (some (kI ((2 * (V 317 (Int.toNat z5))) + 0))) V) ∧
     ((V 318 (Int.toNat z5)) ≠ 0 →
      Q (some (kI ((2 * (V 317 (Int.toNat z5))) + 1))) V)))))))) :
    kGo xs Lx (d + 1) 159 0 [some (.ref 299), some (.ref r1), some (kI a2), none, none, none, none] [] V Q := by
  refine g_iload_n 1 gq159 rfl rfl rfl ?_
  refine g_iconst 2 gq159 rfl rfl ?_
  have c2 := h.1
  replace h := h.2
  refine g_idiv 3 gq159 rfl rfl c2 (by omega) ?_
  refine g_istore_n 4 gq159 rfl rfl rfl ?_
  refine g_iload_n 5 gq159 rfl rfl rfl ?_
  refine g_iconst 6 gq159 rfl rfl ?_
  refine g_irem 7 gq159 rfl rfl c2 (by omega) ?_
  have c9 := h.1
  replace h := h.2
  refine g_if_ne 19 10 gq159 rfl rfl rfl c9 (fun c => ?_) (fun c => ?_)
  · replace h := h.1 c
    refine g_iload_n 20 gq159 rfl rfl rfl ?_
    refine g_istore 22 gq159 rfl rfl rfl ?_
    refine g_iload_n 23 gq159 rfl rfl rfl ?_
    refine g_iconst 24 gq159 rfl rfl ?_
    refine g_irem 25 gq159 rfl rfl c2 (by omega) ?_
    refine g_if_ne 38 28 gq159 rfl rfl rfl c9 (fun c => ?_) (fun c => ?_)
    rotate_left
    · exfalso; omega
    refine g_aload_n 39 gq159 rfl rfl rfl ?_
    refine g_aload_n 40 gq159 rfl rfl rfl ?_
    refine g_iload 42 gq159 rfl rfl rfl ?_
    have c24 := h.1
    replace h := h.2
    refine g_virt 158 _ (i := 260) gq159 rfl rfl gq158 rfl rfl rfl rfl rfl rfl ?_
    refine sp_endIn hr1 c24 ?_
    refine g_iconst 46 gq159 rfl rfl ?_
    refine g_iadd 47 gq159 rfl rfl ?_
    refine g_iconst 48 gq159 rfl rfl ?_
    have c31 := h.1
    replace h := h.2
    refine g_irem 49 gq159 rfl rfl c31 (by omega) ?_
    refine g_istore 51 gq159 rfl rfl rfl ?_
    replace h := h _ rfl
    refine g_iconst 52 gq159 rfl rfl ?_
    refine g_aload_n 53 gq159 rfl rfl rfl ?_
    refine g_getA 56 313 gq159 rfl rfl rfl rfl rfl rfl rfl ?_
    refine g_iload 58 gq159 rfl rfl rfl ?_
    have c40 := h.1
    replace h := h.2
    refine g_iald 59 gq159 rfl rfl rfl c40 ?_
    refine g_iconst 60 gq159 rfl rfl ?_
    have c44 := h.1
    replace h := h.2
    refine g_idiv 61 gq159 rfl rfl c44 (by omega) ?_
    refine g_imul 62 gq159 rfl rfl ?_
    refine g_iload 64 gq159 rfl rfl rfl ?_
    refine g_iconst 65 gq159 rfl rfl ?_
    refine g_iadd 66 gq159 rfl rfl ?_
    refine g_iconst 67 gq159 rfl rfl ?_
    have c52 := h.1
    replace h := h.2
    refine g_irem 68 gq159 rfl rfl c52 (by omega) ?_
    refine g_iadd 69 gq159 rfl rfl ?_
    refine g_istore 71 gq159 rfl rfl rfl ?_
    replace h := h _ rfl
    refine g_iconst 72 gq159 rfl rfl ?_
    refine g_aload_n 73 gq159 rfl rfl rfl ?_
    refine g_getA 76 317 gq159 rfl rfl rfl rfl rfl rfl rfl ?_
    refine g_iload 78 gq159 rfl rfl rfl ?_
    have c62 := h.1
    replace h := h.2
    refine g_iald 79 gq159 rfl rfl rfl c62 ?_
    refine g_imul 80 gq159 rfl rfl ?_
    refine g_aload_n 81 gq159 rfl rfl rfl ?_
    refine g_getA 84 318 gq159 rfl rfl rfl rfl rfl rfl rfl ?_
    refine g_iload 86 gq159 rfl rfl rfl ?_
    refine g_zald 87 gq159 rfl rfl rfl c62 ?_
    have c70 := h.1
    replace h := h.2
    refine g_if_eq 94 90 gq159 rfl rfl rfl c70 (fun c => ?_) (fun c => ?_)
    · replace h := h.1 c
      refine g_iconst 95 gq159 rfl rfl ?_
      refine g_iadd 96 gq159 rfl rfl ?_
      exact g_iret gq159 rfl rfl h
    · replace h := h.2 c
      refine g_iconst 91 gq159 rfl rfl ?_
      refine g_goto 95 gq159 rfl rfl ?_
      refine g_iadd 96 gq159 rfl rfl ?_
      exact g_iret gq159 rfl rfl h
  · replace h := h.2 c
    refine g_aload_n 11 gq159 rfl rfl rfl ?_
    refine g_getA 14 315 gq159 rfl rfl rfl rfl rfl rfl rfl ?_
    refine g_iload_n 15 gq159 rfl rfl rfl ?_
    have c86 := h.1
    replace h := h.2
    refine g_iald 16 gq159 rfl rfl rfl c86 ?_
    refine g_goto 20 gq159 rfl rfl ?_
    refine g_istore 22 gq159 rfl rfl rfl ?_
    replace h := h _ rfl
    refine g_iload_n 23 gq159 rfl rfl rfl ?_
    refine g_iconst 24 gq159 rfl rfl ?_
    refine g_irem 25 gq159 rfl rfl c2 (by omega) ?_
    refine g_if_ne 38 28 gq159 rfl rfl rfl c9 (fun c => ?_) (fun c => ?_)
    · exfalso; omega
    refine g_aload_n 29 gq159 rfl rfl rfl ?_
    refine g_aload_n 30 gq159 rfl rfl rfl ?_
    refine g_iload 32 gq159 rfl rfl rfl ?_
    have c100 := h.1
    replace h := h.2
    refine g_virt 158 _ (i := 260) gq159 rfl rfl gq158 rfl rfl rfl rfl rfl rfl ?_
    refine sp_endIn hr1 c100 ?_
    refine g_goto 49 gq159 rfl rfl ?_
    refine g_istore 51 gq159 rfl rfl rfl ?_
    replace h := h _ rfl
    refine g_iconst 52 gq159 rfl rfl ?_
    refine g_aload_n 53 gq159 rfl rfl rfl ?_
    refine g_getA 56 313 gq159 rfl rfl rfl rfl rfl rfl rfl ?_
    refine g_iload 58 gq159 rfl rfl rfl ?_
    have c111 := h.1
    replace h := h.2
    refine g_iald 59 gq159 rfl rfl rfl c111 ?_
    refine g_iconst 60 gq159 rfl rfl ?_
    have c115 := h.1
    replace h := h.2
    refine g_idiv 61 gq159 rfl rfl c115 (by omega) ?_
    refine g_imul 62 gq159 rfl rfl ?_
    refine g_iload 64 gq159 rfl rfl rfl ?_
    refine g_iconst 65 gq159 rfl rfl ?_
    refine g_iadd 66 gq159 rfl rfl ?_
    refine g_iconst 67 gq159 rfl rfl ?_
    have c123 := h.1
    replace h := h.2
    refine g_irem 68 gq159 rfl rfl c123 (by omega) ?_
    refine g_iadd 69 gq159 rfl rfl ?_
    refine g_istore 71 gq159 rfl rfl rfl ?_
    replace h := h _ rfl
    refine g_iconst 72 gq159 rfl rfl ?_
    refine g_aload_n 73 gq159 rfl rfl rfl ?_
    refine g_getA 76 317 gq159 rfl rfl rfl rfl rfl rfl rfl ?_
    refine g_iload 78 gq159 rfl rfl rfl ?_
    have c133 := h.1
    replace h := h.2
    refine g_iald 79 gq159 rfl rfl rfl c133 ?_
    refine g_imul 80 gq159 rfl rfl ?_
    refine g_aload_n 81 gq159 rfl rfl rfl ?_
    refine g_getA 84 318 gq159 rfl rfl rfl rfl rfl rfl rfl ?_
    refine g_iload 86 gq159 rfl rfl rfl ?_
    refine g_zald 87 gq159 rfl rfl rfl c133 ?_
    have c141 := h.1
    replace h := h.2
    refine g_if_eq 94 90 gq159 rfl rfl rfl c141 (fun c => ?_) (fun c => ?_)
    · replace h := h.1 c
      refine g_iconst 95 gq159 rfl rfl ?_
      refine g_iadd 96 gq159 rfl rfl ?_
      exact g_iret gq159 rfl rfl h
    · replace h := h.2 c
      refine g_iconst 91 gq159 rfl rfl ?_
      refine g_goto 95 gq159 rfl rfl ?_
      refine g_iadd 96 gq159 rfl rfl ?_
      exact g_iret gq159 rfl rfl h

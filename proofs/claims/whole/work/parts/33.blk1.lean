set_option maxRecDepth 10000 in
theorem b13_0 {xs : Nat → Int32} {Lx d : Nat} {V : km_V} {Q : Option Value → km_V → Prop} {t : Nat} (ht : km_sh[t]? = some (1, 3)) {r1 : Nat} (hr1 : km_sh[r1]? = some (5, 5)) {r2 : Nat} (hr2 : km_sh[r2]? = some (2, 11))
    (h : kGo xs Lx (d + 3) 13 2 [some (.ref t), some (.ref r1), some (.ref r2), some (kI 0), none, none] [] V Q) :
    kGo xs Lx (d + 3) 13 0 [some (.ref t), some (.ref r1), some (.ref r2), none, none, none] [] V Q := by
  refine g_iconst 1 gq13 rfl rfl ?_
  refine g_istore_n 2 gq13 rfl rfl rfl ?_
  exact kGo.weak (km_Le.s (km_Le.s (km_Le.s (km_Le.s (km_Le.n (km_Le.n km_Le.nil)))))) h
set_option maxRecDepth 10000 in
theorem b13_2 {xs : Nat → Int32} {Lx d : Nat} {V : km_V} {Q : Option Value → km_V → Prop} {x3 : Int} {q0 : Nat} (hq0 : km_sh[q0]? = some (1, 3)) {q1 : Nat} (hq1 : km_sh[q1]? = some (5, 5)) {q2 : Nat} (hq2 : km_sh[q2]? = some (2, 11))
    (h : (kR x3) ∧ ((((121 : Nat) : Int) ≤ x3 →
    kCI xs Lx (d + 2) 63 3 [.ref q1] V (fun y1 W1 =>
    (kR ((up W1 q0 2 y1) q1 0)) ∧ ((((up W1 q0 2 y1) q1 0) ≠ 0 →
      kCV xs Lx (d + 2) 14 5 [.ref q0, .ref q1, .ref q2] (up W1 q0 2 y1) (fun W2 =>
      kGo xs Lx (d + 3) 13 48 [some (.ref q0), some (.ref q1), none, some (kI 0), none, none] [] W2 Q)) ∧
     (((up W1 q0 2 y1) q1 0) = 0 →
      Q none (up W1 q0 2 y1))))) ∧
   (x3 < ((121 : Nat) : Int) →
    (0 ≤ x3 ∧ x3 < (121 : Nat)) ∧ kGo xs Lx (d + 3) 13 2 [some (.ref q0), some (.ref q1), some (.ref q2), some (kI (x3 + 1)), none, none] [] (up V (q0 + 1) (Int.toNat x3) 0) Q))) :
    kGo xs Lx (d + 3) 13 2 [some (.ref q0), some (.ref q1), some (.ref q2), some (kI x3), none, none] [] V Q := by
  refine g_iload_n 3 gq13 rfl rfl rfl ?_
  refine g_aload_n 4 gq13 rfl rfl rfl ?_
  refine g_getA 7 (q0 + 1) gq13 rfl rfl rfl hq0 rfl rfl (rfB0 hq0) ?_
  refine g_alen 8 gq13 rfl rfl (shB0 hq0) rfl ?_
  have c4 := h.1
  replace h := h.2
  refine g_icmp_ge 24 11 gq13 rfl rfl rfl c4 (by omega) (fun c => ?_) (fun c => ?_)
  · replace h := h.1 c
    refine g_aload_n 25 gq13 rfl rfl rfl ?_
    refine g_aload_n 26 gq13 rfl rfl rfl ?_
    refine g_virt 63 _ (i := 18) gq13 rfl rfl gq63 hq1 rfl rfl rfl rfl rfl ?_
    refine kGo.mono h (fun r W1 hr => ?_)
    obtain ⟨y1, rfl, h⟩ := hr
    refine g_putI 32 gq13 rfl rfl rfl hq0 rfl rfl rfl rfl ?_
    refine g_aload_n 33 gq13 rfl rfl rfl ?_
    refine g_getI 36 gq13 rfl rfl rfl hq1 rfl rfl ?_
    have c16 := h.1
    replace h := h.2
    refine g_if_ne 40 39 gq13 rfl rfl rfl c16 (fun c => ?_) (fun c => ?_)
    · replace h := h.1 c
      refine g_aload_n 41 gq13 rfl rfl rfl ?_
      refine g_aload_n 42 gq13 rfl rfl rfl ?_
      refine g_aload_n 43 gq13 rfl rfl rfl ?_
      refine g_virt 14 _ (i := 30) gq13 rfl rfl gq14 hq0 rfl rfl rfl rfl rfl ?_
      refine kGo.mono h (fun r W2 hr => ?_)
      obtain ⟨rfl, h⟩ := hr
      refine g_iconst 47 gq13 rfl rfl ?_
      refine g_istore_n 48 gq13 rfl rfl rfl ?_
      exact kGo.weak (km_Le.s (km_Le.s (km_Le.n (km_Le.s (km_Le.n (km_Le.n km_Le.nil)))))) h
    · replace h := h.2 c
      exact g_vret gq13 rfl rfl h
  · replace h := h.2 c
    refine g_aload_n 12 gq13 rfl rfl rfl ?_
    refine g_getA 15 (q0 + 1) gq13 rfl rfl rfl hq0 rfl rfl (rfB0 hq0) ?_
    refine g_iload_n 16 gq13 rfl rfl rfl ?_
    refine g_iconst 17 gq13 rfl rfl ?_
    have c36 := h.1
    replace h := h.2
    refine g_iast 18 gq13 rfl rfl (shB0 hq0) c36 ?_
    refine g_iinc 21 gq13 rfl rfl rfl rfl ?_
    refine g_goto 2 gq13 rfl rfl ?_
    exact kGo.weak (km_Le.s (km_Le.s (km_Le.s (km_Le.s (km_Le.n (km_Le.n km_Le.nil)))))) h
set_option maxRecDepth 10000 in
theorem b13_48 {xs : Nat → Int32} {Lx d : Nat} {V : km_V} {Q : Option Value → km_V → Prop} {x3 : Int} {q0 : Nat} (hq0 : km_sh[q0]? = some (1, 3)) {q1 : Nat} (hq1 : km_sh[q1]? = some (5, 5))
    (h : (kR x3) ∧ (kR (V q1 1)) ∧ (((V q1 1) < x3 →
    Q none V) ∧
   (x3 ≤ (V q1 1) →
    kGo xs Lx (d + 3) 13 59 [some (.ref q0), some (.ref q1), none, some (kI x3), some (kI 1), none] [] V Q))) :
    kGo xs Lx (d + 3) 13 48 [some (.ref q0), some (.ref q1), none, some (kI x3), none, none] [] V Q := by
  refine g_iload_n 49 gq13 rfl rfl rfl ?_
  refine g_aload_n 50 gq13 rfl rfl rfl ?_
  refine g_getI 53 gq13 rfl rfl rfl hq1 rfl rfl ?_
  have c3 := h.1
  replace h := h.2
  have c5 := h.1
  replace h := h.2
  refine g_icmp_gt 115 56 gq13 rfl rfl rfl c3 c5 (fun c => ?_) (fun c => ?_)
  · replace h := h.1 c
    exact g_vret gq13 rfl rfl h
  · replace h := h.2 c
    refine g_iconst 57 gq13 rfl rfl ?_
    refine g_istore 59 gq13 rfl rfl rfl ?_
    exact kGo.weak (km_Le.s (km_Le.s (km_Le.n (km_Le.s (km_Le.s (km_Le.n km_Le.nil)))))) h
set_option maxRecDepth 10000 in
theorem b13_59 {xs : Nat → Int32} {Lx d : Nat} {V : km_V} {Q : Option Value → km_V → Prop} {x3 x4 : Int} {q0 : Nat} (hq0 : km_sh[q0]? = some (1, 3)) {q1 : Nat} (hq1 : km_sh[q1]? = some (5, 5))
    (h : (kR x4) ∧ ((12 < x4 →
    kGo xs Lx (d + 3) 13 48 [some (.ref q0), some (.ref q1), none, some (kI (x3 + 1)), none, none] [] V Q) ∧
   (x4 ≤ 12 →
    (0 ≤ ((x3 * 13) + x4) ∧ ((x3 * 13) + x4) < (117 : Nat)) ∧ (∀ z1 : Int, z1 = (V (q0 + 2) (Int.toNat ((x3 * 13) + x4))) → (kR z1) ∧ ((z1 ≤ 0 →
      kGo xs Lx (d + 3) 13 59 [some (.ref q0), some (.ref q1), none, some (kI x3), some (kI (x4 + 1)), none] [] V Q) ∧
     (0 < z1 →
      kCV xs Lx (d + 2) 15 7 [.ref q0, kI z1, kI ((V q1 1) - (2 * x3)), kI (x4 - 1)] V (fun W2 =>
      kGo xs Lx (d + 3) 13 59 [some (.ref q0), some (.ref q1), none, some (kI x3), some (kI (x4 + 1)), none] [] W2 Q))))))) :
    kGo xs Lx (d + 3) 13 59 [some (.ref q0), some (.ref q1), none, some (kI x3), some (kI x4), none] [] V Q := by
  refine g_iload 61 gq13 rfl rfl rfl ?_
  refine g_bipush 63 gq13 rfl rfl rfl ?_
  have c2 := h.1
  replace h := h.2
  refine g_icmp_gt 109 66 gq13 rfl rfl rfl c2 (by omega) (fun c => ?_) (fun c => ?_)
  · replace h := h.1 c
    refine g_iinc 112 gq13 rfl rfl rfl rfl ?_
    refine g_goto 48 gq13 rfl rfl ?_
    exact kGo.weak (km_Le.s (km_Le.s (km_Le.n (km_Le.s (km_Le.n (km_Le.n km_Le.nil)))))) h
  · replace h := h.2 c
    refine g_aload_n 67 gq13 rfl rfl rfl ?_
    refine g_getA 70 (q0 + 2) gq13 rfl rfl rfl hq0 rfl rfl (rfB1 hq0) ?_
    refine g_iload_n 71 gq13 rfl rfl rfl ?_
    refine g_bipush 73 gq13 rfl rfl rfl ?_
    refine g_imul 74 gq13 rfl rfl ?_
    refine g_iload 76 gq13 rfl rfl rfl ?_
    refine g_iadd 77 gq13 rfl rfl ?_
    have c17 := h.1
    replace h := h.2
    refine g_iald 78 gq13 rfl rfl (shB1 hq0) c17 ?_
    refine g_istore 80 gq13 rfl rfl rfl ?_
    replace h := h _ rfl
    refine g_iload 82 gq13 rfl rfl rfl ?_
    have c23 := h.1
    replace h := h.2
    refine g_if_le 103 85 gq13 rfl rfl rfl c23 (fun c => ?_) (fun c => ?_)
    · replace h := h.1 c
      refine g_iinc 106 gq13 rfl rfl rfl rfl ?_
      refine g_goto 59 gq13 rfl rfl ?_
      exact kGo.weak (km_Le.s (km_Le.s (km_Le.n (km_Le.s (km_Le.s (km_Le.n km_Le.nil)))))) h
    · replace h := h.2 c
      refine g_aload_n 86 gq13 rfl rfl rfl ?_
      refine g_iload 88 gq13 rfl rfl rfl ?_
      refine g_aload_n 89 gq13 rfl rfl rfl ?_
      refine g_getI 92 gq13 rfl rfl rfl hq1 rfl rfl ?_
      refine g_iconst 93 gq13 rfl rfl ?_
      refine g_iload_n 94 gq13 rfl rfl rfl ?_
      refine g_imul 95 gq13 rfl rfl ?_
      refine g_isub 96 gq13 rfl rfl ?_
      refine g_iload 98 gq13 rfl rfl rfl ?_
      refine g_iconst 99 gq13 rfl rfl ?_
      refine g_isub 100 gq13 rfl rfl ?_
      refine g_virt 15 _ (i := 37) gq13 rfl rfl gq15 hq0 rfl rfl rfl rfl rfl ?_
      refine kGo.mono h (fun r W2 hr => ?_)
      obtain ⟨rfl, h⟩ := hr
      refine g_iinc 106 gq13 rfl rfl rfl rfl ?_
      refine g_goto 59 gq13 rfl rfl ?_
      exact kGo.weak (km_Le.s (km_Le.s (km_Le.n (km_Le.s (km_Le.s (km_Le.n km_Le.nil)))))) h
set_option maxRecDepth 10000 in
theorem b14_0 {xs : Nat → Int32} {Lx d : Nat} {V : km_V} {Q : Option Value → km_V → Prop} {t : Nat} (ht : km_sh[t]? = some (1, 3)) {r1 : Nat} (hr1 : km_sh[r1]? = some (5, 5)) {r2 : Nat} (hr2 : km_sh[r2]? = some (2, 11))
    (h : kGo xs Lx (d + 2) 14 2 [some (.ref t), some (.ref r1), some (.ref r2), some (kI 0), none] [] V Q) :
    kGo xs Lx (d + 2) 14 0 [some (.ref t), some (.ref r1), some (.ref r2), none, none] [] V Q := by
  refine g_iconst 1 gq14 rfl rfl ?_
  refine g_istore_n 2 gq14 rfl rfl rfl ?_
  exact kGo.weak (km_Le.s (km_Le.s (km_Le.s (km_Le.s (km_Le.n km_Le.nil))))) h
set_option maxRecDepth 10000 in
theorem b14_2 {xs : Nat → Int32} {Lx d : Nat} {V : km_V} {Q : Option Value → km_V → Prop} {x3 : Int} {q0 : Nat} (hq0 : km_sh[q0]? = some (1, 3)) {q1 : Nat} (hq1 : km_sh[q1]? = some (5, 5)) {q2 : Nat} (hq2 : km_sh[q2]? = some (2, 11))
    (h : (kR x3) ∧ ((((117 : Nat) : Int) ≤ x3 →
    kGo xs Lx (d + 2) 14 26 [some (.ref q0), some (.ref q1), some (.ref q2), some (kI 0), none] [] V Q) ∧
   (x3 < ((117 : Nat) : Int) →
    (0 ≤ x3 ∧ x3 < (117 : Nat)) ∧ kGo xs Lx (d + 2) 14 2 [some (.ref q0), some (.ref q1), some (.ref q2), some (kI (x3 + 1)), none] [] (up V (q0 + 2) (Int.toNat x3) 0) Q))) :
    kGo xs Lx (d + 2) 14 2 [some (.ref q0), some (.ref q1), some (.ref q2), some (kI x3), none] [] V Q := by
  refine g_iload_n 3 gq14 rfl rfl rfl ?_
  refine g_aload_n 4 gq14 rfl rfl rfl ?_
  refine g_getA 7 (q0 + 2) gq14 rfl rfl rfl hq0 rfl rfl (rfB1 hq0) ?_
  refine g_alen 8 gq14 rfl rfl (shB1 hq0) rfl ?_
  have c4 := h.1
  replace h := h.2
  refine g_icmp_ge 24 11 gq14 rfl rfl rfl c4 (by omega) (fun c => ?_) (fun c => ?_)
  · replace h := h.1 c
    refine g_iconst 25 gq14 rfl rfl ?_
    refine g_istore_n 26 gq14 rfl rfl rfl ?_
    exact kGo.weak (km_Le.s (km_Le.s (km_Le.s (km_Le.s (km_Le.n km_Le.nil))))) h
  · replace h := h.2 c
    refine g_aload_n 12 gq14 rfl rfl rfl ?_
    refine g_getA 15 (q0 + 2) gq14 rfl rfl rfl hq0 rfl rfl (rfB1 hq0) ?_
    refine g_iload_n 16 gq14 rfl rfl rfl ?_
    refine g_iconst 17 gq14 rfl rfl ?_
    have c16 := h.1
    replace h := h.2
    refine g_iast 18 gq14 rfl rfl (shB1 hq0) c16 ?_
    refine g_iinc 21 gq14 rfl rfl rfl rfl ?_
    refine g_goto 2 gq14 rfl rfl ?_
    exact kGo.weak (km_Le.s (km_Le.s (km_Le.s (km_Le.s (km_Le.n km_Le.nil))))) h
set_option maxRecDepth 10000 in
theorem b14_26 {xs : Nat → Int32} {Lx d : Nat} {V : km_V} {Q : Option Value → km_V → Prop} {x3 : Int} {q0 : Nat} (hq0 : km_sh[q0]? = some (1, 3)) {q1 : Nat} (hq1 : km_sh[q1]? = some (5, 5)) {q2 : Nat} (hq2 : km_sh[q2]? = some (2, 11))
    (h : (0 ≤ (V q1 1) ∧ (V q1 1) < 32) ∧ (kR x3) ∧ (kR ((1 * ((2 ^ Int.toNat (V q1 1) : Nat) : Int)) - 1)) ∧ ((((1 * ((2 ^ Int.toNat (V q1 1) : Nat) : Int)) - 1) < x3 →
    Q none V) ∧
   (x3 ≤ ((1 * ((2 ^ Int.toNat (V q1 1) : Nat) : Int)) - 1) →
    kCI xs Lx (d + 1) 35 10 [.ref q2, .ref q1, kI x3] V (fun y1 W1 =>
    (kR y1) ∧ ((12 < y1 →
      kGo xs Lx (d + 2) 14 26 [some (.ref q0), some (.ref q1), some (.ref q2), some (kI (x3 + 1)), none] [] W1 Q) ∧
     (y1 ≤ 12 →
      ((0 ≤ x3 ∧ x3 < 256)) ∧ (0 ≤ (((kbit x3) * 13) + y1) ∧ (((kbit x3) * 13) + y1) < (117 : Nat)) ∧ kGo xs Lx (d + 2) 14 26 [some (.ref q0), some (.ref q1), some (.ref q2), some (kI (x3 + 1)), none] [] (up W1 (q0 + 2) (Int.toNat (((kbit x3) * 13) + y1)) ((W1 (q0 + 2) (Int.toNat (((kbit x3) * 13) + y1))) + 1)) Q)))))) :
    kGo xs Lx (d + 2) 14 26 [some (.ref q0), some (.ref q1), some (.ref q2), some (kI x3), none] [] V Q := by
  refine g_iload_n 27 gq14 rfl rfl rfl ?_
  refine g_aload_n 28 gq14 rfl rfl rfl ?_
  refine g_virt 60 _ (i := 41) gq14 rfl rfl gq60 hq1 rfl rfl rfl rfl rfl ?_
  refine g_iconst 1 gq60 rfl rfl ?_
  refine g_aload_n 2 gq60 rfl rfl rfl ?_
  refine g_getI 5 gq60 rfl rfl rfl hq1 rfl rfl ?_
  have c6 := h.1
  replace h := h.2
  refine g_ishl 6 gq60 rfl rfl c6 ?_
  refine g_iconst 7 gq60 rfl rfl ?_
  refine g_isub 8 gq60 rfl rfl ?_
  refine g_iret gq60 rfl rfl ?_
  have c12 := h.1
  replace h := h.2
  have c14 := h.1
  replace h := h.2
  refine g_icmp_gt 74 34 gq14 rfl rfl rfl c12 c14 (fun c => ?_) (fun c => ?_)
  · replace h := h.1 c
    exact g_vret gq14 rfl rfl h
  · replace h := h.2 c
    refine g_aload_n 35 gq14 rfl rfl rfl ?_
    refine g_aload_n 36 gq14 rfl rfl rfl ?_
    refine g_iload_n 37 gq14 rfl rfl rfl ?_
    refine g_virt 35 _ (i := 44) gq14 rfl rfl gq35 hq2 rfl rfl rfl rfl rfl ?_
    refine kGo.mono h (fun r W1 hr => ?_)
    obtain ⟨y1, rfl, h⟩ := hr
    refine g_istore 42 gq14 rfl rfl rfl ?_
    refine g_iload 44 gq14 rfl rfl rfl ?_
    refine g_bipush 46 gq14 rfl rfl rfl ?_
    have c29 := h.1
    replace h := h.2
    refine g_icmp_gt 68 49 gq14 rfl rfl rfl c29 (by omega) (fun c => ?_) (fun c => ?_)
    · replace h := h.1 c
      refine g_iinc 71 gq14 rfl rfl rfl rfl ?_
      refine g_goto 26 gq14 rfl rfl ?_
      exact kGo.weak (km_Le.s (km_Le.s (km_Le.s (km_Le.s (km_Le.n km_Le.nil))))) h
    · replace h := h.2 c
      refine g_aload_n 50 gq14 rfl rfl rfl ?_
      refine g_getA 53 (q0 + 2) gq14 rfl rfl rfl hq0 rfl rfl (rfB1 hq0) ?_
      refine g_iload_n 54 gq14 rfl rfl rfl ?_
      have c40 := h.1
      replace h := h.2
      refine g_static 218 _ (i := 50) gq14 rfl rfl gq218 rfl rfl rfl rfl ?_
      refine sp_bit c40 ?_
      refine g_bipush 59 gq14 rfl rfl rfl ?_
      refine g_imul 60 gq14 rfl rfl ?_
      refine g_iload 62 gq14 rfl rfl rfl ?_
      refine g_iadd 63 gq14 rfl rfl ?_
      refine g_dup2 64 gq14 rfl rfl rfl rfl ?_
      have c49 := h.1
      replace h := h.2
      refine g_iald 65 gq14 rfl rfl (shB1 hq0) c49 ?_
      refine g_iconst 66 gq14 rfl rfl ?_
      refine g_iadd 67 gq14 rfl rfl ?_
      refine g_iast 68 gq14 rfl rfl (shB1 hq0) c49 ?_
      refine g_iinc 71 gq14 rfl rfl rfl rfl ?_
      refine g_goto 26 gq14 rfl rfl ?_
      exact kGo.weak (km_Le.s (km_Le.s (km_Le.s (km_Le.s (km_Le.n km_Le.nil))))) h
set_option maxRecDepth 10000 in
theorem b15_0 {xs : Nat → Int32} {Lx d : Nat} {V : km_V} {Q : Option Value → km_V → Prop} {a1 a2 a3 : Int} {t : Nat} (ht : km_sh[t]? = some (1, 3))
    (h : (kR a3) ∧ (kR (Int.tmod a3 2)) ∧ (((Int.tmod a3 2) ≠ 0 →
    kGo xs Lx (d + 0) 15 17 [some (.ref t), none, some (kI a2), some (kI a3), some (kI (-a1)), some (kI 0), none] [] V Q) ∧
   ((Int.tmod a3 2) = 0 →
    kGo xs Lx (d + 0) 15 17 [some (.ref t), none, some (kI a2), some (kI a3), some (kI a1), some (kI 0), none] [] V Q))) :
    kGo xs Lx (d + 0) 15 0 [some (.ref t), some (kI a1), some (kI a2), some (kI a3), none, none, none] [] V Q := by
  refine g_iload_n 1 gq15 rfl rfl rfl ?_
  refine g_iconst 2 gq15 rfl rfl ?_
  have c2 := h.1
  replace h := h.2
  refine g_iremT 3 gq15 rfl rfl c2 ⟨by omega, by omega⟩ ?_
  have c5 := h.1
  replace h := h.2
  refine g_if_ne 10 6 gq15 rfl rfl rfl c5 (fun c => ?_) (fun c => ?_)
  · replace h := h.1 c
    refine g_iload_n 11 gq15 rfl rfl rfl ?_
    refine g_ineg 12 gq15 rfl rfl ?_
    refine g_istore 14 gq15 rfl rfl rfl ?_
    refine g_iconst 15 gq15 rfl rfl ?_
    refine g_istore 17 gq15 rfl rfl rfl ?_
    exact kGo.weak (km_Le.s (km_Le.n (km_Le.s (km_Le.s (km_Le.s (km_Le.s (km_Le.n km_Le.nil))))))) h
  · replace h := h.2 c
    refine g_iload_n 7 gq15 rfl rfl rfl ?_
    refine g_goto 12 gq15 rfl rfl ?_
    refine g_istore 14 gq15 rfl rfl rfl ?_
    refine g_iconst 15 gq15 rfl rfl ?_
    refine g_istore 17 gq15 rfl rfl rfl ?_
    exact kGo.weak (km_Le.s (km_Le.n (km_Le.s (km_Le.s (km_Le.s (km_Le.s (km_Le.n km_Le.nil))))))) h
set_option maxRecDepth 10000 in
theorem b15_17 {xs : Nat → Int32} {Lx d : Nat} {V : km_V} {Q : Option Value → km_V → Prop} {x2 x3 x4 x5 : Int} {q0 : Nat} (hq0 : km_sh[q0]? = some (1, 3))
    (h : (kR x5) ∧ (kR x3) ∧ ((x3 < x5 →
    Q none V) ∧
   (x5 ≤ x3 →
    (∀ z1 : Int, z1 = (((60 + x2) + (2 * x3)) - (4 * x5)) → (kR z1) ∧ ((z1 < 0 →
      (kR (x4 * (x3 - x5))) ∧ (kR (x5 + 1) ∧ (x5 + 1) ≠ 0) ∧ (∀ z2 : Int, z2 = (Int.tdiv (x4 * (x3 - x5)) (x5 + 1)) → kGo xs Lx (d + 0) 15 17 [some (.ref q0), none, some (kI x2), some (kI x3), some (kI z2), some (kI (x5 + 1)), none] [] V Q)) ∧
     (0 ≤ z1 →
      ((((121 : Nat) : Int) ≤ z1 →
        (kR (x4 * (x3 - x5))) ∧ (kR (x5 + 1) ∧ (x5 + 1) ≠ 0) ∧ (∀ z3 : Int, z3 = (Int.tdiv (x4 * (x3 - x5)) (x5 + 1)) → kGo xs Lx (d + 0) 15 17 [some (.ref q0), none, some (kI x2), some (kI x3), some (kI z3), some (kI (x5 + 1)), none] [] V Q)) ∧
       (z1 < ((121 : Nat) : Int) →
        (0 ≤ z1 ∧ z1 < (121 : Nat)) ∧ (kR (x4 * (x3 - x5))) ∧ (kR (x5 + 1) ∧ (x5 + 1) ≠ 0) ∧ (∀ z4 : Int, z4 = (Int.tdiv (x4 * (x3 - x5)) (x5 + 1)) → kGo xs Lx (d + 0) 15 17 [some (.ref q0), none, some (kI x2), some (kI x3), some (kI z4), some (kI (x5 + 1)), none] [] (up V (q0 + 1) (Int.toNat z1) ((V (q0 + 1) (Int.toNat z1)) + x4)) Q))))))))) :
    kGo xs Lx (d + 0) 15 17 [some (.ref q0), none, some (kI x2), some (kI x3), some (kI x4), some (kI x5), none] [] V Q := by
  refine g_iload 19 gq15 rfl rfl rfl ?_
  refine g_iload_n 20 gq15 rfl rfl rfl ?_
  have c2 := h.1
  replace h := h.2
  have c4 := h.1
  replace h := h.2
  refine g_icmp_gt 85 23 gq15 rfl rfl rfl c2 c4 (fun c => ?_) (fun c => ?_)
  · replace h := h.1 c
    exact g_vret gq15 rfl rfl h
  · replace h := h.2 c
    refine g_bipush 25 gq15 rfl rfl rfl ?_
    refine g_iload_n 26 gq15 rfl rfl rfl ?_
    refine g_iadd 27 gq15 rfl rfl ?_
    refine g_iconst 28 gq15 rfl rfl ?_
    refine g_iload_n 29 gq15 rfl rfl rfl ?_
    refine g_imul 30 gq15 rfl rfl ?_
    refine g_iadd 31 gq15 rfl rfl ?_
    refine g_iconst 32 gq15 rfl rfl ?_
    refine g_iload 34 gq15 rfl rfl rfl ?_
    refine g_imul 35 gq15 rfl rfl ?_
    refine g_isub 36 gq15 rfl rfl ?_
    refine g_istore 38 gq15 rfl rfl rfl ?_
    replace h := h _ rfl
    refine g_iload 40 gq15 rfl rfl rfl ?_
    have c24 := h.1
    replace h := h.2
    refine g_if_lt 65 43 gq15 rfl rfl rfl c24 (fun c => ?_) (fun c => ?_)
    · replace h := h.1 c
      refine g_iload 67 gq15 rfl rfl rfl ?_
      refine g_iload_n 68 gq15 rfl rfl rfl ?_
      refine g_iload 70 gq15 rfl rfl rfl ?_
      refine g_isub 71 gq15 rfl rfl ?_
      refine g_imul 72 gq15 rfl rfl ?_
      refine g_iload 74 gq15 rfl rfl rfl ?_
      refine g_iconst 75 gq15 rfl rfl ?_
      refine g_iadd 76 gq15 rfl rfl ?_
      have c36 := h.1
      replace h := h.2
      have c38 := h.1
      replace h := h.2
      refine g_idivT 77 gq15 rfl rfl c36 c38 ?_
      refine g_istore 79 gq15 rfl rfl rfl ?_
      replace h := h _ rfl
      refine g_iinc 82 gq15 rfl rfl rfl rfl ?_
      refine g_goto 17 gq15 rfl rfl ?_
      exact kGo.weak (km_Le.s (km_Le.n (km_Le.s (km_Le.s (km_Le.s (km_Le.s (km_Le.n km_Le.nil))))))) h
    · replace h := h.2 c
      refine g_iload 45 gq15 rfl rfl rfl ?_
      refine g_aload_n 46 gq15 rfl rfl rfl ?_
      refine g_getA 49 (q0 + 1) gq15 rfl rfl rfl hq0 rfl rfl (rfB0 hq0) ?_
      refine g_alen 50 gq15 rfl rfl (shB0 hq0) rfl ?_
      refine g_icmp_ge 65 53 gq15 rfl rfl rfl c24 (by omega) (fun c => ?_) (fun c => ?_)
      · replace h := h.1 c
        refine g_iload 67 gq15 rfl rfl rfl ?_
        refine g_iload_n 68 gq15 rfl rfl rfl ?_
        refine g_iload 70 gq15 rfl rfl rfl ?_
        refine g_isub 71 gq15 rfl rfl ?_
        refine g_imul 72 gq15 rfl rfl ?_
        refine g_iload 74 gq15 rfl rfl rfl ?_
        refine g_iconst 75 gq15 rfl rfl ?_
        refine g_iadd 76 gq15 rfl rfl ?_
        have c61 := h.1
        replace h := h.2
        have c63 := h.1
        replace h := h.2
        refine g_idivT 77 gq15 rfl rfl c61 c63 ?_
        refine g_istore 79 gq15 rfl rfl rfl ?_
        replace h := h _ rfl
        refine g_iinc 82 gq15 rfl rfl rfl rfl ?_
        refine g_goto 17 gq15 rfl rfl ?_
        exact kGo.weak (km_Le.s (km_Le.n (km_Le.s (km_Le.s (km_Le.s (km_Le.s (km_Le.n km_Le.nil))))))) h
      · replace h := h.2 c
        refine g_aload_n 54 gq15 rfl rfl rfl ?_
        refine g_getA 57 (q0 + 1) gq15 rfl rfl rfl hq0 rfl rfl (rfB0 hq0) ?_
        refine g_iload 59 gq15 rfl rfl rfl ?_
        refine g_dup2 60 gq15 rfl rfl rfl rfl ?_
        have c76 := h.1
        replace h := h.2
        refine g_iald 61 gq15 rfl rfl (shB0 hq0) c76 ?_
        refine g_iload 63 gq15 rfl rfl rfl ?_
        refine g_iadd 64 gq15 rfl rfl ?_
        refine g_iast 65 gq15 rfl rfl (shB0 hq0) c76 ?_
        refine g_iload 67 gq15 rfl rfl rfl ?_
        refine g_iload_n 68 gq15 rfl rfl rfl ?_
        refine g_iload 70 gq15 rfl rfl rfl ?_
        refine g_isub 71 gq15 rfl rfl ?_
        refine g_imul 72 gq15 rfl rfl ?_
        refine g_iload 74 gq15 rfl rfl rfl ?_
        refine g_iconst 75 gq15 rfl rfl ?_
        refine g_iadd 76 gq15 rfl rfl ?_
        have c90 := h.1
        replace h := h.2
        have c92 := h.1
        replace h := h.2
        refine g_idivT 77 gq15 rfl rfl c90 c92 ?_
        refine g_istore 79 gq15 rfl rfl rfl ?_
        replace h := h _ rfl
        refine g_iinc 82 gq15 rfl rfl rfl rfl ?_
        refine g_goto 17 gq15 rfl rfl ?_
        exact kGo.weak (km_Le.s (km_Le.n (km_Le.s (km_Le.s (km_Le.s (km_Le.s (km_Le.n km_Le.nil))))))) h
set_option maxRecDepth 10000 in
theorem b16_0 {xs : Nat → Int32} {Lx d : Nat} {V : km_V} {Q : Option Value → km_V → Prop} {a1 : Int} {t : Nat} (ht : km_sh[t]? = some (1, 3))
    (h : (kR a1) ∧ ((a1 < (-60) →
    Q (some (kI 0)) V) ∧
   ((-60) ≤ a1 →
    ((a1 ≤ 60 →
      (0 ≤ (60 + a1) ∧ (60 + a1) < (121 : Nat)) ∧ Q (some (kI (V (t + 1) (Int.toNat (60 + a1))))) V) ∧
     (60 < a1 →
      Q (some (kI 0)) V))))) :
    kGo xs Lx (d + 0) 16 0 [some (.ref t), some (kI a1)] [] V Q := by
  refine g_iload_n 1 gq16 rfl rfl rfl ?_
  refine g_bipush 3 gq16 rfl rfl rfl ?_
  have c2 := h.1
  replace h := h.2
  refine g_icmp_lt 12 6 gq16 rfl rfl rfl c2 (by omega) (fun c => ?_) (fun c => ?_)
  · replace h := h.1 c
    refine g_iconst 13 gq16 rfl rfl ?_
    refine g_goto 25 gq16 rfl rfl ?_
    exact g_iret gq16 rfl rfl h
  · replace h := h.2 c
    refine g_iload_n 7 gq16 rfl rfl rfl ?_
    refine g_bipush 9 gq16 rfl rfl rfl ?_
    refine g_icmp_le 16 12 gq16 rfl rfl rfl c2 (by omega) (fun c => ?_) (fun c => ?_)
    · replace h := h.1 c
      refine g_aload_n 17 gq16 rfl rfl rfl ?_
      refine g_getA 20 (t + 1) gq16 rfl rfl rfl ht rfl rfl (rfB0 ht) ?_
      refine g_bipush 22 gq16 rfl rfl rfl ?_
      refine g_iload_n 23 gq16 rfl rfl rfl ?_
      refine g_iadd 24 gq16 rfl rfl ?_
      have c19 := h.1
      replace h := h.2
      refine g_iald 25 gq16 rfl rfl (shB0 ht) c19 ?_
      exact g_iret gq16 rfl rfl h
    · replace h := h.2 c
      refine g_iconst 13 gq16 rfl rfl ?_
      refine g_goto 25 gq16 rfl rfl ?_
      exact g_iret gq16 rfl rfl h
set_option maxRecDepth 10000 in
theorem b17_0 {xs : Nat → Int32} {Lx d : Nat} {V : km_V} {Q : Option Value → km_V → Prop} {a1 : Int} {t : Nat} (ht : km_sh[t]? = some (1, 3))
    (h : (kR a1) ∧ ((a1 < (-60) →
    Q (some (kI 0)) V) ∧
   ((-60) ≤ a1 →
    ((a1 ≤ 60 →
      kCI xs Lx (d + 0) 16 2 [.ref t, kI (a1 + (3 * (V t 2)))] V (fun y1 W1 =>
      (kR (W1 t 2)) ∧ (kR (Int.tmod (W1 t 2) 2)) ∧ (((Int.tmod (W1 t 2) 2) ≠ 0 →
        Q (some (kI (-y1))) W1) ∧
       ((Int.tmod (W1 t 2) 2) = 0 →
        Q (some (kI y1)) W1)))) ∧
     (60 < a1 →
      Q (some (kI 0)) V))))) :
    kGo xs Lx (d + 1) 17 0 [some (.ref t), some (kI a1), none] [] V Q := by
  refine g_iload_n 1 gq17 rfl rfl rfl ?_
  refine g_bipush 3 gq17 rfl rfl rfl ?_
  have c2 := h.1
  replace h := h.2
  refine g_icmp_lt 12 6 gq17 rfl rfl rfl c2 (by omega) (fun c => ?_) (fun c => ?_)
  · replace h := h.1 c
    refine g_iconst 13 gq17 rfl rfl ?_
    exact g_iret gq17 rfl rfl h
  · replace h := h.2 c
    refine g_iload_n 7 gq17 rfl rfl rfl ?_
    refine g_bipush 9 gq17 rfl rfl rfl ?_
    refine g_icmp_le 14 12 gq17 rfl rfl rfl c2 (by omega) (fun c => ?_) (fun c => ?_)
    · replace h := h.1 c
      refine g_aload_n 15 gq17 rfl rfl rfl ?_
      refine g_iload_n 16 gq17 rfl rfl rfl ?_
      refine g_iconst 17 gq17 rfl rfl ?_
      refine g_aload_n 18 gq17 rfl rfl rfl ?_
      refine g_getI 21 gq17 rfl rfl rfl ht rfl rfl ?_
      refine g_imul 22 gq17 rfl rfl ?_
      refine g_iadd 23 gq17 rfl rfl ?_
      refine g_virt 16 _ (i := 56) gq17 rfl rfl gq16 ht rfl rfl rfl rfl rfl ?_
      refine kGo.mono h (fun r W1 hr => ?_)
      obtain ⟨y1, rfl, h⟩ := hr
      refine g_istore_n 27 gq17 rfl rfl rfl ?_
      refine g_aload_n 28 gq17 rfl rfl rfl ?_
      refine g_getI 31 gq17 rfl rfl rfl ht rfl rfl ?_
      refine g_iconst 32 gq17 rfl rfl ?_
      have c27 := h.1
      replace h := h.2
      refine g_iremT 33 gq17 rfl rfl c27 ⟨by omega, by omega⟩ ?_
      have c30 := h.1
      replace h := h.2
      refine g_if_ne 40 36 gq17 rfl rfl rfl c30 (fun c => ?_) (fun c => ?_)
      · replace h := h.1 c
        refine g_iload_n 41 gq17 rfl rfl rfl ?_
        refine g_ineg 42 gq17 rfl rfl ?_
        exact g_iret gq17 rfl rfl h
      · replace h := h.2 c
        refine g_iload_n 37 gq17 rfl rfl rfl ?_
        refine g_goto 42 gq17 rfl rfl ?_
        exact g_iret gq17 rfl rfl h
    · replace h := h.2 c
      refine g_iconst 13 gq17 rfl rfl ?_
      exact g_iret gq17 rfl rfl h
set_option maxRecDepth 10000 in
theorem b18_0 {xs : Nat → Int32} {Lx d : Nat} {V : km_V} {Q : Option Value → km_V → Prop} {a2 : Int} {t : Nat} (ht : km_sh[t]? = some (1, 3)) {r1 : Nat} (hr1 : km_sh[r1]? = some (1, 3))
    (h : kGo xs Lx (d + 2) 18 3 [some (.ref t), some (.ref r1), some (kI a2), some (kI (-60))] [] V Q) :
    kGo xs Lx (d + 2) 18 0 [some (.ref t), some (.ref r1), some (kI a2), none] [] V Q := by
  refine g_bipush 2 gq18 rfl rfl rfl ?_
  refine g_istore_n 3 gq18 rfl rfl rfl ?_
  exact kGo.weak (km_Le.s (km_Le.s (km_Le.s (km_Le.s km_Le.nil)))) h
set_option maxRecDepth 10000 in
theorem b18_3 {xs : Nat → Int32} {Lx d : Nat} {V : km_V} {Q : Option Value → km_V → Prop} {x2 x3 : Int} {q0 : Nat} (hq0 : km_sh[q0]? = some (1, 3)) {q1 : Nat} (hq1 : km_sh[q1]? = some (1, 3))
    (h : (kR x3) ∧ ((60 < x3 →
    Q (some (kI 1)) V) ∧
   (x3 ≤ 60 →
    kCI xs Lx (d + 1) 17 3 [.ref q0, kI x3] V (fun y1 W1 =>
    (kR x2) ∧ ((x2 = 0 →
      kCI xs Lx (d + 1) 17 3 [.ref q1, kI x3] W1 (fun y2 W2 =>
      (kR y1) ∧ (kR y2) ∧ ((y1 = y2 →
        kGo xs Lx (d + 2) 18 3 [some (.ref q0), some (.ref q1), some (kI x2), some (kI (x3 + 1))] [] W2 Q) ∧
       (y1 ≠ y2 →
        Q (some (kI 0)) W2)))) ∧
     (x2 ≠ 0 →
      kCI xs Lx (d + 1) 17 3 [.ref q1, kI (-x3)] W1 (fun y3 W3 =>
      (kR y1) ∧ (kR y3) ∧ ((y1 = y3 →
        kGo xs Lx (d + 2) 18 3 [some (.ref q0), some (.ref q1), some (kI x2), some (kI (x3 + 1))] [] W3 Q) ∧
       (y1 ≠ y3 →
        Q (some (kI 0)) W3))))))))) :
    kGo xs Lx (d + 2) 18 3 [some (.ref q0), some (.ref q1), some (kI x2), some (kI x3)] [] V Q := by
  refine g_iload_n 4 gq18 rfl rfl rfl ?_
  refine g_bipush 6 gq18 rfl rfl rfl ?_
  have c2 := h.1
  replace h := h.2
  refine g_icmp_gt 39 9 gq18 rfl rfl rfl c2 (by omega) (fun c => ?_) (fun c => ?_)
  · replace h := h.1 c
    refine g_iconst 40 gq18 rfl rfl ?_
    exact g_zret gq18 rfl rfl (by omega) h
  · replace h := h.2 c
    refine g_aload_n 10 gq18 rfl rfl rfl ?_
    refine g_iload_n 11 gq18 rfl rfl rfl ?_
    refine g_virt 17 _ (i := 59) gq18 rfl rfl gq17 hq0 rfl rfl rfl rfl rfl ?_
    refine kGo.mono h (fun r W1 hr => ?_)
    obtain ⟨y1, rfl, h⟩ := hr
    refine g_aload_n 15 gq18 rfl rfl rfl ?_
    refine g_iload_n 16 gq18 rfl rfl rfl ?_
    have c16 := h.1
    replace h := h.2
    refine g_if_eq 24 19 gq18 rfl rfl rfl c16 (fun c => ?_) (fun c => ?_)
    · replace h := h.1 c
      refine g_iload_n 25 gq18 rfl rfl rfl ?_
      refine g_virt 17 _ (i := 59) gq18 rfl rfl gq17 hq1 rfl rfl rfl rfl rfl ?_
      refine kGo.mono h (fun r W2 hr => ?_)
      obtain ⟨y2, rfl, h⟩ := hr
      have c24 := h.1
      replace h := h.2
      have c26 := h.1
      replace h := h.2
      refine g_icmp_eq 33 31 gq18 rfl rfl rfl c24 c26 (fun c => ?_) (fun c => ?_)
      · replace h := h.1 c
        refine g_iinc 36 gq18 rfl rfl rfl rfl ?_
        refine g_goto 3 gq18 rfl rfl ?_
        exact kGo.weak (km_Le.s (km_Le.s (km_Le.s (km_Le.s km_Le.nil)))) h
      · replace h := h.2 c
        refine g_iconst 32 gq18 rfl rfl ?_
        exact g_zret gq18 rfl rfl (by omega) h
    · replace h := h.2 c
      refine g_iload_n 20 gq18 rfl rfl rfl ?_
      refine g_ineg 21 gq18 rfl rfl ?_
      refine g_goto 25 gq18 rfl rfl ?_
      refine g_virt 17 _ (i := 59) gq18 rfl rfl gq17 hq1 rfl rfl rfl rfl rfl ?_
      refine kGo.mono h (fun r W3 hr => ?_)
      obtain ⟨y3, rfl, h⟩ := hr
      have c43 := h.1
      replace h := h.2
      have c45 := h.1
      replace h := h.2
      refine g_icmp_eq 33 31 gq18 rfl rfl rfl c43 c45 (fun c => ?_) (fun c => ?_)
      · replace h := h.1 c
        refine g_iinc 36 gq18 rfl rfl rfl rfl ?_
        refine g_goto 3 gq18 rfl rfl ?_
        exact kGo.weak (km_Le.s (km_Le.s (km_Le.s (km_Le.s km_Le.nil)))) h
      · replace h := h.2 c
        refine g_iconst 32 gq18 rfl rfl ?_
        exact g_zret gq18 rfl rfl (by omega) h
set_option maxRecDepth 10000 in
theorem b19_0 {xs : Nat → Int32} {Lx d : Nat} {V : km_V} {Q : Option Value → km_V → Prop} {t : Nat} (ht : km_sh[t]? = some (1, 3))
    (h : kGo xs Lx (d + 1) 19 10 [some (.ref t), some (kI 0), some (kI 0), some (kI 0), some (kI (-60))] [] V Q) :
    kGo xs Lx (d + 1) 19 0 [some (.ref t), none, none, none, none] [] V Q := by
  refine g_iconst 1 gq19 rfl rfl ?_
  refine g_istore_n 2 gq19 rfl rfl rfl ?_
  refine g_iconst 3 gq19 rfl rfl ?_
  refine g_istore_n 4 gq19 rfl rfl rfl ?_
  refine g_iconst 5 gq19 rfl rfl ?_
  refine g_istore_n 6 gq19 rfl rfl rfl ?_
  refine g_bipush 8 gq19 rfl rfl rfl ?_
  refine g_istore 10 gq19 rfl rfl rfl ?_
  exact kGo.weak (km_Le.s (km_Le.s (km_Le.s (km_Le.s (km_Le.s km_Le.nil))))) h
set_option maxRecDepth 10000 in
theorem b19_10 {xs : Nat → Int32} {Lx d : Nat} {V : km_V} {Q : Option Value → km_V → Prop} {x1 x2 x3 x4 : Int} {q0 : Nat} (hq0 : km_sh[q0]? = some (1, 3))
    (h : (kR x4) ∧ ((60 < x4 →
    Q (some (kI (x2 - x1))) V) ∧
   (x4 ≤ 60 →
    kCI xs Lx (d + 0) 16 2 [.ref q0, kI x4] V (fun y1 W1 =>
    (kR y1) ∧ ((y1 = 0 →
      kGo xs Lx (d + 1) 19 10 [some (.ref q0), some (kI x1), some (kI x2), some (kI x3), some (kI (x4 + 1))] [] W1 Q) ∧
     (y1 ≠ 0 →
      (kR x3) ∧ ((x3 = 0 →
        kGo xs Lx (d + 1) 19 10 [some (.ref q0), some (kI x4), some (kI x4), some (kI 1), some (kI (x4 + 1))] [] W1 Q) ∧
       (x3 ≠ 0 →
        kGo xs Lx (d + 1) 19 10 [some (.ref q0), some (kI x1), some (kI x4), some (kI 1), some (kI (x4 + 1))] [] W1 Q)))))))) :
    kGo xs Lx (d + 1) 19 10 [some (.ref q0), some (kI x1), some (kI x2), some (kI x3), some (kI x4)] [] V Q := by
  refine g_iload 12 gq19 rfl rfl rfl ?_
  refine g_bipush 14 gq19 rfl rfl rfl ?_
  have c2 := h.1
  replace h := h.2
  refine g_icmp_gt 48 17 gq19 rfl rfl rfl c2 (by omega) (fun c => ?_) (fun c => ?_)
  · replace h := h.1 c
    refine g_iload_n 49 gq19 rfl rfl rfl ?_
    refine g_iload_n 50 gq19 rfl rfl rfl ?_
    refine g_isub 51 gq19 rfl rfl ?_
    exact g_iret gq19 rfl rfl h
  · replace h := h.2 c
    refine g_aload_n 18 gq19 rfl rfl rfl ?_
    refine g_iload 20 gq19 rfl rfl rfl ?_
    refine g_virt 16 _ (i := 56) gq19 rfl rfl gq16 hq0 rfl rfl rfl rfl rfl ?_
    refine kGo.mono h (fun r W1 hr => ?_)
    obtain ⟨y1, rfl, h⟩ := hr
    have c16 := h.1
    replace h := h.2
    refine g_if_eq 42 26 gq19 rfl rfl rfl c16 (fun c => ?_) (fun c => ?_)
    · replace h := h.1 c
      refine g_iinc 45 gq19 rfl rfl rfl rfl ?_
      refine g_goto 10 gq19 rfl rfl ?_
      exact kGo.weak (km_Le.s (km_Le.s (km_Le.s (km_Le.s (km_Le.s km_Le.nil))))) h
    · replace h := h.2 c
      refine g_iload_n 27 gq19 rfl rfl rfl ?_
      have c25 := h.1
      replace h := h.2
      refine g_if_eq 34 30 gq19 rfl rfl rfl c25 (fun c => ?_) (fun c => ?_)
      · replace h := h.1 c
        refine g_iload 36 gq19 rfl rfl rfl ?_
        refine g_istore_n 37 gq19 rfl rfl rfl ?_
        refine g_iload 39 gq19 rfl rfl rfl ?_
        refine g_istore_n 40 gq19 rfl rfl rfl ?_
        refine g_iconst 41 gq19 rfl rfl ?_
        refine g_istore_n 42 gq19 rfl rfl rfl ?_
        refine g_iinc 45 gq19 rfl rfl rfl rfl ?_
        refine g_goto 10 gq19 rfl rfl ?_
        exact kGo.weak (km_Le.s (km_Le.s (km_Le.s (km_Le.s (km_Le.s km_Le.nil))))) h
      · replace h := h.2 c
        refine g_iload_n 31 gq19 rfl rfl rfl ?_
        refine g_goto 36 gq19 rfl rfl ?_
        refine g_istore_n 37 gq19 rfl rfl rfl ?_
        refine g_iload 39 gq19 rfl rfl rfl ?_
        refine g_istore_n 40 gq19 rfl rfl rfl ?_
        refine g_iconst 41 gq19 rfl rfl ?_
        refine g_istore_n 42 gq19 rfl rfl rfl ?_
        refine g_iinc 45 gq19 rfl rfl rfl rfl ?_
        refine g_goto 10 gq19 rfl rfl ?_
        exact kGo.weak (km_Le.s (km_Le.s (km_Le.s (km_Le.s (km_Le.s km_Le.nil))))) h

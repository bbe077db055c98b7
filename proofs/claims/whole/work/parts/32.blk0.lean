set_option maxRecDepth 10000 in
theorem b1_0 {xs : Nat → Int32} {Lx d : Nat} {V : km_V} {Q : Option Value → km_V → Prop} {r1 : Nat} (hr1 : km_sh[r1]? = some (5, 5))
    (h : kGo xs Lx (d + 2) 1 12 [some (.ref 28), some (.ref r1), some (kI 0), some (kI 0), none, none] [] (up V 28 0 (V r1 1)) Q) :
    kGo xs Lx (d + 2) 1 0 [some (.ref 28), some (.ref r1), none, none, none, none] [] V Q := by
  refine g_iconst 1 gq1 rfl rfl ?_
  refine g_istore_n 2 gq1 rfl rfl rfl ?_
  refine g_aload_n 3 gq1 rfl rfl rfl ?_
  refine g_aload_n 4 gq1 rfl rfl rfl ?_
  refine g_getI 7 gq1 rfl rfl rfl hr1 rfl rfl ?_
  refine g_putI 10 gq1 rfl rfl rfl rfl rfl rfl rfl rfl ?_
  refine g_iconst 11 gq1 rfl rfl ?_
  refine g_istore_n 12 gq1 rfl rfl rfl ?_
  exact kGo.weak (km_Le.s (km_Le.s (km_Le.s (km_Le.s (km_Le.n (km_Le.n km_Le.nil)))))) h
set_option maxRecDepth 10000 in
theorem b1_12 {xs : Nat → Int32} {Lx d : Nat} {V : km_V} {Q : Option Value → km_V → Prop} {x2 x3 : Int} {q1 : Nat} (hq1 : km_sh[q1]? = some (5, 5))
    (h : (kR x3) ∧ (kR (V q1 0)) ∧ (((V q1 0) ≤ x3 →
    Q none V) ∧
   (x3 < (V q1 0) →
    (0 ≤ x3 ∧ x3 < (5 : Nat)) ∧ (∀ z1 : Int, z1 = (V (q1 + 1) (Int.toNat x3)) → kGo xs Lx (d + 2) 1 31 [some (.ref 28), some (.ref q1), some (kI x2), some (kI x3), some (kI 0), some (kI z1)] [] V Q)))) :
    kGo xs Lx (d + 2) 1 12 [some (.ref 28), some (.ref q1), some (kI x2), some (kI x3), none, none] [] V Q := by
  refine g_iload_n 13 gq1 rfl rfl rfl ?_
  refine g_aload_n 14 gq1 rfl rfl rfl ?_
  refine g_getI 17 gq1 rfl rfl rfl hq1 rfl rfl ?_
  have c3 := h.1
  replace h := h.2
  have c5 := h.1
  replace h := h.2
  refine g_icmp_ge 123 20 gq1 rfl rfl rfl c3 c5 (fun c => ?_) (fun c => ?_)
  · replace h := h.1 c
    exact g_vret gq1 rfl rfl h
  · replace h := h.2 c
    refine g_iconst 21 gq1 rfl rfl ?_
    refine g_istore 23 gq1 rfl rfl rfl ?_
    refine g_aload_n 24 gq1 rfl rfl rfl ?_
    refine g_getA 27 (q1 + 1) gq1 rfl rfl rfl hq1 rfl rfl (rfR2 hq1) ?_
    refine g_iload_n 28 gq1 rfl rfl rfl ?_
    have c16 := h.1
    replace h := h.2
    refine g_iald 29 gq1 rfl rfl (shR2 hq1) c16 ?_
    refine g_istore 31 gq1 rfl rfl rfl ?_
    replace h := h _ rfl
    exact kGo.weak (km_Le.s (km_Le.s (km_Le.s (km_Le.s (km_Le.s (km_Le.s km_Le.nil)))))) h
set_option maxRecDepth 10000 in
theorem b1_31 {xs : Nat → Int32} {Lx d : Nat} {V : km_V} {Q : Option Value → km_V → Prop} {x2 x3 x4 x5 : Int} {q1 : Nat} (hq1 : km_sh[q1]? = some (5, 5))
    (h : (0 ≤ (x3 + 1) ∧ (x3 + 1) < (5 : Nat)) ∧ (kR x5) ∧ (kR (V (q1 + 1) (Int.toNat (x3 + 1)))) ∧ (((V (q1 + 1) (Int.toNat (x3 + 1))) ≤ x5 →
    (kR x4) ∧ ((x4 ≠ 0 →
      kCV xs Lx (d + 1) 2 5 [.ref 28, .ref q1, kI x3, kI ((x2 + x4) - 1)] V (fun W1 =>
      kCI xs Lx (d + 1) 3 6 [.ref 28, .ref q1, kI x3, kI x2] W1 (fun y2 W2 =>
      kGo xs Lx (d + 2) 1 12 [some (.ref 28), some (.ref q1), some (kI y2), some (kI (x3 + 1)), none, none] [] W2 Q))) ∧
     (x4 = 0 →
      kCV xs Lx (d + 1) 2 5 [.ref 28, .ref q1, kI x3, kI (V 28 0)] V (fun W3 =>
      kGo xs Lx (d + 2) 1 12 [some (.ref 28), some (.ref q1), some (kI x2), some (kI (x3 + 1)), none, none] [] (up W3 28 0 ((W3 28 0) + 1)) Q)))) ∧
   (x5 < (V (q1 + 1) (Int.toNat (x3 + 1))) →
    (0 ≤ x5 ∧ x5 < (16 : Nat)) ∧ (kR ((V (q1 + 2) (Int.toNat x5)) % 2)) ∧ ((((V (q1 + 2) (Int.toNat x5)) % 2) ≠ 1 →
      kGo xs Lx (d + 2) 1 31 [some (.ref 28), some (.ref q1), some (kI x2), some (kI x3), some (kI (x4 + 1)), some (kI (x5 + 1))] [] V Q) ∧
     (((V (q1 + 2) (Int.toNat x5)) % 2) = 1 →
      kGo xs Lx (d + 2) 1 31 [some (.ref 28), some (.ref q1), some (kI x2), some (kI x3), some (kI (x4 + 0)), some (kI (x5 + 1))] [] V Q))))) :
    kGo xs Lx (d + 2) 1 31 [some (.ref 28), some (.ref q1), some (kI x2), some (kI x3), some (kI x4), some (kI x5)] [] V Q := by
  refine g_iload 33 gq1 rfl rfl rfl ?_
  refine g_aload_n 34 gq1 rfl rfl rfl ?_
  refine g_getA 37 (q1 + 1) gq1 rfl rfl rfl hq1 rfl rfl (rfR2 hq1) ?_
  refine g_iload_n 38 gq1 rfl rfl rfl ?_
  refine g_iconst 39 gq1 rfl rfl ?_
  refine g_iadd 40 gq1 rfl rfl ?_
  have c6 := h.1
  replace h := h.2
  refine g_iald 41 gq1 rfl rfl (shR2 hq1) c6 ?_
  have c9 := h.1
  replace h := h.2
  have c11 := h.1
  replace h := h.2
  refine g_icmp_ge 69 44 gq1 rfl rfl rfl c9 c11 (fun c => ?_) (fun c => ?_)
  · replace h := h.1 c
    refine g_iload 71 gq1 rfl rfl rfl ?_
    have c16 := h.1
    replace h := h.2
    refine g_if_ne 97 74 gq1 rfl rfl rfl c16 (fun c => ?_) (fun c => ?_)
    · replace h := h.1 c
      refine g_aload_n 98 gq1 rfl rfl rfl ?_
      refine g_aload_n 99 gq1 rfl rfl rfl ?_
      refine g_iload_n 100 gq1 rfl rfl rfl ?_
      refine g_iload_n 101 gq1 rfl rfl rfl ?_
      refine g_iload 103 gq1 rfl rfl rfl ?_
      refine g_iadd 104 gq1 rfl rfl ?_
      refine g_iconst 105 gq1 rfl rfl ?_
      refine g_isub 106 gq1 rfl rfl ?_
      refine g_virt 2 _ (i := 39) gq1 rfl rfl gq2 rfl rfl rfl rfl rfl rfl ?_
      refine kGo.mono h (fun r W1 hr => ?_)
      obtain ⟨rfl, h⟩ := hr
      refine g_aload_n 110 gq1 rfl rfl rfl ?_
      refine g_aload_n 111 gq1 rfl rfl rfl ?_
      refine g_iload_n 112 gq1 rfl rfl rfl ?_
      refine g_iload_n 113 gq1 rfl rfl rfl ?_
      refine g_virt 3 _ (i := 43) gq1 rfl rfl gq3 rfl rfl rfl rfl rfl rfl ?_
      refine kGo.mono h (fun r W2 hr => ?_)
      obtain ⟨y2, rfl, h⟩ := hr
      refine g_istore_n 117 gq1 rfl rfl rfl ?_
      refine g_iinc 120 gq1 rfl rfl rfl rfl ?_
      refine g_goto 12 gq1 rfl rfl ?_
      exact kGo.weak (km_Le.s (km_Le.s (km_Le.s (km_Le.s (km_Le.n (km_Le.n km_Le.nil)))))) h
    · replace h := h.2 c
      refine g_aload_n 75 gq1 rfl rfl rfl ?_
      refine g_aload_n 76 gq1 rfl rfl rfl ?_
      refine g_iload_n 77 gq1 rfl rfl rfl ?_
      refine g_aload_n 78 gq1 rfl rfl rfl ?_
      refine g_getI 81 gq1 rfl rfl rfl rfl rfl rfl ?_
      refine g_virt 2 _ (i := 39) gq1 rfl rfl gq2 rfl rfl rfl rfl rfl rfl ?_
      refine kGo.mono h (fun r W3 hr => ?_)
      obtain ⟨rfl, h⟩ := hr
      refine g_aload_n 85 gq1 rfl rfl rfl ?_
      refine g_dup 86 gq1 rfl rfl rfl ?_
      refine g_getI 89 gq1 rfl rfl rfl rfl rfl rfl ?_
      refine g_iconst 90 gq1 rfl rfl ?_
      refine g_iadd 91 gq1 rfl rfl ?_
      refine g_putI 94 gq1 rfl rfl rfl rfl rfl rfl rfl rfl ?_
      refine g_goto 117 gq1 rfl rfl ?_
      refine g_iinc 120 gq1 rfl rfl rfl rfl ?_
      refine g_goto 12 gq1 rfl rfl ?_
      exact kGo.weak (km_Le.s (km_Le.s (km_Le.s (km_Le.s (km_Le.n (km_Le.n km_Le.nil)))))) h
  · replace h := h.2 c
    refine g_iload 46 gq1 rfl rfl rfl ?_
    refine g_aload_n 47 gq1 rfl rfl rfl ?_
    refine g_iload 49 gq1 rfl rfl rfl ?_
    refine g_virt 62 _ (i := 35) gq1 rfl rfl gq62 hq1 rfl rfl rfl rfl rfl ?_
    refine g_aload_n 1 gq62 rfl rfl rfl ?_
    refine g_getA 4 (q1 + 2) gq62 rfl rfl rfl hq1 rfl rfl (rfR3 hq1) ?_
    refine g_iload_n 5 gq62 rfl rfl rfl ?_
    have c69 := h.1
    replace h := h.2
    refine g_iald 6 gq62 rfl rfl (shR3 hq1) c69 ?_
    refine g_iconst 7 gq62 rfl rfl ?_
    refine g_iandM 8 1 gq62 rfl rfl (by decide) rfl ?_
    refine g_iconst 9 gq62 rfl rfl ?_
    have c75 := h.1
    replace h := h.2
    refine g_icmp_ne 16 12 gq62 rfl rfl rfl c75 (by omega) (fun c => ?_) (fun c => ?_)
    · replace h := h.1 c
      refine g_iconst 17 gq62 rfl rfl ?_
      refine g_zret gq62 rfl rfl (by omega) ?_
      refine g_if_eq 59 55 gq1 rfl rfl rfl (by omega) (fun c => ?_) (fun c => ?_)
      rotate_left
      · exact absurd c (by decide)
      refine g_iconst 60 gq1 rfl rfl ?_
      refine g_iadd 61 gq1 rfl rfl ?_
      refine g_istore 63 gq1 rfl rfl rfl ?_
      refine g_iinc 66 gq1 rfl rfl rfl rfl ?_
      refine g_goto 31 gq1 rfl rfl ?_
      exact kGo.weak (km_Le.s (km_Le.s (km_Le.s (km_Le.s (km_Le.s (km_Le.s km_Le.nil)))))) h
    · replace h := h.2 c
      refine g_iconst 13 gq62 rfl rfl ?_
      refine g_goto 17 gq62 rfl rfl ?_
      refine g_zret gq62 rfl rfl (by omega) ?_
      refine g_if_eq 59 55 gq1 rfl rfl rfl (by omega) (fun c => ?_) (fun c => ?_)
      · exact absurd c (by decide)
      refine g_iconst 56 gq1 rfl rfl ?_
      refine g_goto 60 gq1 rfl rfl ?_
      refine g_iadd 61 gq1 rfl rfl ?_
      refine g_istore 63 gq1 rfl rfl rfl ?_
      refine g_iinc 66 gq1 rfl rfl rfl rfl ?_
      refine g_goto 31 gq1 rfl rfl ?_
      exact kGo.weak (km_Le.s (km_Le.s (km_Le.s (km_Le.s (km_Le.s (km_Le.s km_Le.nil)))))) h
set_option maxRecDepth 10000 in
theorem b2_0 {xs : Nat → Int32} {Lx d : Nat} {V : km_V} {Q : Option Value → km_V → Prop} {a2 a3 : Int} {r1 : Nat} (hr1 : km_sh[r1]? = some (5, 5))
    (h : (0 ≤ a2 ∧ a2 < (5 : Nat)) ∧ (∀ z1 : Int, z1 = (V (r1 + 1) (Int.toNat a2)) → kGo xs Lx (d + 0) 2 8 [some (.ref 28), some (.ref r1), some (kI a2), some (kI a3), some (kI z1)] [] V Q)) :
    kGo xs Lx (d + 0) 2 0 [some (.ref 28), some (.ref r1), some (kI a2), some (kI a3), none] [] V Q := by
  refine g_aload_n 1 gq2 rfl rfl rfl ?_
  refine g_getA 4 (r1 + 1) gq2 rfl rfl rfl hr1 rfl rfl (rfR2 hr1) ?_
  refine g_iload_n 5 gq2 rfl rfl rfl ?_
  have c3 := h.1
  replace h := h.2
  refine g_iald 6 gq2 rfl rfl (shR2 hr1) c3 ?_
  refine g_istore 8 gq2 rfl rfl rfl ?_
  replace h := h _ rfl
  exact kGo.weak (km_Le.s (km_Le.s (km_Le.s (km_Le.s (km_Le.s km_Le.nil))))) h
set_option maxRecDepth 10000 in
theorem b2_8 {xs : Nat → Int32} {Lx d : Nat} {V : km_V} {Q : Option Value → km_V → Prop} {x2 x3 x4 : Int} {q1 : Nat} (hq1 : km_sh[q1]? = some (5, 5))
    (h : (0 ≤ (x2 + 1) ∧ (x2 + 1) < (5 : Nat)) ∧ (kR x4) ∧ (kR (V (q1 + 1) (Int.toNat (x2 + 1)))) ∧ (((V (q1 + 1) (Int.toNat (x2 + 1))) ≤ x4 →
    Q none V) ∧
   (x4 < (V (q1 + 1) (Int.toNat (x2 + 1))) →
    (0 ≤ x4 ∧ x4 < (16 : Nat)) ∧ kGo xs Lx (d + 0) 2 8 [some (.ref 28), some (.ref q1), some (kI x2), some (kI x3), some (kI (x4 + 1))] [] (up V 29 (Int.toNat x4) x3) Q))) :
    kGo xs Lx (d + 0) 2 8 [some (.ref 28), some (.ref q1), some (kI x2), some (kI x3), some (kI x4)] [] V Q := by
  refine g_iload 10 gq2 rfl rfl rfl ?_
  refine g_aload_n 11 gq2 rfl rfl rfl ?_
  refine g_getA 14 (q1 + 1) gq2 rfl rfl rfl hq1 rfl rfl (rfR2 hq1) ?_
  refine g_iload_n 15 gq2 rfl rfl rfl ?_
  refine g_iconst 16 gq2 rfl rfl ?_
  refine g_iadd 17 gq2 rfl rfl ?_
  have c6 := h.1
  replace h := h.2
  refine g_iald 18 gq2 rfl rfl (shR2 hq1) c6 ?_
  have c9 := h.1
  replace h := h.2
  have c11 := h.1
  replace h := h.2
  refine g_icmp_ge 35 21 gq2 rfl rfl rfl c9 c11 (fun c => ?_) (fun c => ?_)
  · replace h := h.1 c
    exact g_vret gq2 rfl rfl h
  · replace h := h.2 c
    refine g_aload_n 22 gq2 rfl rfl rfl ?_
    refine g_getA 25 29 gq2 rfl rfl rfl rfl rfl rfl rfl ?_
    refine g_iload 27 gq2 rfl rfl rfl ?_
    refine g_iload_n 28 gq2 rfl rfl rfl ?_
    have c21 := h.1
    replace h := h.2
    refine g_iast 29 gq2 rfl rfl rfl c21 ?_
    refine g_iinc 32 gq2 rfl rfl rfl rfl ?_
    refine g_goto 8 gq2 rfl rfl ?_
    exact kGo.weak (km_Le.s (km_Le.s (km_Le.s (km_Le.s (km_Le.s km_Le.nil))))) h
set_option maxRecDepth 10000 in
theorem b3_0 {xs : Nat → Int32} {Lx d : Nat} {V : km_V} {Q : Option Value → km_V → Prop} {a2 a3 : Int} {r1 : Nat} (hr1 : km_sh[r1]? = some (5, 5))
    (h : (0 ≤ a2 ∧ a2 < (5 : Nat)) ∧ (∀ z1 : Int, z1 = (V (r1 + 1) (Int.toNat a2)) → kGo xs Lx (d + 1) 3 11 [some (.ref 28), some (.ref r1), some (kI a2), some (kI a3), some (kI a3), some (kI z1)] [] V Q)) :
    kGo xs Lx (d + 1) 3 0 [some (.ref 28), some (.ref r1), some (kI a2), some (kI a3), none, none] [] V Q := by
  refine g_iload_n 1 gq3 rfl rfl rfl ?_
  refine g_istore 3 gq3 rfl rfl rfl ?_
  refine g_aload_n 4 gq3 rfl rfl rfl ?_
  refine g_getA 7 (r1 + 1) gq3 rfl rfl rfl hr1 rfl rfl (rfR2 hr1) ?_
  refine g_iload_n 8 gq3 rfl rfl rfl ?_
  have c5 := h.1
  replace h := h.2
  refine g_iald 9 gq3 rfl rfl (shR2 hr1) c5 ?_
  refine g_istore 11 gq3 rfl rfl rfl ?_
  replace h := h _ rfl
  exact kGo.weak (km_Le.s (km_Le.s (km_Le.s (km_Le.s (km_Le.s (km_Le.s km_Le.nil)))))) h
set_option maxRecDepth 10000 in
theorem b3_11 {xs : Nat → Int32} {Lx d : Nat} {V : km_V} {Q : Option Value → km_V → Prop} {x2 x3 x4 x5 : Int} {q1 : Nat} (hq1 : km_sh[q1]? = some (5, 5))
    (h : (0 ≤ (x2 + 1) ∧ (x2 + 1) < (5 : Nat)) ∧ (kR x5) ∧ (kR (V (q1 + 1) (Int.toNat (x2 + 1)))) ∧ (((V (q1 + 1) (Int.toNat (x2 + 1))) ≤ x5 →
    Q (some (kI x4)) V) ∧
   (x5 < (V (q1 + 1) (Int.toNat (x2 + 1))) →
    (0 ≤ x5 ∧ x5 < (16 : Nat)) ∧ (kR ((V (q1 + 2) (Int.toNat x5)) % 2)) ∧ ((((V (q1 + 2) (Int.toNat x5)) % 2) ≠ 1 →
      (kR (x4 + 1)) ∧ (kR x3) ∧ (((x4 + 1) ≤ x3 →
        kGo xs Lx (d + 1) 3 11 [some (.ref 28), some (.ref q1), some (kI x2), some (kI x3), some (kI (x4 + 1)), some (kI (x5 + 1))] [] V Q) ∧
       (x3 < (x4 + 1) →
        (0 ≤ x5 ∧ x5 < (16 : Nat)) ∧ kGo xs Lx (d + 1) 3 11 [some (.ref 28), some (.ref q1), some (kI x2), some (kI x3), some (kI (x4 + 1)), some (kI (x5 + 1))] [] (up V 29 (Int.toNat x5) ((x4 + 1) - 1)) Q))) ∧
     (((V (q1 + 2) (Int.toNat x5)) % 2) = 1 →
      (kR (x4 + 0)) ∧ (kR x3) ∧ (((x4 + 0) ≤ x3 →
        kGo xs Lx (d + 1) 3 11 [some (.ref 28), some (.ref q1), some (kI x2), some (kI x3), some (kI (x4 + 0)), some (kI (x5 + 1))] [] V Q) ∧
       (x3 < (x4 + 0) →
        (0 ≤ x5 ∧ x5 < (16 : Nat)) ∧ kGo xs Lx (d + 1) 3 11 [some (.ref 28), some (.ref q1), some (kI x2), some (kI x3), some (kI (x4 + 0)), some (kI (x5 + 1))] [] (up V 29 (Int.toNat x5) ((x4 + 0) - 1)) Q))))))) :
    kGo xs Lx (d + 1) 3 11 [some (.ref 28), some (.ref q1), some (kI x2), some (kI x3), some (kI x4), some (kI x5)] [] V Q := by
  refine g_iload 13 gq3 rfl rfl rfl ?_
  refine g_aload_n 14 gq3 rfl rfl rfl ?_
  refine g_getA 17 (q1 + 1) gq3 rfl rfl rfl hq1 rfl rfl (rfR2 hq1) ?_
  refine g_iload_n 18 gq3 rfl rfl rfl ?_
  refine g_iconst 19 gq3 rfl rfl ?_
  refine g_iadd 20 gq3 rfl rfl ?_
  have c6 := h.1
  replace h := h.2
  refine g_iald 21 gq3 rfl rfl (shR2 hq1) c6 ?_
  have c9 := h.1
  replace h := h.2
  have c11 := h.1
  replace h := h.2
  refine g_icmp_ge 66 24 gq3 rfl rfl rfl c9 c11 (fun c => ?_) (fun c => ?_)
  · replace h := h.1 c
    refine g_iload 68 gq3 rfl rfl rfl ?_
    exact g_iret gq3 rfl rfl h
  · replace h := h.2 c
    refine g_iload 26 gq3 rfl rfl rfl ?_
    refine g_aload_n 27 gq3 rfl rfl rfl ?_
    refine g_iload 29 gq3 rfl rfl rfl ?_
    refine g_virt 62 _ (i := 35) gq3 rfl rfl gq62 hq1 rfl rfl rfl rfl rfl ?_
    refine g_aload_n 1 gq62 rfl rfl rfl ?_
    refine g_getA 4 (q1 + 2) gq62 rfl rfl rfl hq1 rfl rfl (rfR3 hq1) ?_
    refine g_iload_n 5 gq62 rfl rfl rfl ?_
    have c25 := h.1
    replace h := h.2
    refine g_iald 6 gq62 rfl rfl (shR3 hq1) c25 ?_
    refine g_iconst 7 gq62 rfl rfl ?_
    refine g_iandM 8 1 gq62 rfl rfl (by decide) rfl ?_
    refine g_iconst 9 gq62 rfl rfl ?_
    have c31 := h.1
    replace h := h.2
    refine g_icmp_ne 16 12 gq62 rfl rfl rfl c31 (by omega) (fun c => ?_) (fun c => ?_)
    · replace h := h.1 c
      refine g_iconst 17 gq62 rfl rfl ?_
      refine g_zret gq62 rfl rfl (by omega) ?_
      refine g_if_eq 39 35 gq3 rfl rfl rfl (by omega) (fun c => ?_) (fun c => ?_)
      rotate_left
      · exact absurd c (by decide)
      refine g_iconst 40 gq3 rfl rfl ?_
      refine g_iadd 41 gq3 rfl rfl ?_
      refine g_istore 43 gq3 rfl rfl rfl ?_
      refine g_iload 45 gq3 rfl rfl rfl ?_
      refine g_iload_n 46 gq3 rfl rfl rfl ?_
      have c45 := h.1
      replace h := h.2
      have c47 := h.1
      replace h := h.2
      refine g_icmp_le 60 49 gq3 rfl rfl rfl c45 c47 (fun c => ?_) (fun c => ?_)
      · replace h := h.1 c
        refine g_iinc 63 gq3 rfl rfl rfl rfl ?_
        refine g_goto 11 gq3 rfl rfl ?_
        exact kGo.weak (km_Le.s (km_Le.s (km_Le.s (km_Le.s (km_Le.s (km_Le.s km_Le.nil)))))) h
      · replace h := h.2 c
        refine g_aload_n 50 gq3 rfl rfl rfl ?_
        refine g_getA 53 29 gq3 rfl rfl rfl rfl rfl rfl rfl ?_
        refine g_iload 55 gq3 rfl rfl rfl ?_
        refine g_iload 57 gq3 rfl rfl rfl ?_
        refine g_iconst 58 gq3 rfl rfl ?_
        refine g_isub 59 gq3 rfl rfl ?_
        have c61 := h.1
        replace h := h.2
        refine g_iast 60 gq3 rfl rfl rfl c61 ?_
        refine g_iinc 63 gq3 rfl rfl rfl rfl ?_
        refine g_goto 11 gq3 rfl rfl ?_
        exact kGo.weak (km_Le.s (km_Le.s (km_Le.s (km_Le.s (km_Le.s (km_Le.s km_Le.nil)))))) h
    · replace h := h.2 c
      refine g_iconst 13 gq62 rfl rfl ?_
      refine g_goto 17 gq62 rfl rfl ?_
      refine g_zret gq62 rfl rfl (by omega) ?_
      refine g_if_eq 39 35 gq3 rfl rfl rfl (by omega) (fun c => ?_) (fun c => ?_)
      · exact absurd c (by decide)
      refine g_iconst 36 gq3 rfl rfl ?_
      refine g_goto 40 gq3 rfl rfl ?_
      refine g_iadd 41 gq3 rfl rfl ?_
      refine g_istore 43 gq3 rfl rfl rfl ?_
      refine g_iload 45 gq3 rfl rfl rfl ?_
      refine g_iload_n 46 gq3 rfl rfl rfl ?_
      have c79 := h.1
      replace h := h.2
      have c81 := h.1
      replace h := h.2
      refine g_icmp_le 60 49 gq3 rfl rfl rfl c79 c81 (fun c => ?_) (fun c => ?_)
      · replace h := h.1 c
        refine g_iinc 63 gq3 rfl rfl rfl rfl ?_
        refine g_goto 11 gq3 rfl rfl ?_
        exact kGo.weak (km_Le.s (km_Le.s (km_Le.s (km_Le.s (km_Le.s (km_Le.s km_Le.nil)))))) h
      · replace h := h.2 c
        refine g_aload_n 50 gq3 rfl rfl rfl ?_
        refine g_getA 53 29 gq3 rfl rfl rfl rfl rfl rfl rfl ?_
        refine g_iload 55 gq3 rfl rfl rfl ?_
        refine g_iload 57 gq3 rfl rfl rfl ?_
        refine g_iconst 58 gq3 rfl rfl ?_
        refine g_isub 59 gq3 rfl rfl ?_
        have c95 := h.1
        replace h := h.2
        refine g_iast 60 gq3 rfl rfl rfl c95 ?_
        refine g_iinc 63 gq3 rfl rfl rfl rfl ?_
        refine g_goto 11 gq3 rfl rfl ?_
        exact kGo.weak (km_Le.s (km_Le.s (km_Le.s (km_Le.s (km_Le.s (km_Le.s km_Le.nil)))))) h
set_option maxRecDepth 10000 in
theorem b4_0 {xs : Nat → Int32} {Lx d : Nat} {V : km_V} {Q : Option Value → km_V → Prop} {r1 : Nat} (hr1 : km_sh[r1]? = some (5, 5)) {r2 : Nat} (hr2 : km_sh[r2]? = some (2, 11))
    (h : kGo xs Lx (d + 0) 4 2 [some (.ref 28), some (.ref r1), some (.ref r2), some (kI 0), none] [] V Q) :
    kGo xs Lx (d + 0) 4 0 [some (.ref 28), some (.ref r1), some (.ref r2), none, none] [] V Q := by
  refine g_iconst 1 gq4 rfl rfl ?_
  refine g_istore_n 2 gq4 rfl rfl rfl ?_
  exact kGo.weak (km_Le.s (km_Le.s (km_Le.s (km_Le.s (km_Le.n km_Le.nil))))) h
set_option maxRecDepth 10000 in
theorem b4_2 {xs : Nat → Int32} {Lx d : Nat} {V : km_V} {Q : Option Value → km_V → Prop} {x3 : Int} {q1 : Nat} (hq1 : km_sh[q1]? = some (5, 5)) {q2 : Nat} (hq2 : km_sh[q2]? = some (2, 11))
    (h : (kR x3) ∧ (kR (V q1 1)) ∧ (((V q1 1) ≤ x3 →
    Q none V) ∧
   (x3 < (V q1 1) →
    kGo xs Lx (d + 0) 4 13 [some (.ref 28), some (.ref q1), some (.ref q2), some (kI x3), some (kI 0)] [] V Q))) :
    kGo xs Lx (d + 0) 4 2 [some (.ref 28), some (.ref q1), some (.ref q2), some (kI x3), none] [] V Q := by
  refine g_iload_n 3 gq4 rfl rfl rfl ?_
  refine g_aload_n 4 gq4 rfl rfl rfl ?_
  refine g_getI 7 gq4 rfl rfl rfl hq1 rfl rfl ?_
  have c3 := h.1
  replace h := h.2
  have c5 := h.1
  replace h := h.2
  refine g_icmp_ge 115 10 gq4 rfl rfl rfl c3 c5 (fun c => ?_) (fun c => ?_)
  · replace h := h.1 c
    exact g_vret gq4 rfl rfl h
  · replace h := h.2 c
    refine g_iconst 11 gq4 rfl rfl ?_
    refine g_istore 13 gq4 rfl rfl rfl ?_
    exact kGo.weak (km_Le.s (km_Le.s (km_Le.s (km_Le.s (km_Le.s km_Le.nil))))) h
set_option maxRecDepth 10000 in
theorem b4_13 {xs : Nat → Int32} {Lx d : Nat} {V : km_V} {Q : Option Value → km_V → Prop} {x3 x4 : Int} {q1 : Nat} (hq1 : km_sh[q1]? = some (5, 5)) {q2 : Nat} (hq2 : km_sh[q2]? = some (2, 11))
    (h : (kR x4) ∧ ((12 ≤ x4 →
    (0 ≤ x3 ∧ x3 < (8 : Nat)) ∧ (∀ z1 : Int, z1 = (V (q2 + 5) (Int.toNat x3)) → (0 ≤ (V (q2 + 4) (Int.toNat x3)) ∧ (V (q2 + 4) (Int.toNat x3)) < (16 : Nat)) ∧ (0 ≤ (V 29 (Int.toNat (V (q2 + 4) (Int.toNat x3)))) ∧ (V 29 (Int.toNat (V (q2 + 4) (Int.toNat x3)))) < (12 : Nat)) ∧ (0 ≤ z1 ∧ z1 < (16 : Nat)) ∧ (0 ≤ ((up V (31 + 1 * Int.toNat x3) (Int.toNat (V 29 (Int.toNat (V (q2 + 4) (Int.toNat x3))))) ((V (31 + 1 * Int.toNat x3) (Int.toNat (V 29 (Int.toNat (V (q2 + 4) (Int.toNat x3)))))) + 2)) 29 (Int.toNat z1)) ∧ ((up V (31 + 1 * Int.toNat x3) (Int.toNat (V 29 (Int.toNat (V (q2 + 4) (Int.toNat x3))))) ((V (31 + 1 * Int.toNat x3) (Int.toNat (V 29 (Int.toNat (V (q2 + 4) (Int.toNat x3)))))) + 2)) 29 (Int.toNat z1)) < (12 : Nat)) ∧ (0 ≤ ((up (up V (31 + 1 * Int.toNat x3) (Int.toNat (V 29 (Int.toNat (V (q2 + 4) (Int.toNat x3))))) ((V (31 + 1 * Int.toNat x3) (Int.toNat (V 29 (Int.toNat (V (q2 + 4) (Int.toNat x3)))))) + 2)) (31 + 1 * Int.toNat x3) (Int.toNat ((up V (31 + 1 * Int.toNat x3) (Int.toNat (V 29 (Int.toNat (V (q2 + 4) (Int.toNat x3))))) ((V (31 + 1 * Int.toNat x3) (Int.toNat (V 29 (Int.toNat (V (q2 + 4) (Int.toNat x3)))))) + 2)) 29 (Int.toNat z1))) (((up V (31 + 1 * Int.toNat x3) (Int.toNat (V 29 (Int.toNat (V (q2 + 4) (Int.toNat x3))))) ((V (31 + 1 * Int.toNat x3) (Int.toNat (V 29 (Int.toNat (V (q2 + 4) (Int.toNat x3)))))) + 2)) (31 + 1 * Int.toNat x3) (Int.toNat ((up V (31 + 1 * Int.toNat x3) (Int.toNat (V 29 (Int.toNat (V (q2 + 4) (Int.toNat x3))))) ((V (31 + 1 * Int.toNat x3) (Int.toNat (V 29 (Int.toNat (V (q2 + 4) (Int.toNat x3)))))) + 2)) 29 (Int.toNat z1)))) - 1)) (q2 + 2) (Int.toNat z1)) ∧ ((up (up V (31 + 1 * Int.toNat x3) (Int.toNat (V 29 (Int.toNat (V (q2 + 4) (Int.toNat x3))))) ((V (31 + 1 * Int.toNat x3) (Int.toNat (V 29 (Int.toNat (V (q2 + 4) (Int.toNat x3)))))) + 2)) (31 + 1 * Int.toNat x3) (Int.toNat ((up V (31 + 1 * Int.toNat x3) (Int.toNat (V 29 (Int.toNat (V (q2 + 4) (Int.toNat x3))))) ((V (31 + 1 * Int.toNat x3) (Int.toNat (V 29 (Int.toNat (V (q2 + 4) (Int.toNat x3)))))) + 2)) 29 (Int.toNat z1))) (((up V (31 + 1 * Int.toNat x3) (Int.toNat (V 29 (Int.toNat (V (q2 + 4) (Int.toNat x3))))) ((V (31 + 1 * Int.toNat x3) (Int.toNat (V 29 (Int.toNat (V (q2 + 4) (Int.toNat x3)))))) + 2)) (31 + 1 * Int.toNat x3) (Int.toNat ((up V (31 + 1 * Int.toNat x3) (Int.toNat (V 29 (Int.toNat (V (q2 + 4) (Int.toNat x3))))) ((V (31 + 1 * Int.toNat x3) (Int.toNat (V 29 (Int.toNat (V (q2 + 4) (Int.toNat x3)))))) + 2)) 29 (Int.toNat z1)))) - 1)) (q2 + 2) (Int.toNat z1)) < (16 : Nat)) ∧ (0 ≤ ((up (up V (31 + 1 * Int.toNat x3) (Int.toNat (V 29 (Int.toNat (V (q2 + 4) (Int.toNat x3))))) ((V (31 + 1 * Int.toNat x3) (Int.toNat (V 29 (Int.toNat (V (q2 + 4) (Int.toNat x3)))))) + 2)) (31 + 1 * Int.toNat x3) (Int.toNat ((up V (31 + 1 * Int.toNat x3) (Int.toNat (V 29 (Int.toNat (V (q2 + 4) (Int.toNat x3))))) ((V (31 + 1 * Int.toNat x3) (Int.toNat (V 29 (Int.toNat (V (q2 + 4) (Int.toNat x3)))))) + 2)) 29 (Int.toNat z1))) (((up V (31 + 1 * Int.toNat x3) (Int.toNat (V 29 (Int.toNat (V (q2 + 4) (Int.toNat x3))))) ((V (31 + 1 * Int.toNat x3) (Int.toNat (V 29 (Int.toNat (V (q2 + 4) (Int.toNat x3)))))) + 2)) (31 + 1 * Int.toNat x3) (Int.toNat ((up V (31 + 1 * Int.toNat x3) (Int.toNat (V 29 (Int.toNat (V (q2 + 4) (Int.toNat x3))))) ((V (31 + 1 * Int.toNat x3) (Int.toNat (V 29 (Int.toNat (V (q2 + 4) (Int.toNat x3)))))) + 2)) 29 (Int.toNat z1)))) - 1)) 29 (Int.toNat ((up (up V (31 + 1 * Int.toNat x3) (Int.toNat (V 29 (Int.toNat (V (q2 + 4) (Int.toNat x3))))) ((V (31 + 1 * Int.toNat x3) (Int.toNat (V 29 (Int.toNat (V (q2 + 4) (Int.toNat x3)))))) + 2)) (31 + 1 * Int.toNat x3) (Int.toNat ((up V (31 + 1 * Int.toNat x3) (Int.toNat (V 29 (Int.toNat (V (q2 + 4) (Int.toNat x3))))) ((V (31 + 1 * Int.toNat x3) (Int.toNat (V 29 (Int.toNat (V (q2 + 4) (Int.toNat x3)))))) + 2)) 29 (Int.toNat z1))) (((up V (31 + 1 * Int.toNat x3) (Int.toNat (V 29 (Int.toNat (V (q2 + 4) (Int.toNat x3))))) ((V (31 + 1 * Int.toNat x3) (Int.toNat (V 29 (Int.toNat (V (q2 + 4) (Int.toNat x3)))))) + 2)) (31 + 1 * Int.toNat x3) (Int.toNat ((up V (31 + 1 * Int.toNat x3) (Int.toNat (V 29 (Int.toNat (V (q2 + 4) (Int.toNat x3))))) ((V (31 + 1 * Int.toNat x3) (Int.toNat (V 29 (Int.toNat (V (q2 + 4) (Int.toNat x3)))))) + 2)) 29 (Int.toNat z1)))) - 1)) (q2 + 2) (Int.toNat z1)))) ∧ ((up (up V (31 + 1 * Int.toNat x3) (Int.toNat (V 29 (Int.toNat (V (q2 + 4) (Int.toNat x3))))) ((V (31 + 1 * Int.toNat x3) (Int.toNat (V 29 (Int.toNat (V (q2 + 4) (Int.toNat x3)))))) + 2)) (31 + 1 * Int.toNat x3) (Int.toNat ((up V (31 + 1 * Int.toNat x3) (Int.toNat (V 29 (Int.toNat (V (q2 + 4) (Int.toNat x3))))) ((V (31 + 1 * Int.toNat x3) (Int.toNat (V 29 (Int.toNat (V (q2 + 4) (Int.toNat x3)))))) + 2)) 29 (Int.toNat z1))) (((up V (31 + 1 * Int.toNat x3) (Int.toNat (V 29 (Int.toNat (V (q2 + 4) (Int.toNat x3))))) ((V (31 + 1 * Int.toNat x3) (Int.toNat (V 29 (Int.toNat (V (q2 + 4) (Int.toNat x3)))))) + 2)) (31 + 1 * Int.toNat x3) (Int.toNat ((up V (31 + 1 * Int.toNat x3) (Int.toNat (V 29 (Int.toNat (V (q2 + 4) (Int.toNat x3))))) ((V (31 + 1 * Int.toNat x3) (Int.toNat (V 29 (Int.toNat (V (q2 + 4) (Int.toNat x3)))))) + 2)) 29 (Int.toNat z1)))) - 1)) 29 (Int.toNat ((up (up V (31 + 1 * Int.toNat x3) (Int.toNat (V 29 (Int.toNat (V (q2 + 4) (Int.toNat x3))))) ((V (31 + 1 * Int.toNat x3) (Int.toNat (V 29 (Int.toNat (V (q2 + 4) (Int.toNat x3)))))) + 2)) (31 + 1 * Int.toNat x3) (Int.toNat ((up V (31 + 1 * Int.toNat x3) (Int.toNat (V 29 (Int.toNat (V (q2 + 4) (Int.toNat x3))))) ((V (31 + 1 * Int.toNat x3) (Int.toNat (V 29 (Int.toNat (V (q2 + 4) (Int.toNat x3)))))) + 2)) 29 (Int.toNat z1))) (((up V (31 + 1 * Int.toNat x3) (Int.toNat (V 29 (Int.toNat (V (q2 + 4) (Int.toNat x3))))) ((V (31 + 1 * Int.toNat x3) (Int.toNat (V 29 (Int.toNat (V (q2 + 4) (Int.toNat x3)))))) + 2)) (31 + 1 * Int.toNat x3) (Int.toNat ((up V (31 + 1 * Int.toNat x3) (Int.toNat (V 29 (Int.toNat (V (q2 + 4) (Int.toNat x3))))) ((V (31 + 1 * Int.toNat x3) (Int.toNat (V 29 (Int.toNat (V (q2 + 4) (Int.toNat x3)))))) + 2)) 29 (Int.toNat z1)))) - 1)) (q2 + 2) (Int.toNat z1)))) < (12 : Nat)) ∧ kGo xs Lx (d + 0) 4 2 [some (.ref 28), some (.ref q1), some (.ref q2), some (kI (x3 + 1)), none] [] (up (up (up V (31 + 1 * Int.toNat x3) (Int.toNat (V 29 (Int.toNat (V (q2 + 4) (Int.toNat x3))))) ((V (31 + 1 * Int.toNat x3) (Int.toNat (V 29 (Int.toNat (V (q2 + 4) (Int.toNat x3)))))) + 2)) (31 + 1 * Int.toNat x3) (Int.toNat ((up V (31 + 1 * Int.toNat x3) (Int.toNat (V 29 (Int.toNat (V (q2 + 4) (Int.toNat x3))))) ((V (31 + 1 * Int.toNat x3) (Int.toNat (V 29 (Int.toNat (V (q2 + 4) (Int.toNat x3)))))) + 2)) 29 (Int.toNat z1))) (((up V (31 + 1 * Int.toNat x3) (Int.toNat (V 29 (Int.toNat (V (q2 + 4) (Int.toNat x3))))) ((V (31 + 1 * Int.toNat x3) (Int.toNat (V 29 (Int.toNat (V (q2 + 4) (Int.toNat x3)))))) + 2)) (31 + 1 * Int.toNat x3) (Int.toNat ((up V (31 + 1 * Int.toNat x3) (Int.toNat (V 29 (Int.toNat (V (q2 + 4) (Int.toNat x3))))) ((V (31 + 1 * Int.toNat x3) (Int.toNat (V 29 (Int.toNat (V (q2 + 4) (Int.toNat x3)))))) + 2)) 29 (Int.toNat z1)))) - 1)) (31 + 1 * Int.toNat x3) (Int.toNat ((up (up V (31 + 1 * Int.toNat x3) (Int.toNat (V 29 (Int.toNat (V (q2 + 4) (Int.toNat x3))))) ((V (31 + 1 * Int.toNat x3) (Int.toNat (V 29 (Int.toNat (V (q2 + 4) (Int.toNat x3)))))) + 2)) (31 + 1 * Int.toNat x3) (Int.toNat ((up V (31 + 1 * Int.toNat x3) (Int.toNat (V 29 (Int.toNat (V (q2 + 4) (Int.toNat x3))))) ((V (31 + 1 * Int.toNat x3) (Int.toNat (V 29 (Int.toNat (V (q2 + 4) (Int.toNat x3)))))) + 2)) 29 (Int.toNat z1))) (((up V (31 + 1 * Int.toNat x3) (Int.toNat (V 29 (Int.toNat (V (q2 + 4) (Int.toNat x3))))) ((V (31 + 1 * Int.toNat x3) (Int.toNat (V 29 (Int.toNat (V (q2 + 4) (Int.toNat x3)))))) + 2)) (31 + 1 * Int.toNat x3) (Int.toNat ((up V (31 + 1 * Int.toNat x3) (Int.toNat (V 29 (Int.toNat (V (q2 + 4) (Int.toNat x3))))) ((V (31 + 1 * Int.toNat x3) (Int.toNat (V 29 (Int.toNat (V (q2 + 4) (Int.toNat x3)))))) + 2)) 29 (Int.toNat z1)))) - 1)) 29 (Int.toNat ((up (up V (31 + 1 * Int.toNat x3) (Int.toNat (V 29 (Int.toNat (V (q2 + 4) (Int.toNat x3))))) ((V (31 + 1 * Int.toNat x3) (Int.toNat (V 29 (Int.toNat (V (q2 + 4) (Int.toNat x3)))))) + 2)) (31 + 1 * Int.toNat x3) (Int.toNat ((up V (31 + 1 * Int.toNat x3) (Int.toNat (V 29 (Int.toNat (V (q2 + 4) (Int.toNat x3))))) ((V (31 + 1 * Int.toNat x3) (Int.toNat (V 29 (Int.toNat (V (q2 + 4) (Int.toNat x3)))))) + 2)) 29 (Int.toNat z1))) (((up V (31 + 1 * Int.toNat x3) (Int.toNat (V 29 (Int.toNat (V (q2 + 4) (Int.toNat x3))))) ((V (31 + 1 * Int.toNat x3) (Int.toNat (V 29 (Int.toNat (V (q2 + 4) (Int.toNat x3)))))) + 2)) (31 + 1 * Int.toNat x3) (Int.toNat ((up V (31 + 1 * Int.toNat x3) (Int.toNat (V 29 (Int.toNat (V (q2 + 4) (Int.toNat x3))))) ((V (31 + 1 * Int.toNat x3) (Int.toNat (V 29 (Int.toNat (V (q2 + 4) (Int.toNat x3)))))) + 2)) 29 (Int.toNat z1)))) - 1)) (q2 + 2) (Int.toNat z1))))) (((up (up V (31 + 1 * Int.toNat x3) (Int.toNat (V 29 (Int.toNat (V (q2 + 4) (Int.toNat x3))))) ((V (31 + 1 * Int.toNat x3) (Int.toNat (V 29 (Int.toNat (V (q2 + 4) (Int.toNat x3)))))) + 2)) (31 + 1 * Int.toNat x3) (Int.toNat ((up V (31 + 1 * Int.toNat x3) (Int.toNat (V 29 (Int.toNat (V (q2 + 4) (Int.toNat x3))))) ((V (31 + 1 * Int.toNat x3) (Int.toNat (V 29 (Int.toNat (V (q2 + 4) (Int.toNat x3)))))) + 2)) 29 (Int.toNat z1))) (((up V (31 + 1 * Int.toNat x3) (Int.toNat (V 29 (Int.toNat (V (q2 + 4) (Int.toNat x3))))) ((V (31 + 1 * Int.toNat x3) (Int.toNat (V 29 (Int.toNat (V (q2 + 4) (Int.toNat x3)))))) + 2)) (31 + 1 * Int.toNat x3) (Int.toNat ((up V (31 + 1 * Int.toNat x3) (Int.toNat (V 29 (Int.toNat (V (q2 + 4) (Int.toNat x3))))) ((V (31 + 1 * Int.toNat x3) (Int.toNat (V 29 (Int.toNat (V (q2 + 4) (Int.toNat x3)))))) + 2)) 29 (Int.toNat z1)))) - 1)) (31 + 1 * Int.toNat x3) (Int.toNat ((up (up V (31 + 1 * Int.toNat x3) (Int.toNat (V 29 (Int.toNat (V (q2 + 4) (Int.toNat x3))))) ((V (31 + 1 * Int.toNat x3) (Int.toNat (V 29 (Int.toNat (V (q2 + 4) (Int.toNat x3)))))) + 2)) (31 + 1 * Int.toNat x3) (Int.toNat ((up V (31 + 1 * Int.toNat x3) (Int.toNat (V 29 (Int.toNat (V (q2 + 4) (Int.toNat x3))))) ((V (31 + 1 * Int.toNat x3) (Int.toNat (V 29 (Int.toNat (V (q2 + 4) (Int.toNat x3)))))) + 2)) 29 (Int.toNat z1))) (((up V (31 + 1 * Int.toNat x3) (Int.toNat (V 29 (Int.toNat (V (q2 + 4) (Int.toNat x3))))) ((V (31 + 1 * Int.toNat x3) (Int.toNat (V 29 (Int.toNat (V (q2 + 4) (Int.toNat x3)))))) + 2)) (31 + 1 * Int.toNat x3) (Int.toNat ((up V (31 + 1 * Int.toNat x3) (Int.toNat (V 29 (Int.toNat (V (q2 + 4) (Int.toNat x3))))) ((V (31 + 1 * Int.toNat x3) (Int.toNat (V 29 (Int.toNat (V (q2 + 4) (Int.toNat x3)))))) + 2)) 29 (Int.toNat z1)))) - 1)) 29 (Int.toNat ((up (up V (31 + 1 * Int.toNat x3) (Int.toNat (V 29 (Int.toNat (V (q2 + 4) (Int.toNat x3))))) ((V (31 + 1 * Int.toNat x3) (Int.toNat (V 29 (Int.toNat (V (q2 + 4) (Int.toNat x3)))))) + 2)) (31 + 1 * Int.toNat x3) (Int.toNat ((up V (31 + 1 * Int.toNat x3) (Int.toNat (V 29 (Int.toNat (V (q2 + 4) (Int.toNat x3))))) ((V (31 + 1 * Int.toNat x3) (Int.toNat (V 29 (Int.toNat (V (q2 + 4) (Int.toNat x3)))))) + 2)) 29 (Int.toNat z1))) (((up V (31 + 1 * Int.toNat x3) (Int.toNat (V 29 (Int.toNat (V (q2 + 4) (Int.toNat x3))))) ((V (31 + 1 * Int.toNat x3) (Int.toNat (V 29 (Int.toNat (V (q2 + 4) (Int.toNat x3)))))) + 2)) (31 + 1 * Int.toNat x3) (Int.toNat ((up V (31 + 1 * Int.toNat x3) (Int.toNat (V 29 (Int.toNat (V (q2 + 4) (Int.toNat x3))))) ((V (31 + 1 * Int.toNat x3) (Int.toNat (V 29 (Int.toNat (V (q2 + 4) (Int.toNat x3)))))) + 2)) 29 (Int.toNat z1)))) - 1)) (q2 + 2) (Int.toNat z1)))))) - 1)) Q)) ∧
   (x4 < 12 →
    (0 ≤ x3 ∧ x3 < (8 : Nat)) ∧ (0 ≤ x4 ∧ x4 < (12 : Nat)) ∧ kGo xs Lx (d + 0) 4 13 [some (.ref 28), some (.ref q1), some (.ref q2), some (kI x3), some (kI (x4 + 1))] [] (up V (31 + 1 * Int.toNat x3) (Int.toNat x4) 0) Q))) :
    kGo xs Lx (d + 0) 4 13 [some (.ref 28), some (.ref q1), some (.ref q2), some (kI x3), some (kI x4)] [] V Q := by
  refine g_iload 15 gq4 rfl rfl rfl ?_
  refine g_bipush 17 gq4 rfl rfl rfl ?_
  have c2 := h.1
  replace h := h.2
  refine g_icmp_ge 36 20 gq4 rfl rfl rfl c2 (by omega) (fun c => ?_) (fun c => ?_)
  · replace h := h.1 c
    refine g_aload_n 37 gq4 rfl rfl rfl ?_
    refine g_getA 40 (q2 + 5) gq4 rfl rfl rfl hq2 rfl rfl (rfD4 hq2) ?_
    refine g_iload_n 41 gq4 rfl rfl rfl ?_
    have c9 := h.1
    replace h := h.2
    refine g_iald 42 gq4 rfl rfl (shD4 hq2) c9 ?_
    refine g_istore 44 gq4 rfl rfl rfl ?_
    replace h := h _ rfl
    refine g_aload_n 45 gq4 rfl rfl rfl ?_
    refine g_getA 48 30 gq4 rfl rfl rfl rfl rfl rfl rfl ?_
    refine g_iload_n 49 gq4 rfl rfl rfl ?_
    refine g_aald 50 (31 + 1 * Int.toNat _) gq4 rfl rfl (by decide) rfl c9 (by rw [Nat.one_mul]; rfl) ?_
    refine g_aload_n 51 gq4 rfl rfl rfl ?_
    refine g_getA 54 29 gq4 rfl rfl rfl rfl rfl rfl rfl ?_
    refine g_aload_n 55 gq4 rfl rfl rfl ?_
    refine g_getA 58 (q2 + 4) gq4 rfl rfl rfl hq2 rfl rfl (rfD3 hq2) ?_
    refine g_iload_n 59 gq4 rfl rfl rfl ?_
    refine g_iald 60 gq4 rfl rfl (shD3 hq2) c9 ?_
    have c24 := h.1
    replace h := h.2
    refine g_iald 61 gq4 rfl rfl rfl c24 ?_
    refine g_dup2 62 gq4 rfl rfl rfl rfl ?_
    have c28 := h.1
    replace h := h.2
    refine g_lald 63 gq4 rfl rfl (shXA c9) c28 ?_
    refine g_ldc2 66 (2) gq4 rfl rfl rfl rfl ?_
    refine g_ladd 67 gq4 rfl rfl ?_
    refine g_last 68 gq4 rfl rfl (shXA c9) c28 ?_
    refine g_aload_n 69 gq4 rfl rfl rfl ?_
    refine g_getA 72 30 gq4 rfl rfl rfl rfl rfl rfl rfl ?_
    refine g_iload_n 73 gq4 rfl rfl rfl ?_
    refine g_aald 74 (31 + 1 * Int.toNat _) gq4 rfl rfl (by decide) rfl c9 (by rw [Nat.one_mul]; rfl) ?_
    refine g_aload_n 75 gq4 rfl rfl rfl ?_
    refine g_getA 78 29 gq4 rfl rfl rfl rfl rfl rfl rfl ?_
    refine g_iload 80 gq4 rfl rfl rfl ?_
    have c41 := h.1
    replace h := h.2
    refine g_iald 81 gq4 rfl rfl rfl c41 ?_
    refine g_dup2 82 gq4 rfl rfl rfl rfl ?_
    have c45 := h.1
    replace h := h.2
    refine g_lald 83 gq4 rfl rfl (shXA c9) c45 ?_
    refine g_lconst 84 1 gq4 rfl rfl rfl ?_
    refine g_lsub 85 gq4 rfl rfl ?_
    refine g_last 86 gq4 rfl rfl (shXA c9) c45 ?_
    refine g_aload_n 87 gq4 rfl rfl rfl ?_
    refine g_getA 90 30 gq4 rfl rfl rfl rfl rfl rfl rfl ?_
    refine g_iload_n 91 gq4 rfl rfl rfl ?_
    refine g_aald 92 (31 + 1 * Int.toNat _) gq4 rfl rfl (by decide) rfl c9 (by rw [Nat.one_mul]; rfl) ?_
    refine g_aload_n 93 gq4 rfl rfl rfl ?_
    refine g_getA 96 29 gq4 rfl rfl rfl rfl rfl rfl rfl ?_
    refine g_aload_n 97 gq4 rfl rfl rfl ?_
    refine g_getA 100 (q2 + 2) gq4 rfl rfl rfl hq2 rfl rfl (rfD1 hq2) ?_
    refine g_iload 102 gq4 rfl rfl rfl ?_
    refine g_iald 103 gq4 rfl rfl (shD1 hq2) c41 ?_
    have c61 := h.1
    replace h := h.2
    refine g_iald 104 gq4 rfl rfl rfl c61 ?_
    refine g_dup2 105 gq4 rfl rfl rfl rfl ?_
    have c65 := h.1
    replace h := h.2
    refine g_lald 106 gq4 rfl rfl (shXA c9) c65 ?_
    refine g_lconst 107 1 gq4 rfl rfl rfl ?_
    refine g_lsub 108 gq4 rfl rfl ?_
    refine g_last 109 gq4 rfl rfl (shXA c9) c65 ?_
    refine g_iinc 112 gq4 rfl rfl rfl rfl ?_
    refine g_goto 2 gq4 rfl rfl ?_
    exact kGo.weak (km_Le.s (km_Le.s (km_Le.s (km_Le.s (km_Le.n km_Le.nil))))) h
  · replace h := h.2 c
    refine g_aload_n 21 gq4 rfl rfl rfl ?_
    refine g_getA 24 30 gq4 rfl rfl rfl rfl rfl rfl rfl ?_
    refine g_iload_n 25 gq4 rfl rfl rfl ?_
    have c78 := h.1
    replace h := h.2
    refine g_aald 26 (31 + 1 * Int.toNat _) gq4 rfl rfl (by decide) rfl c78 (by rw [Nat.one_mul]; rfl) ?_
    refine g_iload 28 gq4 rfl rfl rfl ?_
    refine g_lconst 29 0 gq4 rfl rfl rfl ?_
    have c83 := h.1
    replace h := h.2
    refine g_last 30 gq4 rfl rfl (shXA c78) c83 ?_
    refine g_iinc 33 gq4 rfl rfl rfl rfl ?_
    refine g_goto 13 gq4 rfl rfl ?_
    exact kGo.weak (km_Le.s (km_Le.s (km_Le.s (km_Le.s (km_Le.s km_Le.nil))))) h
set_option maxRecDepth 10000 in
theorem b5_0 {xs : Nat → Int32} {Lx d : Nat} {V : km_V} {Q : Option Value → km_V → Prop} {r1 : Nat} (hr1 : km_sh[r1]? = some (5, 5)) {r2 : Nat} (hr2 : km_sh[r2]? = some (2, 11))
    (h : (kR (V r1 1)) ∧ (((V r1 1) ≠ 0 →
    (kR (V 28 0)) ∧ (((V 28 0) ≤ (V r1 1) →
      kCV xs Lx (d + 1) 4 5 [.ref 28, .ref r1, .ref r2] V (fun W1 =>
      kCJ xs Lx (d + 1) 6 12 [.ref 28, kI ((W1 r1 1) - 1)] W1 (fun y2 W2 =>
      kCJ xs Lx (d + 1) 220 2 [kJ y2] W2 (fun y3 W3 =>
      Q (some (kI y3)) W3)))) ∧
     ((V r1 1) < (V 28 0) →
      Q (some (kI 0)) V))) ∧
   ((V r1 1) = 0 →
    (kR (V r1 0)) ∧ (((V r1 0) ≠ 1 →
      Q (some (kI 0)) V) ∧
     ((V r1 0) = 1 →
      Q (some (kI 1)) V))))) :
    kGo xs Lx (d + 2) 5 0 [some (.ref 28), some (.ref r1), some (.ref r2)] [] V Q := by
  refine g_aload_n 1 gq5 rfl rfl rfl ?_
  refine g_getI 4 gq5 rfl rfl rfl hr1 rfl rfl ?_
  have c2 := h.1
  replace h := h.2
  refine g_if_ne 21 7 gq5 rfl rfl rfl c2 (fun c => ?_) (fun c => ?_)
  · replace h := h.1 c
    refine g_aload_n 22 gq5 rfl rfl rfl ?_
    refine g_getI 25 gq5 rfl rfl rfl rfl rfl rfl ?_
    refine g_aload_n 26 gq5 rfl rfl rfl ?_
    refine g_getI 29 gq5 rfl rfl rfl hr1 rfl rfl ?_
    have c10 := h.1
    replace h := h.2
    refine g_icmp_le 34 32 gq5 rfl rfl rfl c10 c2 (fun c => ?_) (fun c => ?_)
    · replace h := h.1 c
      refine g_aload_n 35 gq5 rfl rfl rfl ?_
      refine g_aload_n 36 gq5 rfl rfl rfl ?_
      refine g_aload_n 37 gq5 rfl rfl rfl ?_
      refine g_virt 4 _ (i := 60) gq5 rfl rfl gq4 rfl rfl rfl rfl rfl rfl ?_
      refine kGo.mono h (fun r W1 hr => ?_)
      obtain ⟨rfl, h⟩ := hr
      refine g_aload_n 41 gq5 rfl rfl rfl ?_
      refine g_aload_n 42 gq5 rfl rfl rfl ?_
      refine g_getI 45 gq5 rfl rfl rfl hr1 rfl rfl ?_
      refine g_iconst 46 gq5 rfl rfl ?_
      refine g_isub 47 gq5 rfl rfl ?_
      refine g_virt 6 _ (i := 64) gq5 rfl rfl gq6 rfl rfl rfl rfl rfl rfl ?_
      refine kGo.mono h (fun r W2 hr => ?_)
      obtain ⟨y2, rfl, h⟩ := hr
      refine g_static 220 _ (i := 68) gq5 rfl rfl gq220 rfl rfl rfl rfl ?_
      refine kGo.mono h (fun r W3 hr => ?_)
      obtain ⟨y3, rfl, h⟩ := hr
      refine g_l2i 54 gq5 rfl rfl ?_
      exact g_iret gq5 rfl rfl h
    · replace h := h.2 c
      refine g_iconst 33 gq5 rfl rfl ?_
      exact g_iret gq5 rfl rfl h
  · replace h := h.2 c
    refine g_aload_n 8 gq5 rfl rfl rfl ?_
    refine g_getI 11 gq5 rfl rfl rfl hr1 rfl rfl ?_
    refine g_iconst 12 gq5 rfl rfl ?_
    have c40 := h.1
    replace h := h.2
    refine g_icmp_ne 19 15 gq5 rfl rfl rfl c40 (by omega) (fun c => ?_) (fun c => ?_)
    · replace h := h.1 c
      refine g_iconst 20 gq5 rfl rfl ?_
      exact g_iret gq5 rfl rfl h
    · replace h := h.2 c
      refine g_iconst 16 gq5 rfl rfl ?_
      refine g_goto 20 gq5 rfl rfl ?_
      exact g_iret gq5 rfl rfl h
set_option maxRecDepth 10000 in
theorem b6_0 {xs : Nat → Int32} {Lx d : Nat} {V : km_V} {Q : Option Value → km_V → Prop} {a1 : Int} 
    (h : kGo xs Lx (d + 1) 6 8 [some (.ref 28), some (kI a1), some (kJ 1), none, some (kJ 1), none, some (kI 0), none, none, none, none, none] [] V Q) :
    kGo xs Lx (d + 1) 6 0 [some (.ref 28), some (kI a1), none, none, none, none, none, none, none, none, none, none] [] V Q := by
  refine g_lconst 1 1 gq6 rfl rfl rfl ?_
  refine g_lstore_n 2 gq6 rfl rfl rfl ?_
  refine g_lconst 3 1 gq6 rfl rfl rfl ?_
  refine g_lstore 5 gq6 rfl rfl rfl ?_
  refine g_iconst 6 gq6 rfl rfl ?_
  refine g_istore 8 gq6 rfl rfl rfl ?_
  exact kGo.weak (km_Le.s (km_Le.s (km_Le.s (km_Le.n (km_Le.s (km_Le.n (km_Le.s (km_Le.n (km_Le.n (km_Le.n (km_Le.n (km_Le.n km_Le.nil)))))))))))) h
set_option maxRecDepth 10000 in
theorem b6_8 {xs : Nat → Int32} {Lx d : Nat} {V : km_V} {Q : Option Value → km_V → Prop} {x1 x2 x4 x6 : Int} 
    (h : (kR x6) ∧ (kR x1) ∧ ((x1 ≤ x6 →
    Q (some (kJ (x4 * x2))) V) ∧
   (x6 < x1 →
    kCI xs Lx (d + 0) 7 5 [.ref 28, kI x6, kI x6, kI x1] V (fun y1 W1 =>
    (kR y1) ∧ ((y1 ≠ (-1) →
      ((y1 = x6 →
        kGo xs Lx (d + 1) 6 59 [some (.ref 28), some (kI x1), some (kJ x2), none, some (kJ x4), none, some (kI x6), none, some (kI (x6 + 1)), none, none, none] [] W1 Q) ∧
       (y1 ≠ x6 →
        kCV xs Lx (d + 0) 8 6 [.ref 28, kI y1, kI x6] W1 (fun W2 =>
        kGo xs Lx (d + 1) 6 59 [some (.ref 28), some (kI x1), some (kJ x2), none, some (kJ (-x4)), none, some (kI x6), none, some (kI (x6 + 1)), none, none, none] [] W2 Q)))) ∧
     (y1 = (-1) →
      Q (some (kJ 0)) W1)))))) :
    kGo xs Lx (d + 1) 6 8 [some (.ref 28), some (kI x1), some (kJ x2), none, some (kJ x4), none, some (kI x6), none, none, none, none, none] [] V Q := by
  refine g_iload 10 gq6 rfl rfl rfl ?_
  refine g_iload_n 11 gq6 rfl rfl rfl ?_
  have c2 := h.1
  replace h := h.2
  have c4 := h.1
  replace h := h.2
  refine g_icmp_ge 175 14 gq6 rfl rfl rfl c2 c4 (fun c => ?_) (fun c => ?_)
  · replace h := h.1 c
    refine g_lload 177 gq6 rfl rfl rfl ?_
    refine g_lload_n 178 gq6 rfl rfl rfl ?_
    refine g_lmul 179 gq6 rfl rfl ?_
    exact g_lret gq6 rfl rfl h
  · replace h := h.2 c
    refine g_aload_n 15 gq6 rfl rfl rfl ?_
    refine g_iload 17 gq6 rfl rfl rfl ?_
    refine g_iload 19 gq6 rfl rfl rfl ?_
    refine g_iload_n 20 gq6 rfl rfl rfl ?_
    refine g_virt 7 _ (i := 74) gq6 rfl rfl gq7 rfl rfl rfl rfl rfl rfl ?_
    refine kGo.mono h (fun r W1 hr => ?_)
    obtain ⟨y1, rfl, h⟩ := hr
    refine g_istore 25 gq6 rfl rfl rfl ?_
    refine g_iload 27 gq6 rfl rfl rfl ?_
    refine g_iconst 28 gq6 rfl rfl ?_
    have c23 := h.1
    replace h := h.2
    refine g_icmp_ne 33 31 gq6 rfl rfl rfl c23 (by omega) (fun c => ?_) (fun c => ?_)
    · replace h := h.1 c
      refine g_iload 35 gq6 rfl rfl rfl ?_
      refine g_iload 37 gq6 rfl rfl rfl ?_
      refine g_icmp_eq 53 40 gq6 rfl rfl rfl c23 c2 (fun c => ?_) (fun c => ?_)
      · replace h := h.1 c
        refine g_iload 55 gq6 rfl rfl rfl ?_
        refine g_iconst 56 gq6 rfl rfl ?_
        refine g_iadd 57 gq6 rfl rfl ?_
        refine g_istore 59 gq6 rfl rfl rfl ?_
        exact kGo.weak (km_Le.s (km_Le.s (km_Le.s (km_Le.n (km_Le.s (km_Le.n (km_Le.s (km_Le.n (km_Le.s (km_Le.n (km_Le.n (km_Le.n km_Le.nil)))))))))))) h
      · replace h := h.2 c
        refine g_aload_n 41 gq6 rfl rfl rfl ?_
        refine g_iload 43 gq6 rfl rfl rfl ?_
        refine g_iload 45 gq6 rfl rfl rfl ?_
        refine g_virt 8 _ (i := 78) gq6 rfl rfl gq8 rfl rfl rfl rfl rfl rfl ?_
        refine kGo.mono h (fun r W2 hr => ?_)
        obtain ⟨rfl, h⟩ := hr
        refine g_lload 50 gq6 rfl rfl rfl ?_
        refine g_lneg 51 gq6 rfl rfl ?_
        refine g_lstore 53 gq6 rfl rfl rfl ?_
        refine g_iload 55 gq6 rfl rfl rfl ?_
        refine g_iconst 56 gq6 rfl rfl ?_
        refine g_iadd 57 gq6 rfl rfl ?_
        refine g_istore 59 gq6 rfl rfl rfl ?_
        exact kGo.weak (km_Le.s (km_Le.s (km_Le.s (km_Le.n (km_Le.s (km_Le.n (km_Le.s (km_Le.n (km_Le.s (km_Le.n (km_Le.n (km_Le.n km_Le.nil)))))))))))) h
    · replace h := h.2 c
      refine g_lconst 32 0 gq6 rfl rfl rfl ?_
      exact g_lret gq6 rfl rfl h
set_option maxRecDepth 10000 in
theorem b6_59 {xs : Nat → Int32} {Lx d : Nat} {V : km_V} {Q : Option Value → km_V → Prop} {x1 x2 x4 x6 x8 : Int} 
    (h : (kR x8) ∧ (kR x1) ∧ ((x1 ≤ x8 →
    (0 ≤ x6 ∧ x6 < (8 : Nat)) ∧ (0 ≤ x6 ∧ x6 < (12 : Nat)) ∧ (∀ z1 : Int, z1 = (V (31 + 1 * Int.toNat x6) (Int.toNat x6)) → kGo xs Lx (d + 1) 6 8 [some (.ref 28), some (kI x1), some (kJ z1), none, some (kJ x4), none, some (kI (x6 + 1)), none, none, none, none, none] [] V Q)) ∧
   (x8 < x1 →
    kGo xs Lx (d + 1) 6 71 [some (.ref 28), some (kI x1), some (kJ x2), none, some (kJ x4), none, some (kI x6), none, some (kI x8), some (kI (x6 + 1)), none, none] [] V Q))) :
    kGo xs Lx (d + 1) 6 59 [some (.ref 28), some (kI x1), some (kJ x2), none, some (kJ x4), none, some (kI x6), none, some (kI x8), none, none, none] [] V Q := by
  refine g_iload 61 gq6 rfl rfl rfl ?_
  refine g_iload_n 62 gq6 rfl rfl rfl ?_
  have c2 := h.1
  replace h := h.2
  have c4 := h.1
  replace h := h.2
  refine g_icmp_ge 158 65 gq6 rfl rfl rfl c2 c4 (fun c => ?_) (fun c => ?_)
  · replace h := h.1 c
    refine g_aload_n 159 gq6 rfl rfl rfl ?_
    refine g_getA 162 30 gq6 rfl rfl rfl rfl rfl rfl rfl ?_
    refine g_iload 164 gq6 rfl rfl rfl ?_
    have c11 := h.1
    replace h := h.2
    refine g_aald 165 (31 + 1 * Int.toNat _) gq6 rfl rfl (by decide) rfl c11 (by rw [Nat.one_mul]; rfl) ?_
    refine g_iload 167 gq6 rfl rfl rfl ?_
    have c15 := h.1
    replace h := h.2
    refine g_lald 168 gq6 rfl rfl (shXA c11) c15 ?_
    refine g_lstore_n 169 gq6 rfl rfl rfl ?_
    replace h := h _ rfl
    refine g_iinc 172 gq6 rfl rfl rfl rfl ?_
    refine g_goto 8 gq6 rfl rfl ?_
    exact kGo.weak (km_Le.s (km_Le.s (km_Le.s (km_Le.n (km_Le.s (km_Le.n (km_Le.s (km_Le.n (km_Le.n (km_Le.n (km_Le.n (km_Le.n km_Le.nil)))))))))))) h
  · replace h := h.2 c
    refine g_iload 67 gq6 rfl rfl rfl ?_
    refine g_iconst 68 gq6 rfl rfl ?_
    refine g_iadd 69 gq6 rfl rfl ?_
    refine g_istore 71 gq6 rfl rfl rfl ?_
    exact kGo.weak (km_Le.s (km_Le.s (km_Le.s (km_Le.n (km_Le.s (km_Le.n (km_Le.s (km_Le.n (km_Le.s (km_Le.s (km_Le.n (km_Le.n km_Le.nil)))))))))))) h
set_option maxRecDepth 10000 in
theorem b6_71 {xs : Nat → Int32} {Lx d : Nat} {V : km_V} {Q : Option Value → km_V → Prop} {x1 x2 x4 x6 x8 x9 : Int} 
    (h : (kR x9) ∧ (kR x1) ∧ ((x1 ≤ x9 →
    kGo xs Lx (d + 1) 6 59 [some (.ref 28), some (kI x1), some (kJ x2), none, some (kJ x4), none, some (kI x6), none, some (kI (x8 + 1)), none, none, none] [] V Q) ∧
   (x9 < x1 →
    (0 ≤ x8 ∧ x8 < (8 : Nat)) ∧ (0 ≤ x9 ∧ x9 < (12 : Nat)) ∧ (0 ≤ x6 ∧ x6 < (8 : Nat)) ∧ (0 ≤ x6 ∧ x6 < (12 : Nat)) ∧ (∀ z1 : Int, z1 = (((V (31 + 1 * Int.toNat x8) (Int.toNat x9)) * (V (31 + 1 * Int.toNat x6) (Int.toNat x6))) - ((V (31 + 1 * Int.toNat x8) (Int.toNat x6)) * (V (31 + 1 * Int.toNat x6) (Int.toNat x9)))) → (kR64 x2) ∧ (kR (kcmp x2 0)) ∧ (((kcmp x2 0) ≠ 0 →
      (kR64 z1) ∧ (kR64 x2 ∧ x2 ≠ 0) ∧ kGo xs Lx (d + 1) 6 71 [some (.ref 28), some (kI x1), some (kJ x2), none, some (kJ x4), none, some (kI x6), none, some (kI x8), some (kI (x9 + 1)), none, none] [] (up V (31 + 1 * Int.toNat x8) (Int.toNat x9) (Int.tdiv z1 x2)) Q) ∧
     ((kcmp x2 0) = 0 →
      kGo xs Lx (d + 1) 6 71 [some (.ref 28), some (kI x1), some (kJ x2), none, some (kJ x4), none, some (kI x6), none, some (kI x8), some (kI (x9 + 1)), none, none] [] (up V (31 + 1 * Int.toNat x8) (Int.toNat x9) 0) Q)))))) :
    kGo xs Lx (d + 1) 6 71 [some (.ref 28), some (kI x1), some (kJ x2), none, some (kJ x4), none, some (kI x6), none, some (kI x8), some (kI x9), none, none] [] V Q := by
  refine g_iload 73 gq6 rfl rfl rfl ?_
  refine g_iload_n 74 gq6 rfl rfl rfl ?_
  have c2 := h.1
  replace h := h.2
  have c4 := h.1
  replace h := h.2
  refine g_icmp_ge 152 77 gq6 rfl rfl rfl c2 c4 (fun c => ?_) (fun c => ?_)
  · replace h := h.1 c
    refine g_iinc 155 gq6 rfl rfl rfl rfl ?_
    refine g_goto 59 gq6 rfl rfl ?_
    exact kGo.weak (km_Le.s (km_Le.s (km_Le.s (km_Le.n (km_Le.s (km_Le.n (km_Le.s (km_Le.n (km_Le.s (km_Le.n (km_Le.n (km_Le.n km_Le.nil)))))))))))) h
  · replace h := h.2 c
    refine g_aload_n 78 gq6 rfl rfl rfl ?_
    refine g_getA 81 30 gq6 rfl rfl rfl rfl rfl rfl rfl ?_
    refine g_iload 83 gq6 rfl rfl rfl ?_
    have c15 := h.1
    replace h := h.2
    refine g_aald 84 (31 + 1 * Int.toNat _) gq6 rfl rfl (by decide) rfl c15 (by rw [Nat.one_mul]; rfl) ?_
    refine g_iload 86 gq6 rfl rfl rfl ?_
    have c19 := h.1
    replace h := h.2
    refine g_lald 87 gq6 rfl rfl (shXA c15) c19 ?_
    refine g_aload_n 88 gq6 rfl rfl rfl ?_
    refine g_getA 91 30 gq6 rfl rfl rfl rfl rfl rfl rfl ?_
    refine g_iload 93 gq6 rfl rfl rfl ?_
    have c25 := h.1
    replace h := h.2
    refine g_aald 94 (31 + 1 * Int.toNat _) gq6 rfl rfl (by decide) rfl c25 (by rw [Nat.one_mul]; rfl) ?_
    refine g_iload 96 gq6 rfl rfl rfl ?_
    have c29 := h.1
    replace h := h.2
    refine g_lald 97 gq6 rfl rfl (shXA c25) c29 ?_
    refine g_lmul 98 gq6 rfl rfl ?_
    refine g_aload_n 99 gq6 rfl rfl rfl ?_
    refine g_getA 102 30 gq6 rfl rfl rfl rfl rfl rfl rfl ?_
    refine g_iload 104 gq6 rfl rfl rfl ?_
    refine g_aald 105 (31 + 1 * Int.toNat _) gq6 rfl rfl (by decide) rfl c15 (by rw [Nat.one_mul]; rfl) ?_
    refine g_iload 107 gq6 rfl rfl rfl ?_
    refine g_lald 108 gq6 rfl rfl (shXA c15) c29 ?_
    refine g_aload_n 109 gq6 rfl rfl rfl ?_
    refine g_getA 112 30 gq6 rfl rfl rfl rfl rfl rfl rfl ?_
    refine g_iload 114 gq6 rfl rfl rfl ?_
    refine g_aald 115 (31 + 1 * Int.toNat _) gq6 rfl rfl (by decide) rfl c25 (by rw [Nat.one_mul]; rfl) ?_
    refine g_iload 117 gq6 rfl rfl rfl ?_
    refine g_lald 118 gq6 rfl rfl (shXA c25) c19 ?_
    refine g_lmul 119 gq6 rfl rfl ?_
    refine g_lsub 120 gq6 rfl rfl ?_
    refine g_lstore 122 gq6 rfl rfl rfl ?_
    replace h := h _ rfl
    refine g_aload_n 123 gq6 rfl rfl rfl ?_
    refine g_getA 126 30 gq6 rfl rfl rfl rfl rfl rfl rfl ?_
    refine g_iload 128 gq6 rfl rfl rfl ?_
    refine g_aald 129 (31 + 1 * Int.toNat _) gq6 rfl rfl (by decide) rfl c15 (by rw [Nat.one_mul]; rfl) ?_
    refine g_iload 131 gq6 rfl rfl rfl ?_
    refine g_lload_n 132 gq6 rfl rfl rfl ?_
    refine g_lconst 133 0 gq6 rfl rfl rfl ?_
    have c56 := h.1
    replace h := h.2
    refine g_lcmp 134 gq6 rfl rfl c56 (by omega) ?_
    have c59 := h.1
    replace h := h.2
    refine g_if_ne 141 137 gq6 rfl rfl rfl c59 (fun c => ?_) (fun c => ?_)
    · replace h := h.1 c
      refine g_lload 143 gq6 rfl rfl rfl ?_
      refine g_lload_n 144 gq6 rfl rfl rfl ?_
      have c65 := h.1
      replace h := h.2
      have c67 := h.1
      replace h := h.2
      refine g_ldivT 145 gq6 rfl rfl c65 c67 ?_
      refine g_last 146 gq6 rfl rfl (shXA c15) c19 ?_
      refine g_iinc 149 gq6 rfl rfl rfl rfl ?_
      refine g_goto 71 gq6 rfl rfl ?_
      exact kGo.weak (km_Le.s (km_Le.s (km_Le.s (km_Le.n (km_Le.s (km_Le.n (km_Le.s (km_Le.n (km_Le.s (km_Le.s (km_Le.n (km_Le.n km_Le.nil)))))))))))) h
    · replace h := h.2 c
      refine g_lconst 138 0 gq6 rfl rfl rfl ?_
      refine g_goto 145 gq6 rfl rfl ?_
      refine g_last 146 gq6 rfl rfl (shXA c15) c19 ?_
      refine g_iinc 149 gq6 rfl rfl rfl rfl ?_
      refine g_goto 71 gq6 rfl rfl ?_
      exact kGo.weak (km_Le.s (km_Le.s (km_Le.s (km_Le.n (km_Le.s (km_Le.n (km_Le.s (km_Le.n (km_Le.s (km_Le.s (km_Le.n (km_Le.n km_Le.nil)))))))))))) h
set_option maxRecDepth 10000 in
theorem b7_0 {xs : Nat → Int32} {Lx d : Nat} {V : km_V} {Q : Option Value → km_V → Prop} {a1 a2 a3 : Int} 
    (h : kGo xs Lx (d + 0) 7 3 [some (.ref 28), some (kI a1), none, some (kI a3), some (kI a2)] [] V Q) :
    kGo xs Lx (d + 0) 7 0 [some (.ref 28), some (kI a1), some (kI a2), some (kI a3), none] [] V Q := by
  refine g_iload_n 1 gq7 rfl rfl rfl ?_
  refine g_istore 3 gq7 rfl rfl rfl ?_
  exact kGo.weak (km_Le.s (km_Le.s (km_Le.n (km_Le.s (km_Le.s km_Le.nil))))) h
set_option maxRecDepth 10000 in
theorem b7_3 {xs : Nat → Int32} {Lx d : Nat} {V : km_V} {Q : Option Value → km_V → Prop} {x1 x3 x4 : Int} 
    (h : (kR x4) ∧ (kR x3) ∧ ((x3 ≤ x4 →
    Q (some (kI (-1))) V) ∧
   (x4 < x3 →
    (0 ≤ x4 ∧ x4 < (8 : Nat)) ∧ (0 ≤ x1 ∧ x1 < (12 : Nat)) ∧ (kR64 (V (31 + 1 * Int.toNat x4) (Int.toNat x1))) ∧ (kR (kcmp (V (31 + 1 * Int.toNat x4) (Int.toNat x1)) 0)) ∧ (((kcmp (V (31 + 1 * Int.toNat x4) (Int.toNat x1)) 0) = 0 →
      kGo xs Lx (d + 0) 7 3 [some (.ref 28), some (kI x1), none, some (kI x3), some (kI (x4 + 1))] [] V Q) ∧
     ((kcmp (V (31 + 1 * Int.toNat x4) (Int.toNat x1)) 0) ≠ 0 →
      Q (some (kI x4)) V))))) :
    kGo xs Lx (d + 0) 7 3 [some (.ref 28), some (kI x1), none, some (kI x3), some (kI x4)] [] V Q := by
  refine g_iload 5 gq7 rfl rfl rfl ?_
  refine g_iload_n 6 gq7 rfl rfl rfl ?_
  have c2 := h.1
  replace h := h.2
  have c4 := h.1
  replace h := h.2
  refine g_icmp_ge 32 9 gq7 rfl rfl rfl c2 c4 (fun c => ?_) (fun c => ?_)
  · replace h := h.1 c
    refine g_iconst 33 gq7 rfl rfl ?_
    exact g_iret gq7 rfl rfl h
  · replace h := h.2 c
    refine g_aload_n 10 gq7 rfl rfl rfl ?_
    refine g_getA 13 30 gq7 rfl rfl rfl rfl rfl rfl rfl ?_
    refine g_iload 15 gq7 rfl rfl rfl ?_
    have c14 := h.1
    replace h := h.2
    refine g_aald 16 (31 + 1 * Int.toNat _) gq7 rfl rfl (by decide) rfl c14 (by rw [Nat.one_mul]; rfl) ?_
    refine g_iload_n 17 gq7 rfl rfl rfl ?_
    have c18 := h.1
    replace h := h.2
    refine g_lald 18 gq7 rfl rfl (shXA c14) c18 ?_
    refine g_lconst 19 0 gq7 rfl rfl rfl ?_
    have c22 := h.1
    replace h := h.2
    refine g_lcmp 20 gq7 rfl rfl c22 (by omega) ?_
    have c25 := h.1
    replace h := h.2
    refine g_if_eq 26 23 gq7 rfl rfl rfl c25 (fun c => ?_) (fun c => ?_)
    · replace h := h.1 c
      refine g_iinc 29 gq7 rfl rfl rfl rfl ?_
      refine g_goto 3 gq7 rfl rfl ?_
      exact kGo.weak (km_Le.s (km_Le.s (km_Le.n (km_Le.s (km_Le.s km_Le.nil))))) h
    · replace h := h.2 c
      refine g_iload 25 gq7 rfl rfl rfl ?_
      exact g_iret gq7 rfl rfl h
set_option maxRecDepth 10000 in
theorem b8_0 {xs : Nat → Int32} {Lx d : Nat} {V : km_V} {Q : Option Value → km_V → Prop} {a1 a2 : Int} 
    (h : kGo xs Lx (d + 0) 8 2 [some (.ref 28), some (kI a1), some (kI a2), some (kI 0), none, none] [] V Q) :
    kGo xs Lx (d + 0) 8 0 [some (.ref 28), some (kI a1), some (kI a2), none, none, none] [] V Q := by
  refine g_iconst 1 gq8 rfl rfl ?_
  refine g_istore_n 2 gq8 rfl rfl rfl ?_
  exact kGo.weak (km_Le.s (km_Le.s (km_Le.s (km_Le.s (km_Le.n (km_Le.n km_Le.nil)))))) h
set_option maxRecDepth 10000 in
theorem b8_2 {xs : Nat → Int32} {Lx d : Nat} {V : km_V} {Q : Option Value → km_V → Prop} {x1 x2 x3 : Int} 
    (h : (kR x3) ∧ ((12 ≤ x3 →
    Q none V) ∧
   (x3 < 12 →
    (0 ≤ x1 ∧ x1 < (8 : Nat)) ∧ (0 ≤ x3 ∧ x3 < (12 : Nat)) ∧ (∀ z1 : Int, z1 = (V (31 + 1 * Int.toNat x1) (Int.toNat x3)) → (0 ≤ x2 ∧ x2 < (8 : Nat)) ∧ kGo xs Lx (d + 0) 8 2 [some (.ref 28), some (kI x1), some (kI x2), some (kI (x3 + 1)), none, none] [] (up (up V (31 + 1 * Int.toNat x1) (Int.toNat x3) (V (31 + 1 * Int.toNat x2) (Int.toNat x3))) (31 + 1 * Int.toNat x2) (Int.toNat x3) z1) Q)))) :
    kGo xs Lx (d + 0) 8 2 [some (.ref 28), some (kI x1), some (kI x2), some (kI x3), none, none] [] V Q := by
  refine g_iload_n 3 gq8 rfl rfl rfl ?_
  refine g_bipush 5 gq8 rfl rfl rfl ?_
  have c2 := h.1
  replace h := h.2
  refine g_icmp_ge 50 8 gq8 rfl rfl rfl c2 (by omega) (fun c => ?_) (fun c => ?_)
  · replace h := h.1 c
    exact g_vret gq8 rfl rfl h
  · replace h := h.2 c
    refine g_aload_n 9 gq8 rfl rfl rfl ?_
    refine g_getA 12 30 gq8 rfl rfl rfl rfl rfl rfl rfl ?_
    refine g_iload_n 13 gq8 rfl rfl rfl ?_
    have c11 := h.1
    replace h := h.2
    refine g_aald 14 (31 + 1 * Int.toNat _) gq8 rfl rfl (by decide) rfl c11 (by rw [Nat.one_mul]; rfl) ?_
    refine g_iload_n 15 gq8 rfl rfl rfl ?_
    have c15 := h.1
    replace h := h.2
    refine g_lald 16 gq8 rfl rfl (shXA c11) c15 ?_
    refine g_lstore 18 gq8 rfl rfl rfl ?_
    replace h := h _ rfl
    refine g_aload_n 19 gq8 rfl rfl rfl ?_
    refine g_getA 22 30 gq8 rfl rfl rfl rfl rfl rfl rfl ?_
    refine g_iload_n 23 gq8 rfl rfl rfl ?_
    refine g_aald 24 (31 + 1 * Int.toNat _) gq8 rfl rfl (by decide) rfl c11 (by rw [Nat.one_mul]; rfl) ?_
    refine g_iload_n 25 gq8 rfl rfl rfl ?_
    refine g_aload_n 26 gq8 rfl rfl rfl ?_
    refine g_getA 29 30 gq8 rfl rfl rfl rfl rfl rfl rfl ?_
    refine g_iload_n 30 gq8 rfl rfl rfl ?_
    have c28 := h.1
    replace h := h.2
    refine g_aald 31 (31 + 1 * Int.toNat _) gq8 rfl rfl (by decide) rfl c28 (by rw [Nat.one_mul]; rfl) ?_
    refine g_iload_n 32 gq8 rfl rfl rfl ?_
    refine g_lald 33 gq8 rfl rfl (shXA c28) c15 ?_
    refine g_last 34 gq8 rfl rfl (shXA c11) c15 ?_
    refine g_aload_n 35 gq8 rfl rfl rfl ?_
    refine g_getA 38 30 gq8 rfl rfl rfl rfl rfl rfl rfl ?_
    refine g_iload_n 39 gq8 rfl rfl rfl ?_
    refine g_aald 40 (31 + 1 * Int.toNat _) gq8 rfl rfl (by decide) rfl c28 (by rw [Nat.one_mul]; rfl) ?_
    refine g_iload_n 41 gq8 rfl rfl rfl ?_
    refine g_lload 43 gq8 rfl rfl rfl ?_
    refine g_last 44 gq8 rfl rfl (shXA c28) c15 ?_
    refine g_iinc 47 gq8 rfl rfl rfl rfl ?_
    refine g_goto 2 gq8 rfl rfl ?_
    exact kGo.weak (km_Le.s (km_Le.s (km_Le.s (km_Le.s (km_Le.n (km_Le.n km_Le.nil)))))) h
set_option maxRecDepth 10000 in
theorem b9_0 {xs : Nat → Int32} {Lx d : Nat} {V : km_V} {Q : Option Value → km_V → Prop} {a1 : Int} {r2 : Nat} (hr2 : km_sh[r2]? = some (5, 5)) {r3 : Nat} (hr3 : km_sh[r3]? = some (2, 11))
    (h : kCV xs Lx (d + 2) 4 5 [.ref 28, .ref r2, .ref r3] V (fun W1 =>
  kGo xs Lx (d + 3) 9 9 [some (.ref 28), some (kI a1), some (.ref r2), none, some (kI 0), none, none, none] [] W1 Q)) :
    kGo xs Lx (d + 3) 9 0 [some (.ref 28), some (kI a1), some (.ref r2), some (.ref r3), none, none, none, none] [] V Q := by
  refine g_aload_n 1 gq9 rfl rfl rfl ?_
  refine g_aload_n 2 gq9 rfl rfl rfl ?_
  refine g_aload_n 3 gq9 rfl rfl rfl ?_
  refine g_virt 4 _ (i := 60) gq9 rfl rfl gq4 rfl rfl rfl rfl rfl rfl ?_
  refine kGo.mono h (fun r W1 hr => ?_)
  obtain ⟨rfl, h⟩ := hr
  refine g_iconst 7 gq9 rfl rfl ?_
  refine g_istore 9 gq9 rfl rfl rfl ?_
  exact kGo.weak (km_Le.s (km_Le.s (km_Le.s (km_Le.n (km_Le.s (km_Le.n (km_Le.n (km_Le.n km_Le.nil)))))))) h
set_option maxRecDepth 10000 in
theorem b9_9 {xs : Nat → Int32} {Lx d : Nat} {V : km_V} {Q : Option Value → km_V → Prop} {x1 x4 : Int} {q2 : Nat} (hq2 : km_sh[q2]? = some (5, 5))
    (h : (kR x4) ∧ (kR (V q2 1)) ∧ (((V q2 1) ≤ x4 →
    kCI xs Lx (d + 2) 10 7 [.ref 28, kI x1, kI (V q2 1)] V (fun y1 W1 =>
    (∀ z2 : Int, z2 = ((V 28 0) - y1) → kGo xs Lx (d + 3) 9 89 [none, some (kI x1), none, none, some (kI z2), some (kJ 1), none, some (kI 0)] [] W1 Q))) ∧
   (x4 < (V q2 1) →
    kGo xs Lx (d + 3) 9 21 [some (.ref 28), some (kI x1), some (.ref q2), none, some (kI x4), some (kI 0), none, none] [] V Q))) :
    kGo xs Lx (d + 3) 9 9 [some (.ref 28), some (kI x1), some (.ref q2), none, some (kI x4), none, none, none] [] V Q := by
  refine g_iload 11 gq9 rfl rfl rfl ?_
  refine g_aload_n 12 gq9 rfl rfl rfl ?_
  refine g_getI 15 gq9 rfl rfl rfl hq2 rfl rfl ?_
  have c3 := h.1
  replace h := h.2
  have c5 := h.1
  replace h := h.2
  refine g_icmp_ge 67 18 gq9 rfl rfl rfl c3 c5 (fun c => ?_) (fun c => ?_)
  · replace h := h.1 c
    refine g_aload_n 68 gq9 rfl rfl rfl ?_
    refine g_getI 71 gq9 rfl rfl rfl rfl rfl rfl ?_
    refine g_aload_n 72 gq9 rfl rfl rfl ?_
    refine g_iload_n 73 gq9 rfl rfl rfl ?_
    refine g_aload_n 74 gq9 rfl rfl rfl ?_
    refine g_getI 77 gq9 rfl rfl rfl hq2 rfl rfl ?_
    refine g_virt 10 _ (i := 86) gq9 rfl rfl gq10 rfl rfl rfl rfl rfl rfl ?_
    refine kGo.mono h (fun r W1 hr => ?_)
    obtain ⟨y1, rfl, h⟩ := hr
    refine g_isub 81 gq9 rfl rfl ?_
    refine g_istore 83 gq9 rfl rfl rfl ?_
    replace h := h _ rfl
    refine g_lconst 84 1 gq9 rfl rfl rfl ?_
    refine g_lstore 86 gq9 rfl rfl rfl ?_
    refine g_iconst 87 gq9 rfl rfl ?_
    refine g_istore 89 gq9 rfl rfl rfl ?_
    exact kGo.weak (km_Le.n (km_Le.s (km_Le.n (km_Le.n (km_Le.s (km_Le.s (km_Le.n (km_Le.s km_Le.nil)))))))) h
  · replace h := h.2 c
    refine g_iconst 19 gq9 rfl rfl ?_
    refine g_istore 21 gq9 rfl rfl rfl ?_
    exact kGo.weak (km_Le.s (km_Le.s (km_Le.s (km_Le.n (km_Le.s (km_Le.s (km_Le.n (km_Le.n km_Le.nil)))))))) h
set_option maxRecDepth 10000 in
theorem b9_89 {xs : Nat → Int32} {Lx d : Nat} {V : km_V} {Q : Option Value → km_V → Prop} {x1 x4 x5 x7 : Int} 
    (h : (kR x7) ∧ (kR x4) ∧ ((x4 ≤ x7 →
    Q (some (kJ x5)) V) ∧
   (x7 < x4 →
    (kR x1) ∧ kGo xs Lx (d + 3) 9 89 [none, some (kI x1), none, none, some (kI x4), some (kJ (x5 * x1)), none, some (kI (x7 + 1))] [] V Q))) :
    kGo xs Lx (d + 3) 9 89 [none, some (kI x1), none, none, some (kI x4), some (kJ x5), none, some (kI x7)] [] V Q := by
  refine g_iload 91 gq9 rfl rfl rfl ?_
  refine g_iload 93 gq9 rfl rfl rfl ?_
  have c2 := h.1
  replace h := h.2
  have c4 := h.1
  replace h := h.2
  refine g_icmp_ge 109 96 gq9 rfl rfl rfl c2 c4 (fun c => ?_) (fun c => ?_)
  · replace h := h.1 c
    refine g_lload 111 gq9 rfl rfl rfl ?_
    exact g_lret gq9 rfl rfl h
  · replace h := h.2 c
    refine g_lload 98 gq9 rfl rfl rfl ?_
    refine g_iload_n 99 gq9 rfl rfl rfl ?_
    have c13 := h.1
    replace h := h.2
    refine g_i2l 100 gq9 rfl rfl c13 ?_
    refine g_lmul 101 gq9 rfl rfl ?_
    refine g_lstore 103 gq9 rfl rfl rfl ?_
    refine g_iinc 106 gq9 rfl rfl rfl rfl ?_
    refine g_goto 89 gq9 rfl rfl ?_
    exact kGo.weak (km_Le.n (km_Le.s (km_Le.n (km_Le.n (km_Le.s (km_Le.s (km_Le.n (km_Le.s km_Le.nil)))))))) h
set_option maxRecDepth 10000 in
theorem b9_21 {xs : Nat → Int32} {Lx d : Nat} {V : km_V} {Q : Option Value → km_V → Prop} {x1 x4 x5 : Int} {q2 : Nat} (hq2 : km_sh[q2]? = some (5, 5))
    (h : (kR x5) ∧ (kR (V 28 0)) ∧ (((V 28 0) ≤ x5 →
    kGo xs Lx (d + 3) 9 9 [some (.ref 28), some (kI x1), some (.ref q2), none, some (kI (x4 + 1)), none, none, none] [] V Q) ∧
   (x5 < (V 28 0) →
    (0 ≤ x4 ∧ x4 < (8 : Nat)) ∧ (0 ≤ x5 ∧ x5 < (12 : Nat)) ∧ (kR x1) ∧ kCJ xs Lx (d + 2) 219 6 [kJ (V (31 + 1 * Int.toNat x4) (Int.toNat x5)), kJ x1] V (fun y1 W1 =>
    kGo xs Lx (d + 3) 9 21 [some (.ref 28), some (kI x1), some (.ref q2), none, some (kI x4), some (kI (x5 + 1)), none, none] [] (up W1 (31 + 1 * Int.toNat x4) (Int.toNat x5) y1) Q)))) :
    kGo xs Lx (d + 3) 9 21 [some (.ref 28), some (kI x1), some (.ref q2), none, some (kI x4), some (kI x5), none, none] [] V Q := by
  refine g_iload 23 gq9 rfl rfl rfl ?_
  refine g_aload_n 24 gq9 rfl rfl rfl ?_
  refine g_getI 27 gq9 rfl rfl rfl rfl rfl rfl ?_
  have c3 := h.1
  replace h := h.2
  have c5 := h.1
  replace h := h.2
  refine g_icmp_ge 61 30 gq9 rfl rfl rfl c3 c5 (fun c => ?_) (fun c => ?_)
  · replace h := h.1 c
    refine g_iinc 64 gq9 rfl rfl rfl rfl ?_
    refine g_goto 9 gq9 rfl rfl ?_
    exact kGo.weak (km_Le.s (km_Le.s (km_Le.s (km_Le.n (km_Le.s (km_Le.n (km_Le.n (km_Le.n km_Le.nil)))))))) h
  · replace h := h.2 c
    refine g_aload_n 31 gq9 rfl rfl rfl ?_
    refine g_getA 34 30 gq9 rfl rfl rfl rfl rfl rfl rfl ?_
    refine g_iload 36 gq9 rfl rfl rfl ?_
    have c16 := h.1
    replace h := h.2
    refine g_aald 37 (31 + 1 * Int.toNat _) gq9 rfl rfl (by decide) rfl c16 (by rw [Nat.one_mul]; rfl) ?_
    refine g_iload 39 gq9 rfl rfl rfl ?_
    refine g_aload_n 40 gq9 rfl rfl rfl ?_
    refine g_getA 43 30 gq9 rfl rfl rfl rfl rfl rfl rfl ?_
    refine g_iload 45 gq9 rfl rfl rfl ?_
    refine g_aald 46 (31 + 1 * Int.toNat _) gq9 rfl rfl (by decide) rfl c16 (by rw [Nat.one_mul]; rfl) ?_
    refine g_iload 48 gq9 rfl rfl rfl ?_
    have c25 := h.1
    replace h := h.2
    refine g_lald 49 gq9 rfl rfl (shXA c16) c25 ?_
    refine g_iload_n 50 gq9 rfl rfl rfl ?_
    have c29 := h.1
    replace h := h.2
    refine g_i2l 51 gq9 rfl rfl c29 ?_
    refine g_static 219 _ (i := 82) gq9 rfl rfl gq219 rfl rfl rfl rfl ?_
    refine kGo.mono h (fun r W1 hr => ?_)
    obtain ⟨y1, rfl, h⟩ := hr
    refine g_last 55 gq9 rfl rfl (shXA c16) c25 ?_
    refine g_iinc 58 gq9 rfl rfl rfl rfl ?_
    refine g_goto 21 gq9 rfl rfl ?_
    exact kGo.weak (km_Le.s (km_Le.s (km_Le.s (km_Le.n (km_Le.s (km_Le.s (km_Le.n (km_Le.n km_Le.nil)))))))) h
set_option maxRecDepth 10000 in
theorem b10_0 {xs : Nat → Int32} {Lx d : Nat} {V : km_V} {Q : Option Value → km_V → Prop} {a1 a2 : Int} 
    (h : kGo xs Lx (d + 2) 10 5 [some (.ref 28), some (kI a1), some (kI a2), some (kI 0), some (kI 0), none, none] [] V Q) :
    kGo xs Lx (d + 2) 10 0 [some (.ref 28), some (kI a1), some (kI a2), none, none, none, none] [] V Q := by
  refine g_iconst 1 gq10 rfl rfl ?_
  refine g_istore_n 2 gq10 rfl rfl rfl ?_
  refine g_iconst 3 gq10 rfl rfl ?_
  refine g_istore 5 gq10 rfl rfl rfl ?_
  exact kGo.weak (km_Le.s (km_Le.s (km_Le.s (km_Le.s (km_Le.s (km_Le.n (km_Le.n km_Le.nil))))))) h
set_option maxRecDepth 10000 in
theorem b10_5 {xs : Nat → Int32} {Lx d : Nat} {V : km_V} {Q : Option Value → km_V → Prop} {x1 x2 x3 x4 : Int} 
    (h : (kR x4) ∧ (kR (V 28 0)) ∧ (((V 28 0) ≤ x4 →
    Q (some (kI x3)) V) ∧
   (x4 < (V 28 0) →
    (kR x3) ∧ (kR x2) ∧ ((x2 ≤ x3 →
      Q (some (kI x3)) V) ∧
     (x3 < x2 →
      kCI xs Lx (d + 1) 7 5 [.ref 28, kI x4, kI x3, kI x2] V (fun y1 W1 =>
      (kR y1) ∧ ((y1 ≠ (-1) →
        kCV xs Lx (d + 1) 8 6 [.ref 28, kI y1, kI x3] W1 (fun W2 =>
        kGo xs Lx (d + 2) 10 50 [some (.ref 28), some (kI x1), some (kI x2), some (kI x3), some (kI x4), none, some (kI (x3 + 1))] [] W2 Q)) ∧
       (y1 = (-1) →
        kGo xs Lx (d + 2) 10 5 [some (.ref 28), some (kI x1), some (kI x2), some (kI x3), some (kI (x4 + 1)), none, none] [] W1 Q)))))))) :
    kGo xs Lx (d + 2) 10 5 [some (.ref 28), some (kI x1), some (kI x2), some (kI x3), some (kI x4), none, none] [] V Q := by
  refine g_iload 7 gq10 rfl rfl rfl ?_
  refine g_aload_n 8 gq10 rfl rfl rfl ?_
  refine g_getI 11 gq10 rfl rfl rfl rfl rfl rfl ?_
  have c3 := h.1
  replace h := h.2
  have c5 := h.1
  replace h := h.2
  refine g_icmp_ge 81 14 gq10 rfl rfl rfl c3 c5 (fun c => ?_) (fun c => ?_)
  · replace h := h.1 c
    refine g_iload_n 82 gq10 rfl rfl rfl ?_
    exact g_iret gq10 rfl rfl h
  · replace h := h.2 c
    refine g_iload_n 15 gq10 rfl rfl rfl ?_
    refine g_iload_n 16 gq10 rfl rfl rfl ?_
    have c14 := h.1
    replace h := h.2
    have c16 := h.1
    replace h := h.2
    refine g_icmp_ge 81 19 gq10 rfl rfl rfl c14 c16 (fun c => ?_) (fun c => ?_)
    · replace h := h.1 c
      refine g_iload_n 82 gq10 rfl rfl rfl ?_
      exact g_iret gq10 rfl rfl h
    · replace h := h.2 c
      refine g_aload_n 20 gq10 rfl rfl rfl ?_
      refine g_iload 22 gq10 rfl rfl rfl ?_
      refine g_iload_n 23 gq10 rfl rfl rfl ?_
      refine g_iload_n 24 gq10 rfl rfl rfl ?_
      refine g_virt 7 _ (i := 74) gq10 rfl rfl gq7 rfl rfl rfl rfl rfl rfl ?_
      refine kGo.mono h (fun r W1 hr => ?_)
      obtain ⟨y1, rfl, h⟩ := hr
      refine g_istore 29 gq10 rfl rfl rfl ?_
      refine g_iload 31 gq10 rfl rfl rfl ?_
      refine g_iconst 32 gq10 rfl rfl ?_
      have c33 := h.1
      replace h := h.2
      refine g_icmp_ne 38 35 gq10 rfl rfl rfl c33 (by omega) (fun c => ?_) (fun c => ?_)
      · replace h := h.1 c
        refine g_aload_n 39 gq10 rfl rfl rfl ?_
        refine g_iload 41 gq10 rfl rfl rfl ?_
        refine g_iload_n 42 gq10 rfl rfl rfl ?_
        refine g_virt 8 _ (i := 78) gq10 rfl rfl gq8 rfl rfl rfl rfl rfl rfl ?_
        refine kGo.mono h (fun r W2 hr => ?_)
        obtain ⟨rfl, h⟩ := hr
        refine g_iload_n 46 gq10 rfl rfl rfl ?_
        refine g_iconst 47 gq10 rfl rfl ?_
        refine g_iadd 48 gq10 rfl rfl ?_
        refine g_istore 50 gq10 rfl rfl rfl ?_
        exact kGo.weak (km_Le.s (km_Le.s (km_Le.s (km_Le.s (km_Le.s (km_Le.n (km_Le.s km_Le.nil))))))) h
      · replace h := h.2 c
        refine g_goto 75 gq10 rfl rfl ?_
        refine g_iinc 78 gq10 rfl rfl rfl rfl ?_
        refine g_goto 5 gq10 rfl rfl ?_
        exact kGo.weak (km_Le.s (km_Le.s (km_Le.s (km_Le.s (km_Le.s (km_Le.n (km_Le.n km_Le.nil))))))) h
set_option maxRecDepth 10000 in
theorem b10_50 {xs : Nat → Int32} {Lx d : Nat} {V : km_V} {Q : Option Value → km_V → Prop} {x1 x2 x3 x4 x6 : Int} 
    (h : (kR x6) ∧ (kR x2) ∧ ((x2 ≤ x6 →
    kGo xs Lx (d + 2) 10 5 [some (.ref 28), some (kI x1), some (kI x2), some (kI (x3 + 1)), some (kI (x4 + 1)), none, none] [] V Q) ∧
   (x6 < x2 →
    kCV xs Lx (d + 1) 11 10 [.ref 28, kI x6, kI x3, kI x4, kI x1] V (fun W1 =>
    kGo xs Lx (d + 2) 10 50 [some (.ref 28), some (kI x1), some (kI x2), some (kI x3), some (kI x4), none, some (kI (x6 + 1))] [] W1 Q)))) :
    kGo xs Lx (d + 2) 10 50 [some (.ref 28), some (kI x1), some (kI x2), some (kI x3), some (kI x4), none, some (kI x6)] [] V Q := by
  refine g_iload 52 gq10 rfl rfl rfl ?_
  refine g_iload_n 53 gq10 rfl rfl rfl ?_
  have c2 := h.1
  replace h := h.2
  have c4 := h.1
  replace h := h.2
  refine g_icmp_ge 72 56 gq10 rfl rfl rfl c2 c4 (fun c => ?_) (fun c => ?_)
  · replace h := h.1 c
    refine g_iinc 75 gq10 rfl rfl rfl rfl ?_
    refine g_iinc 78 gq10 rfl rfl rfl rfl ?_
    refine g_goto 5 gq10 rfl rfl ?_
    exact kGo.weak (km_Le.s (km_Le.s (km_Le.s (km_Le.s (km_Le.s (km_Le.n (km_Le.n km_Le.nil))))))) h
  · replace h := h.2 c
    refine g_aload_n 57 gq10 rfl rfl rfl ?_
    refine g_iload 59 gq10 rfl rfl rfl ?_
    refine g_iload_n 60 gq10 rfl rfl rfl ?_
    refine g_iload 62 gq10 rfl rfl rfl ?_
    refine g_iload_n 63 gq10 rfl rfl rfl ?_
    refine g_virt 11 _ (i := 90) gq10 rfl rfl gq11 rfl rfl rfl rfl rfl rfl ?_
    refine kGo.mono h (fun r W1 hr => ?_)
    obtain ⟨rfl, h⟩ := hr
    refine g_iinc 69 gq10 rfl rfl rfl rfl ?_
    refine g_goto 50 gq10 rfl rfl ?_
    exact kGo.weak (km_Le.s (km_Le.s (km_Le.s (km_Le.s (km_Le.s (km_Le.n (km_Le.s km_Le.nil))))))) h
set_option maxRecDepth 10000 in
theorem b11_0 {xs : Nat → Int32} {Lx d : Nat} {V : km_V} {Q : Option Value → km_V → Prop} {a1 a2 a3 a4 : Int} 
    (h : (0 ≤ a1 ∧ a1 < (8 : Nat)) ∧ (0 ≤ a3 ∧ a3 < (12 : Nat)) ∧ (∀ z1 : Int, z1 = (V (31 + 1 * Int.toNat a1) (Int.toNat a3)) → (0 ≤ a2 ∧ a2 < (8 : Nat)) ∧ (∀ z2 : Int, z2 = (V (31 + 1 * Int.toNat a2) (Int.toNat a3)) → kGo xs Lx (d + 1) 11 23 [some (.ref 28), some (kI a1), some (kI a2), none, some (kI a4), some (kJ z1), none, some (kJ z2), none, some (kI a3)] [] V Q))) :
    kGo xs Lx (d + 1) 11 0 [some (.ref 28), some (kI a1), some (kI a2), some (kI a3), some (kI a4), none, none, none, none, none] [] V Q := by
  refine g_aload_n 1 gq11 rfl rfl rfl ?_
  refine g_getA 4 30 gq11 rfl rfl rfl rfl rfl rfl rfl ?_
  refine g_iload_n 5 gq11 rfl rfl rfl ?_
  have c3 := h.1
  replace h := h.2
  refine g_aald 6 (31 + 1 * Int.toNat _) gq11 rfl rfl (by decide) rfl c3 (by rw [Nat.one_mul]; rfl) ?_
  refine g_iload_n 7 gq11 rfl rfl rfl ?_
  have c7 := h.1
  replace h := h.2
  refine g_lald 8 gq11 rfl rfl (shXA c3) c7 ?_
  refine g_lstore 10 gq11 rfl rfl rfl ?_
  replace h := h _ rfl
  refine g_aload_n 11 gq11 rfl rfl rfl ?_
  refine g_getA 14 30 gq11 rfl rfl rfl rfl rfl rfl rfl ?_
  refine g_iload_n 15 gq11 rfl rfl rfl ?_
  have c15 := h.1
  replace h := h.2
  refine g_aald 16 (31 + 1 * Int.toNat _) gq11 rfl rfl (by decide) rfl c15 (by rw [Nat.one_mul]; rfl) ?_
  refine g_iload_n 17 gq11 rfl rfl rfl ?_
  refine g_lald 18 gq11 rfl rfl (shXA c15) c7 ?_
  refine g_lstore 20 gq11 rfl rfl rfl ?_
  replace h := h _ rfl
  refine g_iload_n 21 gq11 rfl rfl rfl ?_
  refine g_istore 23 gq11 rfl rfl rfl ?_
  exact kGo.weak (km_Le.s (km_Le.s (km_Le.s (km_Le.n (km_Le.s (km_Le.s (km_Le.n (km_Le.s (km_Le.n (km_Le.s km_Le.nil)))))))))) h
set_option maxRecDepth 10000 in
theorem b11_23 {xs : Nat → Int32} {Lx d : Nat} {V : km_V} {Q : Option Value → km_V → Prop} {x1 x2 x4 x5 x7 x9 : Int} 
    (h : (kR x9) ∧ (kR (V 28 0)) ∧ (((V 28 0) ≤ x9 →
    Q none V) ∧
   (x9 < (V 28 0) →
    (0 ≤ x1 ∧ x1 < (8 : Nat)) ∧ (0 ≤ x9 ∧ x9 < (12 : Nat)) ∧ (0 ≤ x2 ∧ x2 < (8 : Nat)) ∧ (kR x4) ∧ kCJ xs Lx (d + 0) 219 6 [kJ (((V (31 + 1 * Int.toNat x1) (Int.toNat x9)) * x7) - ((V (31 + 1 * Int.toNat x2) (Int.toNat x9)) * x5)), kJ x4] V (fun y1 W1 =>
    kGo xs Lx (d + 1) 11 23 [some (.ref 28), some (kI x1), some (kI x2), none, some (kI x4), some (kJ x5), none, some (kJ x7), none, some (kI (x9 + 1))] [] (up W1 (31 + 1 * Int.toNat x1) (Int.toNat x9) y1) Q)))) :
    kGo xs Lx (d + 1) 11 23 [some (.ref 28), some (kI x1), some (kI x2), none, some (kI x4), some (kJ x5), none, some (kJ x7), none, some (kI x9)] [] V Q := by
  refine g_iload 25 gq11 rfl rfl rfl ?_
  refine g_aload_n 26 gq11 rfl rfl rfl ?_
  refine g_getI 29 gq11 rfl rfl rfl rfl rfl rfl ?_
  have c3 := h.1
  replace h := h.2
  have c5 := h.1
  replace h := h.2
  refine g_icmp_ge 78 32 gq11 rfl rfl rfl c3 c5 (fun c => ?_) (fun c => ?_)
  · replace h := h.1 c
    exact g_vret gq11 rfl rfl h
  · replace h := h.2 c
    refine g_aload_n 33 gq11 rfl rfl rfl ?_
    refine g_getA 36 30 gq11 rfl rfl rfl rfl rfl rfl rfl ?_
    refine g_iload_n 37 gq11 rfl rfl rfl ?_
    have c14 := h.1
    replace h := h.2
    refine g_aald 38 (31 + 1 * Int.toNat _) gq11 rfl rfl (by decide) rfl c14 (by rw [Nat.one_mul]; rfl) ?_
    refine g_iload 40 gq11 rfl rfl rfl ?_
    refine g_aload_n 41 gq11 rfl rfl rfl ?_
    refine g_getA 44 30 gq11 rfl rfl rfl rfl rfl rfl rfl ?_
    refine g_iload_n 45 gq11 rfl rfl rfl ?_
    refine g_aald 46 (31 + 1 * Int.toNat _) gq11 rfl rfl (by decide) rfl c14 (by rw [Nat.one_mul]; rfl) ?_
    refine g_iload 48 gq11 rfl rfl rfl ?_
    have c23 := h.1
    replace h := h.2
    refine g_lald 49 gq11 rfl rfl (shXA c14) c23 ?_
    refine g_lload 51 gq11 rfl rfl rfl ?_
    refine g_lmul 52 gq11 rfl rfl ?_
    refine g_aload_n 53 gq11 rfl rfl rfl ?_
    refine g_getA 56 30 gq11 rfl rfl rfl rfl rfl rfl rfl ?_
    refine g_iload_n 57 gq11 rfl rfl rfl ?_
    have c31 := h.1
    replace h := h.2
    refine g_aald 58 (31 + 1 * Int.toNat _) gq11 rfl rfl (by decide) rfl c31 (by rw [Nat.one_mul]; rfl) ?_
    refine g_iload 60 gq11 rfl rfl rfl ?_
    refine g_lald 61 gq11 rfl rfl (shXA c31) c23 ?_
    refine g_lload 63 gq11 rfl rfl rfl ?_
    refine g_lmul 64 gq11 rfl rfl ?_
    refine g_lsub 65 gq11 rfl rfl ?_
    refine g_iload 67 gq11 rfl rfl rfl ?_
    have c40 := h.1
    replace h := h.2
    refine g_i2l 68 gq11 rfl rfl c40 ?_
    refine g_static 219 _ (i := 82) gq11 rfl rfl gq219 rfl rfl rfl rfl ?_
    refine kGo.mono h (fun r W1 hr => ?_)
    obtain ⟨y1, rfl, h⟩ := hr
    refine g_last 72 gq11 rfl rfl (shXA c14) c23 ?_
    refine g_iinc 75 gq11 rfl rfl rfl rfl ?_
    refine g_goto 23 gq11 rfl rfl ?_
    exact kGo.weak (km_Le.s (km_Le.s (km_Le.s (km_Le.n (km_Le.s (km_Le.s (km_Le.n (km_Le.s (km_Le.n (km_Le.s km_Le.nil)))))))))) h

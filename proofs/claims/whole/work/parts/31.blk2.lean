set_option maxRecDepth 10000 in
theorem b21_0 {xs : Nat → Int32} {Lx d : Nat} {V : km_V} {Q : Option Value → km_V → Prop} {t : Nat} (ht : km_sh[t]? = some (2, 11)) {r1 : Nat} (hr1 : km_sh[r1]? = some (5, 5))
    (h : kCV xs Lx (d + 1) 22 7 [.ref t, .ref r1] V (fun W1 =>
  kCV xs Lx (d + 1) 23 5 [.ref t, .ref r1] W1 (fun W2 =>
  kCV xs Lx (d + 1) 25 9 [.ref t, kI (2 * (2 * (W2 r1 1)))] W2 (fun W3 =>
  kGo xs Lx (d + 2) 21 22 [some (.ref t), some (.ref r1), some (kI 0)] [] W3 Q)))) :
    kGo xs Lx (d + 2) 21 0 [some (.ref t), some (.ref r1), none] [] V Q := by
  refine g_aload_n 1 gq21 rfl rfl rfl ?_
  refine g_aload_n 2 gq21 rfl rfl rfl ?_
  refine g_virt 22 _ (i := 42) gq21 rfl rfl gq22 ht rfl rfl rfl rfl rfl ?_
  refine kGo.mono h (fun r W1 hr => ?_)
  obtain ⟨rfl, h⟩ := hr
  refine g_aload_n 6 gq21 rfl rfl rfl ?_
  refine g_aload_n 7 gq21 rfl rfl rfl ?_
  refine g_virt 23 _ (i := 46) gq21 rfl rfl gq23 ht rfl rfl rfl rfl rfl ?_
  refine kGo.mono h (fun r W2 hr => ?_)
  obtain ⟨rfl, h⟩ := hr
  refine g_aload_n 11 gq21 rfl rfl rfl ?_
  refine g_iconst 12 gq21 rfl rfl ?_
  refine g_aload_n 13 gq21 rfl rfl rfl ?_
  refine g_virt 59 _ (i := 49) gq21 rfl rfl gq59 hr1 rfl rfl rfl rfl rfl ?_
  refine g_iconst 1 gq59 rfl rfl ?_
  refine g_aload_n 2 gq59 rfl rfl rfl ?_
  refine g_getI 5 gq59 rfl rfl rfl hr1 rfl rfl ?_
  refine g_imul 6 gq59 rfl rfl ?_
  refine g_iret gq59 rfl rfl ?_
  refine g_imul 17 gq21 rfl rfl ?_
  refine g_virt 25 _ (i := 55) gq21 rfl rfl gq25 ht rfl rfl rfl rfl rfl ?_
  refine kGo.mono h (fun r W3 hr => ?_)
  obtain ⟨rfl, h⟩ := hr
  refine g_iconst 21 gq21 rfl rfl ?_
  refine g_istore_n 22 gq21 rfl rfl rfl ?_
  exact kGo.weak (km_Le.s (km_Le.s (km_Le.s km_Le.nil))) h
set_option maxRecDepth 10000 in
theorem b21_22 {xs : Nat → Int32} {Lx d : Nat} {V : km_V} {Q : Option Value → km_V → Prop} {x2 : Int} {q0 : Nat} (hq0 : km_sh[q0]? = some (2, 11)) {q1 : Nat} (hq1 : km_sh[q1]? = some (5, 5))
    (h : (kR x2) ∧ (kR (V q0 7)) ∧ (((V q0 7) ≤ x2 →
    Q none V) ∧
   (x2 < (V q0 7) →
    kCI xs Lx (d + 1) 26 7 [.ref q0, .ref q1, kI x2] V (fun y1 W1 =>
    (0 ≤ x2 ∧ x2 < (32 : Nat)) ∧ kGo xs Lx (d + 2) 21 22 [some (.ref q0), some (.ref q1), some (kI (x2 + 1))] [] (up W1 (q0 + 10) (Int.toNat x2) y1) Q)))) :
    kGo xs Lx (d + 2) 21 22 [some (.ref q0), some (.ref q1), some (kI x2)] [] V Q := by
  refine g_iload_n 23 gq21 rfl rfl rfl ?_
  refine g_aload_n 24 gq21 rfl rfl rfl ?_
  refine g_getI 27 gq21 rfl rfl rfl hq0 rfl rfl ?_
  have c3 := h.1
  replace h := h.2
  have c5 := h.1
  replace h := h.2
  refine g_icmp_ge 48 30 gq21 rfl rfl rfl c3 c5 (fun c => ?_) (fun c => ?_)
  · replace h := h.1 c
    exact g_vret gq21 rfl rfl h
  · replace h := h.2 c
    refine g_aload_n 31 gq21 rfl rfl rfl ?_
    refine g_getA 34 (q0 + 10) gq21 rfl rfl rfl hq0 rfl rfl (rfD10 hq0) ?_
    refine g_iload_n 35 gq21 rfl rfl rfl ?_
    refine g_aload_n 36 gq21 rfl rfl rfl ?_
    refine g_aload_n 37 gq21 rfl rfl rfl ?_
    refine g_iload_n 38 gq21 rfl rfl rfl ?_
    refine g_virt 26 _ (i := 63) gq21 rfl rfl gq26 hq0 rfl rfl rfl rfl rfl ?_
    refine kGo.mono h (fun r W1 hr => ?_)
    obtain ⟨y1, rfl, h⟩ := hr
    have c20 := h.1
    replace h := h.2
    refine g_iast 42 gq21 rfl rfl (shD10 hq0) c20 ?_
    refine g_iinc 45 gq21 rfl rfl rfl rfl ?_
    refine g_goto 22 gq21 rfl rfl ?_
    exact kGo.weak (km_Le.s (km_Le.s (km_Le.s km_Le.nil))) h
set_option maxRecDepth 10000 in
theorem b22_0 {xs : Nat → Int32} {Lx d : Nat} {V : km_V} {Q : Option Value → km_V → Prop} {t : Nat} (ht : km_sh[t]? = some (2, 11)) {r1 : Nat} (hr1 : km_sh[r1]? = some (5, 5))
    (h : kGo xs Lx (d + 0) 22 2 [some (.ref t), some (.ref r1), some (kI 0), none, none, none, none] [] V Q) :
    kGo xs Lx (d + 0) 22 0 [some (.ref t), some (.ref r1), none, none, none, none, none] [] V Q := by
  refine g_iconst 1 gq22 rfl rfl ?_
  refine g_istore_n 2 gq22 rfl rfl rfl ?_
  exact kGo.weak (km_Le.s (km_Le.s (km_Le.s (km_Le.n (km_Le.n (km_Le.n (km_Le.n km_Le.nil))))))) h
set_option maxRecDepth 10000 in
theorem b22_2 {xs : Nat → Int32} {Lx d : Nat} {V : km_V} {Q : Option Value → km_V → Prop} {x2 : Int} {q0 : Nat} (hq0 : km_sh[q0]? = some (2, 11)) {q1 : Nat} (hq1 : km_sh[q1]? = some (5, 5))
    (h : (kR x2) ∧ (kR (V q1 0)) ∧ (((V q1 0) ≤ x2 →
    Q none V) ∧
   (x2 < (V q1 0) →
    (0 ≤ x2 ∧ x2 < (5 : Nat)) ∧ (∀ z1 : Int, z1 = (V (q1 + 1) (Int.toNat x2)) → (0 ≤ (x2 + 1) ∧ (x2 + 1) < (5 : Nat)) ∧ (∀ z2 : Int, z2 = (V (q1 + 1) (Int.toNat (x2 + 1))) → kGo xs Lx (d + 0) 22 30 [some (.ref q0), some (.ref q1), some (kI x2), some (kI z1), some (kI z2), some (kI z1), none] [] V Q))))) :
    kGo xs Lx (d + 0) 22 2 [some (.ref q0), some (.ref q1), some (kI x2), none, none, none, none] [] V Q := by
  refine g_iload_n 3 gq22 rfl rfl rfl ?_
  refine g_aload_n 4 gq22 rfl rfl rfl ?_
  refine g_getI 7 gq22 rfl rfl rfl hq1 rfl rfl ?_
  have c3 := h.1
  replace h := h.2
  have c5 := h.1
  replace h := h.2
  refine g_icmp_ge 94 10 gq22 rfl rfl rfl c3 c5 (fun c => ?_) (fun c => ?_)
  · replace h := h.1 c
    exact g_vret gq22 rfl rfl h
  · replace h := h.2 c
    refine g_aload_n 11 gq22 rfl rfl rfl ?_
    refine g_getA 14 (q1 + 1) gq22 rfl rfl rfl hq1 rfl rfl (rfR2 hq1) ?_
    refine g_iload_n 15 gq22 rfl rfl rfl ?_
    have c14 := h.1
    replace h := h.2
    refine g_iald 16 gq22 rfl rfl (shR2 hq1) c14 ?_
    refine g_istore_n 17 gq22 rfl rfl rfl ?_
    replace h := h _ rfl
    refine g_aload_n 18 gq22 rfl rfl rfl ?_
    refine g_getA 21 (q1 + 1) gq22 rfl rfl rfl hq1 rfl rfl (rfR2 hq1) ?_
    refine g_iload_n 22 gq22 rfl rfl rfl ?_
    refine g_iconst 23 gq22 rfl rfl ?_
    refine g_iadd 24 gq22 rfl rfl ?_
    have c24 := h.1
    replace h := h.2
    refine g_iald 25 gq22 rfl rfl (shR2 hq1) c24 ?_
    refine g_istore 27 gq22 rfl rfl rfl ?_
    replace h := h _ rfl
    refine g_iload_n 28 gq22 rfl rfl rfl ?_
    refine g_istore 30 gq22 rfl rfl rfl ?_
    exact kGo.weak (km_Le.s (km_Le.s (km_Le.s (km_Le.s (km_Le.s (km_Le.s (km_Le.n km_Le.nil))))))) h
set_option maxRecDepth 10000 in
theorem b22_30 {xs : Nat → Int32} {Lx d : Nat} {V : km_V} {Q : Option Value → km_V → Prop} {x2 x3 x4 x5 : Int} {q0 : Nat} (hq0 : km_sh[q0]? = some (2, 11)) {q1 : Nat} (hq1 : km_sh[q1]? = some (5, 5))
    (h : (kR x5) ∧ (kR x4) ∧ ((x4 ≤ x5 →
    kGo xs Lx (d + 0) 22 2 [some (.ref q0), some (.ref q1), some (kI (x2 + 1)), none, none, none, none] [] V Q) ∧
   (x5 < x4 →
    (kR (x5 + 1)) ∧ ((x4 ≤ (x5 + 1) →
      (0 ≤ x5 ∧ x5 < (16 : Nat)) ∧ (0 ≤ x3 ∧ x3 < (16 : Nat)) ∧ kGo xs Lx (d + 0) 22 30 [some (.ref q0), some (.ref q1), some (kI x2), some (kI x3), some (kI x4), some (kI (x5 + 1)), none] [] (up (up (up V (q0 + 1) (Int.toNat x5) x3) (q0 + 2) (Int.toNat x3) x5) (q0 + 3) (Int.toNat x5) x2) Q) ∧
     ((x5 + 1) < x4 →
      (0 ≤ x5 ∧ x5 < (16 : Nat)) ∧ (0 ≤ (x5 + 1) ∧ (x5 + 1) < (16 : Nat)) ∧ kGo xs Lx (d + 0) 22 30 [some (.ref q0), some (.ref q1), some (kI x2), some (kI x3), some (kI x4), some (kI (x5 + 1)), none] [] (up (up (up V (q0 + 1) (Int.toNat x5) (x5 + 1)) (q0 + 2) (Int.toNat (x5 + 1)) x5) (q0 + 3) (Int.toNat x5) x2) Q))))) :
    kGo xs Lx (d + 0) 22 30 [some (.ref q0), some (.ref q1), some (kI x2), some (kI x3), some (kI x4), some (kI x5), none] [] V Q := by
  refine g_iload 32 gq22 rfl rfl rfl ?_
  refine g_iload 34 gq22 rfl rfl rfl ?_
  have c2 := h.1
  replace h := h.2
  have c4 := h.1
  replace h := h.2
  refine g_icmp_ge 88 37 gq22 rfl rfl rfl c2 c4 (fun c => ?_) (fun c => ?_)
  · replace h := h.1 c
    refine g_iinc 91 gq22 rfl rfl rfl rfl ?_
    refine g_goto 2 gq22 rfl rfl ?_
    exact kGo.weak (km_Le.s (km_Le.s (km_Le.s (km_Le.n (km_Le.n (km_Le.n (km_Le.n km_Le.nil))))))) h
  · replace h := h.2 c
    refine g_iload 39 gq22 rfl rfl rfl ?_
    refine g_iconst 40 gq22 rfl rfl ?_
    refine g_iadd 41 gq22 rfl rfl ?_
    refine g_iload 43 gq22 rfl rfl rfl ?_
    have c16 := h.1
    replace h := h.2
    refine g_icmp_ge 53 46 gq22 rfl rfl rfl c16 c4 (fun c => ?_) (fun c => ?_)
    · replace h := h.1 c
      refine g_iload_n 54 gq22 rfl rfl rfl ?_
      refine g_istore 56 gq22 rfl rfl rfl ?_
      refine g_aload_n 57 gq22 rfl rfl rfl ?_
      refine g_getA 60 (q0 + 1) gq22 rfl rfl rfl hq0 rfl rfl (rfD0 hq0) ?_
      refine g_iload 62 gq22 rfl rfl rfl ?_
      refine g_iload 64 gq22 rfl rfl rfl ?_
      have c26 := h.1
      replace h := h.2
      refine g_iast 65 gq22 rfl rfl (shD0 hq0) c26 ?_
      refine g_aload_n 66 gq22 rfl rfl rfl ?_
      refine g_getA 69 (q0 + 2) gq22 rfl rfl rfl hq0 rfl rfl (rfD1 hq0) ?_
      refine g_iload 71 gq22 rfl rfl rfl ?_
      refine g_iload 73 gq22 rfl rfl rfl ?_
      have c33 := h.1
      replace h := h.2
      refine g_iast 74 gq22 rfl rfl (shD1 hq0) c33 ?_
      refine g_aload_n 75 gq22 rfl rfl rfl ?_
      refine g_getA 78 (q0 + 3) gq22 rfl rfl rfl hq0 rfl rfl (rfD2 hq0) ?_
      refine g_iload 80 gq22 rfl rfl rfl ?_
      refine g_iload_n 81 gq22 rfl rfl rfl ?_
      refine g_iast 82 gq22 rfl rfl (shD2 hq0) c26 ?_
      refine g_iinc 85 gq22 rfl rfl rfl rfl ?_
      refine g_goto 30 gq22 rfl rfl ?_
      exact kGo.weak (km_Le.s (km_Le.s (km_Le.s (km_Le.s (km_Le.s (km_Le.s (km_Le.n km_Le.nil))))))) h
    · replace h := h.2 c
      refine g_iload 48 gq22 rfl rfl rfl ?_
      refine g_iconst 49 gq22 rfl rfl ?_
      refine g_iadd 50 gq22 rfl rfl ?_
      refine g_goto 54 gq22 rfl rfl ?_
      refine g_istore 56 gq22 rfl rfl rfl ?_
      refine g_aload_n 57 gq22 rfl rfl rfl ?_
      refine g_getA 60 (q0 + 1) gq22 rfl rfl rfl hq0 rfl rfl (rfD0 hq0) ?_
      refine g_iload 62 gq22 rfl rfl rfl ?_
      refine g_iload 64 gq22 rfl rfl rfl ?_
      have c54 := h.1
      replace h := h.2
      refine g_iast 65 gq22 rfl rfl (shD0 hq0) c54 ?_
      refine g_aload_n 66 gq22 rfl rfl rfl ?_
      refine g_getA 69 (q0 + 2) gq22 rfl rfl rfl hq0 rfl rfl (rfD1 hq0) ?_
      refine g_iload 71 gq22 rfl rfl rfl ?_
      refine g_iload 73 gq22 rfl rfl rfl ?_
      have c61 := h.1
      replace h := h.2
      refine g_iast 74 gq22 rfl rfl (shD1 hq0) c61 ?_
      refine g_aload_n 75 gq22 rfl rfl rfl ?_
      refine g_getA 78 (q0 + 3) gq22 rfl rfl rfl hq0 rfl rfl (rfD2 hq0) ?_
      refine g_iload 80 gq22 rfl rfl rfl ?_
      refine g_iload_n 81 gq22 rfl rfl rfl ?_
      refine g_iast 82 gq22 rfl rfl (shD2 hq0) c54 ?_
      refine g_iinc 85 gq22 rfl rfl rfl rfl ?_
      refine g_goto 30 gq22 rfl rfl ?_
      exact kGo.weak (km_Le.s (km_Le.s (km_Le.s (km_Le.s (km_Le.s (km_Le.s (km_Le.n km_Le.nil))))))) h
set_option maxRecDepth 10000 in
theorem b23_0 {xs : Nat → Int32} {Lx d : Nat} {V : km_V} {Q : Option Value → km_V → Prop} {t : Nat} (ht : km_sh[t]? = some (2, 11)) {r1 : Nat} (hr1 : km_sh[r1]? = some (5, 5))
    (h : kGo xs Lx (d + 1) 23 2 [some (.ref t), some (.ref r1), some (kI 0), none, none] [] V Q) :
    kGo xs Lx (d + 1) 23 0 [some (.ref t), some (.ref r1), none, none, none] [] V Q := by
  refine g_iconst 1 gq23 rfl rfl ?_
  refine g_istore_n 2 gq23 rfl rfl rfl ?_
  exact kGo.weak (km_Le.s (km_Le.s (km_Le.s (km_Le.n (km_Le.n km_Le.nil))))) h
set_option maxRecDepth 10000 in
theorem b23_2 {xs : Nat → Int32} {Lx d : Nat} {V : km_V} {Q : Option Value → km_V → Prop} {x2 : Int} {q0 : Nat} (hq0 : km_sh[q0]? = some (2, 11)) {q1 : Nat} (hq1 : km_sh[q1]? = some (5, 5))
    (h : (kR x2) ∧ (kR (2 * (V q1 1))) ∧ (((2 * (V q1 1)) ≤ x2 →
    Q none V) ∧
   (x2 < (2 * (V q1 1)) →
    (0 ≤ x2 ∧ x2 < (16 : Nat)) ∧ (kR (V (q1 + 2) (Int.toNat x2))) ∧ (∀ z1 : Int, z1 = ((V (q1 + 2) (Int.toNat x2)) / 2) → (0 ≤ x2 ∧ x2 < (16 : Nat)) ∧ (kR ((V (q1 + 2) (Int.toNat x2)) % 2)) ∧ ((((V (q1 + 2) (Int.toNat x2)) % 2) ≠ 1 →
      (0 ≤ z1 ∧ z1 < (8 : Nat)) ∧ kGo xs Lx (d + 1) 23 60 [some (.ref q0), some (.ref q1), some (kI x2), some (kI z1), some (kI 0)] [] (up V (q0 + 5) (Int.toNat z1) x2) Q) ∧
     (((V (q1 + 2) (Int.toNat x2)) % 2) = 1 →
      (0 ≤ z1 ∧ z1 < (8 : Nat)) ∧ (kR (V (q1 + 3) (Int.toNat z1))) ∧ (((V (q1 + 3) (Int.toNat z1)) ≤ 0 →
        kGo xs Lx (d + 1) 23 60 [some (.ref q0), some (.ref q1), some (kI x2), some (kI z1), some (kI 1)] [] (up V (q0 + 4) (Int.toNat z1) x2) Q) ∧
       (0 < (V (q1 + 3) (Int.toNat z1)) →
        kGo xs Lx (d + 1) 23 60 [some (.ref q0), some (.ref q1), some (kI x2), some (kI z1), some (kI 3)] [] (up V (q0 + 4) (Int.toNat z1) x2) Q)))))))) :
    kGo xs Lx (d + 1) 23 2 [some (.ref q0), some (.ref q1), some (kI x2), none, none] [] V Q := by
  refine g_iload_n 3 gq23 rfl rfl rfl ?_
  refine g_aload_n 4 gq23 rfl rfl rfl ?_
  refine g_virt 59 _ (i := 49) gq23 rfl rfl gq59 hq1 rfl rfl rfl rfl rfl ?_
  refine g_iconst 1 gq59 rfl rfl ?_
  refine g_aload_n 2 gq59 rfl rfl rfl ?_
  refine g_getI 5 gq59 rfl rfl rfl hq1 rfl rfl ?_
  refine g_imul 6 gq59 rfl rfl ?_
  refine g_iret gq59 rfl rfl ?_
  have c8 := h.1
  replace h := h.2
  have c10 := h.1
  replace h := h.2
  refine g_icmp_ge 101 10 gq23 rfl rfl rfl c8 c10 (fun c => ?_) (fun c => ?_)
  · replace h := h.1 c
    exact g_vret gq23 rfl rfl h
  · replace h := h.2 c
    refine g_aload_n 11 gq23 rfl rfl rfl ?_
    refine g_iload_n 12 gq23 rfl rfl rfl ?_
    refine g_virt 61 _ (i := 73) gq23 rfl rfl gq61 hq1 rfl rfl rfl rfl rfl ?_
    refine g_aload_n 1 gq61 rfl rfl rfl ?_
    refine g_getA 4 (q1 + 2) gq61 rfl rfl rfl hq1 rfl rfl (rfR3 hq1) ?_
    refine g_iload_n 5 gq61 rfl rfl rfl ?_
    have c22 := h.1
    replace h := h.2
    refine g_iald 6 gq61 rfl rfl (shR3 hq1) c22 ?_
    refine g_iconst 7 gq61 rfl rfl ?_
    have c26 := h.1
    replace h := h.2
    refine g_ishr 8 gq61 rfl rfl c26 (by omega) ?_
    refine g_iret gq61 rfl rfl ?_
    refine g_istore_n 16 gq23 rfl rfl rfl ?_
    replace h := h _ rfl
    refine g_iconst 17 gq23 rfl rfl ?_
    refine g_istore 19 gq23 rfl rfl rfl ?_
    refine g_aload_n 20 gq23 rfl rfl rfl ?_
    refine g_iload_n 21 gq23 rfl rfl rfl ?_
    refine g_virt 62 _ (i := 77) gq23 rfl rfl gq62 hq1 rfl rfl rfl rfl rfl ?_
    refine g_aload_n 1 gq62 rfl rfl rfl ?_
    refine g_getA 4 (q1 + 2) gq62 rfl rfl rfl hq1 rfl rfl (rfR3 hq1) ?_
    refine g_iload_n 5 gq62 rfl rfl rfl ?_
    have c40 := h.1
    replace h := h.2
    refine g_iald 6 gq62 rfl rfl (shR3 hq1) c40 ?_
    refine g_iconst 7 gq62 rfl rfl ?_
    refine g_iandM 8 1 gq62 rfl rfl (by decide) rfl ?_
    refine g_iconst 9 gq62 rfl rfl ?_
    have c46 := h.1
    replace h := h.2
    refine g_icmp_ne 16 12 gq62 rfl rfl rfl c46 (by omega) (fun c => ?_) (fun c => ?_)
    · replace h := h.1 c
      refine g_iconst 17 gq62 rfl rfl ?_
      refine g_zret gq62 rfl rfl (by omega) ?_
      refine g_if_eq 53 27 gq23 rfl rfl rfl (by omega) (fun c => ?_) (fun c => ?_)
      rotate_left
      · exact absurd c (by decide)
      refine g_aload_n 54 gq23 rfl rfl rfl ?_
      refine g_getA 57 (q0 + 5) gq23 rfl rfl rfl hq0 rfl rfl (rfD4 hq0) ?_
      refine g_iload_n 58 gq23 rfl rfl rfl ?_
      refine g_iload_n 59 gq23 rfl rfl rfl ?_
      have c59 := h.1
      replace h := h.2
      refine g_iast 60 gq23 rfl rfl (shD4 hq0) c59 ?_
      exact kGo.weak (km_Le.s (km_Le.s (km_Le.s (km_Le.s (km_Le.s km_Le.nil))))) h
    · replace h := h.2 c
      refine g_iconst 13 gq62 rfl rfl ?_
      refine g_goto 17 gq62 rfl rfl ?_
      refine g_zret gq62 rfl rfl (by omega) ?_
      refine g_if_eq 53 27 gq23 rfl rfl rfl (by omega) (fun c => ?_) (fun c => ?_)
      · exact absurd c (by decide)
      refine g_aload_n 28 gq23 rfl rfl rfl ?_
      refine g_getA 31 (q1 + 3) gq23 rfl rfl rfl hq1 rfl rfl (rfR4 hq1) ?_
      refine g_iload_n 32 gq23 rfl rfl rfl ?_
      have c72 := h.1
      replace h := h.2
      refine g_iald 33 gq23 rfl rfl (shR4 hq1) c72 ?_
      have c75 := h.1
      replace h := h.2
      refine g_if_le 40 36 gq23 rfl rfl rfl c75 (fun c => ?_) (fun c => ?_)
      · replace h := h.1 c
        refine g_iconst 41 gq23 rfl rfl ?_
        refine g_istore 43 gq23 rfl rfl rfl ?_
        refine g_aload_n 44 gq23 rfl rfl rfl ?_
        refine g_getA 47 (q0 + 4) gq23 rfl rfl rfl hq0 rfl rfl (rfD3 hq0) ?_
        refine g_iload_n 48 gq23 rfl rfl rfl ?_
        refine g_iload_n 49 gq23 rfl rfl rfl ?_
        refine g_iast 50 gq23 rfl rfl (shD3 hq0) c72 ?_
        refine g_goto 60 gq23 rfl rfl ?_
        exact kGo.weak (km_Le.s (km_Le.s (km_Le.s (km_Le.s (km_Le.s km_Le.nil))))) h
      · replace h := h.2 c
        refine g_iconst 37 gq23 rfl rfl ?_
        refine g_goto 41 gq23 rfl rfl ?_
        refine g_istore 43 gq23 rfl rfl rfl ?_
        refine g_aload_n 44 gq23 rfl rfl rfl ?_
        refine g_getA 47 (q0 + 4) gq23 rfl rfl rfl hq0 rfl rfl (rfD3 hq0) ?_
        refine g_iload_n 48 gq23 rfl rfl rfl ?_
        refine g_iload_n 49 gq23 rfl rfl rfl ?_
        refine g_iast 50 gq23 rfl rfl (shD3 hq0) c72 ?_
        refine g_goto 60 gq23 rfl rfl ?_
        exact kGo.weak (km_Le.s (km_Le.s (km_Le.s (km_Le.s (km_Le.s km_Le.nil))))) h
set_option maxRecDepth 10000 in
theorem b23_60 {xs : Nat → Int32} {Lx d : Nat} {V : km_V} {Q : Option Value → km_V → Prop} {x2 x3 x4 : Int} {q0 : Nat} (hq0 : km_sh[q0]? = some (2, 11)) {q1 : Nat} (hq1 : km_sh[q1]? = some (5, 5))
    (h : (0 ≤ x2 ∧ x2 < (16 : Nat)) ∧ (0 ≤ ((4 * x3) + x4) ∧ ((4 * x3) + x4) < (32 : Nat)) ∧ (0 ≤ ((2 * (V (q0 + 2) (Int.toNat x2))) + 1)) ∧ (0 ≤ ((Int.toNat ((2 * (V (q0 + 2) (Int.toNat x2))) + 1) ^^^ Int.toNat 1 : Nat) : Int) ∧ ((Int.toNat ((2 * (V (q0 + 2) (Int.toNat x2))) + 1) ^^^ Int.toNat 1 : Nat) : Int) < (32 : Nat)) ∧ (0 ≤ x4) ∧ (0 ≤ ((4 * x3) + ((Int.toNat x4 ^^^ Int.toNat 2 : Nat) : Int)) ∧ ((4 * x3) + ((Int.toNat x4 ^^^ Int.toNat 2 : Nat) : Int)) < (32 : Nat)) ∧ (0 ≤ (2 * x2)) ∧ (0 ≤ ((Int.toNat (2 * x2) ^^^ Int.toNat 1 : Nat) : Int) ∧ ((Int.toNat (2 * x2) ^^^ Int.toNat 1 : Nat) : Int) < (32 : Nat)) ∧ kGo xs Lx (d + 1) 23 2 [some (.ref q0), some (.ref q1), some (kI (x2 + 1)), none, none] [] (up (up (up (up V (q0 + 6) (Int.toNat ((4 * x3) + x4)) ((2 * (V (q0 + 2) (Int.toNat x2))) + 1)) (q0 + 7) (Int.toNat ((Int.toNat ((2 * (V (q0 + 2) (Int.toNat x2))) + 1) ^^^ Int.toNat 1 : Nat) : Int)) ((4 * x3) + x4)) (q0 + 6) (Int.toNat ((4 * x3) + ((Int.toNat x4 ^^^ Int.toNat 2 : Nat) : Int))) (2 * x2)) (q0 + 7) (Int.toNat ((Int.toNat (2 * x2) ^^^ Int.toNat 1 : Nat) : Int)) ((4 * x3) + ((Int.toNat x4 ^^^ Int.toNat 2 : Nat) : Int))) Q) :
    kGo xs Lx (d + 1) 23 60 [some (.ref q0), some (.ref q1), some (kI x2), some (kI x3), some (kI x4)] [] V Q := by
  refine g_aload_n 61 gq23 rfl rfl rfl ?_
  refine g_iconst 62 gq23 rfl rfl ?_
  refine g_iload_n 63 gq23 rfl rfl rfl ?_
  refine g_imul 64 gq23 rfl rfl ?_
  refine g_iload 66 gq23 rfl rfl rfl ?_
  refine g_iadd 67 gq23 rfl rfl ?_
  refine g_iconst 68 gq23 rfl rfl ?_
  refine g_aload_n 69 gq23 rfl rfl rfl ?_
  refine g_getA 72 (q0 + 2) gq23 rfl rfl rfl hq0 rfl rfl (rfD1 hq0) ?_
  refine g_iload_n 73 gq23 rfl rfl rfl ?_
  have c10 := h.1
  replace h := h.2
  refine g_iald 74 gq23 rfl rfl (shD1 hq0) c10 ?_
  refine g_imul 75 gq23 rfl rfl ?_
  refine g_iconst 76 gq23 rfl rfl ?_
  refine g_iadd 77 gq23 rfl rfl ?_
  refine g_virt 24 _ (i := 84) gq23 rfl rfl gq24 hq0 rfl rfl rfl rfl rfl ?_
  refine g_aload_n 1 gq24 rfl rfl rfl ?_
  refine g_getA 4 (q0 + 6) gq24 rfl rfl rfl hq0 rfl rfl (rfD5 hq0) ?_
  refine g_iload_n 5 gq24 rfl rfl rfl ?_
  refine g_iload_n 6 gq24 rfl rfl rfl ?_
  have c21 := h.1
  replace h := h.2
  refine g_iast 7 gq24 rfl rfl (shD5 hq0) c21 ?_
  refine g_aload_n 8 gq24 rfl rfl rfl ?_
  refine g_getA 11 (q0 + 7) gq24 rfl rfl rfl hq0 rfl rfl (rfD6 hq0) ?_
  refine g_iload_n 12 gq24 rfl rfl rfl ?_
  refine g_iconst 13 gq24 rfl rfl ?_
  have c28 := h.1
  replace h := h.2
  refine g_ixor 14 gq24 rfl rfl c28 (by omega) ?_
  refine g_iload_n 15 gq24 rfl rfl rfl ?_
  have c32 := h.1
  replace h := h.2
  refine g_iast 16 gq24 rfl rfl (shD6 hq0) c32 ?_
  refine g_vret gq24 rfl rfl ?_
  refine g_aload_n 81 gq23 rfl rfl rfl ?_
  refine g_iconst 82 gq23 rfl rfl ?_
  refine g_iload_n 83 gq23 rfl rfl rfl ?_
  refine g_imul 84 gq23 rfl rfl ?_
  refine g_iload 86 gq23 rfl rfl rfl ?_
  refine g_iconst 87 gq23 rfl rfl ?_
  have c42 := h.1
  replace h := h.2
  refine g_ixor 88 gq23 rfl rfl c42 (by omega) ?_
  refine g_iadd 89 gq23 rfl rfl ?_
  refine g_iconst 90 gq23 rfl rfl ?_
  refine g_iload_n 91 gq23 rfl rfl rfl ?_
  refine g_imul 92 gq23 rfl rfl ?_
  refine g_virt 24 _ (i := 84) gq23 rfl rfl gq24 hq0 rfl rfl rfl rfl rfl ?_
  refine g_aload_n 1 gq24 rfl rfl rfl ?_
  refine g_getA 4 (q0 + 6) gq24 rfl rfl rfl hq0 rfl rfl (rfD5 hq0) ?_
  refine g_iload_n 5 gq24 rfl rfl rfl ?_
  refine g_iload_n 6 gq24 rfl rfl rfl ?_
  have c54 := h.1
  replace h := h.2
  refine g_iast 7 gq24 rfl rfl (shD5 hq0) c54 ?_
  refine g_aload_n 8 gq24 rfl rfl rfl ?_
  refine g_getA 11 (q0 + 7) gq24 rfl rfl rfl hq0 rfl rfl (rfD6 hq0) ?_
  refine g_iload_n 12 gq24 rfl rfl rfl ?_
  refine g_iconst 13 gq24 rfl rfl ?_
  have c61 := h.1
  replace h := h.2
  refine g_ixor 14 gq24 rfl rfl c61 (by omega) ?_
  refine g_iload_n 15 gq24 rfl rfl rfl ?_
  have c65 := h.1
  replace h := h.2
  refine g_iast 16 gq24 rfl rfl (shD6 hq0) c65 ?_
  refine g_vret gq24 rfl rfl ?_
  refine g_iinc 98 gq23 rfl rfl rfl rfl ?_
  refine g_goto 2 gq23 rfl rfl ?_
  exact kGo.weak (km_Le.s (km_Le.s (km_Le.s (km_Le.n (km_Le.n km_Le.nil))))) h
set_option maxRecDepth 10000 in
theorem b24_0 {xs : Nat → Int32} {Lx d : Nat} {V : km_V} {Q : Option Value → km_V → Prop} {a1 a2 : Int} {t : Nat} (ht : km_sh[t]? = some (2, 11))
    (h : (0 ≤ a1 ∧ a1 < (32 : Nat)) ∧ (0 ≤ a2) ∧ (0 ≤ ((Int.toNat a2 ^^^ Int.toNat 1 : Nat) : Int) ∧ ((Int.toNat a2 ^^^ Int.toNat 1 : Nat) : Int) < (32 : Nat)) ∧ Q none (up (up V (t + 6) (Int.toNat a1) a2) (t + 7) (Int.toNat ((Int.toNat a2 ^^^ Int.toNat 1 : Nat) : Int)) a1)) :
    kGo xs Lx (d + 0) 24 0 [some (.ref t), some (kI a1), some (kI a2)] [] V Q := by
  refine g_aload_n 1 gq24 rfl rfl rfl ?_
  refine g_getA 4 (t + 6) gq24 rfl rfl rfl ht rfl rfl (rfD5 ht) ?_
  refine g_iload_n 5 gq24 rfl rfl rfl ?_
  refine g_iload_n 6 gq24 rfl rfl rfl ?_
  have c4 := h.1
  replace h := h.2
  refine g_iast 7 gq24 rfl rfl (shD5 ht) c4 ?_
  refine g_aload_n 8 gq24 rfl rfl rfl ?_
  refine g_getA 11 (t + 7) gq24 rfl rfl rfl ht rfl rfl (rfD6 ht) ?_
  refine g_iload_n 12 gq24 rfl rfl rfl ?_
  refine g_iconst 13 gq24 rfl rfl ?_
  have c11 := h.1
  replace h := h.2
  refine g_ixor 14 gq24 rfl rfl c11 (by omega) ?_
  refine g_iload_n 15 gq24 rfl rfl rfl ?_
  have c15 := h.1
  replace h := h.2
  refine g_iast 16 gq24 rfl rfl (shD6 ht) c15 ?_
  exact g_vret gq24 rfl rfl h
set_option maxRecDepth 10000 in
theorem b25_0 {xs : Nat → Int32} {Lx d : Nat} {V : km_V} {Q : Option Value → km_V → Prop} {a1 : Int} {t : Nat} (ht : km_sh[t]? = some (2, 11))
    (h : kGo xs Lx (d + 0) 25 13 [some (.ref t), some (kI a1), some (kJ 0), none, some (kI 0), some (kI 0), none, none, none] [] (up V t 7 0) Q) :
    kGo xs Lx (d + 0) 25 0 [some (.ref t), some (kI a1), none, none, none, none, none, none, none] [] V Q := by
  refine g_lconst 1 0 gq25 rfl rfl rfl ?_
  refine g_lstore_n 2 gq25 rfl rfl rfl ?_
  refine g_iconst 3 gq25 rfl rfl ?_
  refine g_istore 5 gq25 rfl rfl rfl ?_
  refine g_aload_n 6 gq25 rfl rfl rfl ?_
  refine g_iconst 7 gq25 rfl rfl ?_
  refine g_putI 10 gq25 rfl rfl rfl ht rfl rfl rfl rfl ?_
  refine g_iconst 11 gq25 rfl rfl ?_
  refine g_istore 13 gq25 rfl rfl rfl ?_
  exact kGo.weak (km_Le.s (km_Le.s (km_Le.s (km_Le.n (km_Le.s (km_Le.s (km_Le.n (km_Le.n (km_Le.n km_Le.nil))))))))) h
set_option maxRecDepth 10000 in
theorem b25_13 {xs : Nat → Int32} {Lx d : Nat} {V : km_V} {Q : Option Value → km_V → Prop} {x1 x2 x4 x5 : Int} {q0 : Nat} (hq0 : km_sh[q0]? = some (2, 11))
    (h : (kR x5) ∧ (kR x1) ∧ ((x1 ≤ x5 →
    (0 ≤ (V q0 7) ∧ (V q0 7) < (33 : Nat)) ∧ Q none (up V (q0 + 9) (Int.toNat (V q0 7)) x4)) ∧
   (x5 < x1 →
    (kR64 x2) ∧ (0 ≤ x5 ∧ x5 < 64) ∧ (kR64 ((x2 / ((2 ^ Int.toNat x5 : Nat) : Int)) % 2)) ∧ (kR (kcmp ((x2 / ((2 ^ Int.toNat x5 : Nat) : Int)) % 2) 1)) ∧ (((kcmp ((x2 / ((2 ^ Int.toNat x5 : Nat) : Int)) % 2) 1) ≠ 0 →
      (0 ≤ (V q0 7) ∧ (V q0 7) < (33 : Nat)) ∧ kGo xs Lx (d + 0) 25 51 [some (.ref q0), some (kI x1), some (kJ x2), none, some (kI x4), some (kI x5), some (kI x5), some (kI 0), none] [] (up V (q0 + 9) (Int.toNat (V q0 7)) x4) Q) ∧
     ((kcmp ((x2 / ((2 ^ Int.toNat x5 : Nat) : Int)) % 2) 1) = 0 →
      kGo xs Lx (d + 0) 25 13 [some (.ref q0), some (kI x1), some (kJ x2), none, some (kI x4), some (kI (x5 + 1)), none, none, none] [] V Q))))) :
    kGo xs Lx (d + 0) 25 13 [some (.ref q0), some (kI x1), some (kJ x2), none, some (kI x4), some (kI x5), none, none, none] [] V Q := by
  refine g_iload 15 gq25 rfl rfl rfl ?_
  refine g_iload_n 16 gq25 rfl rfl rfl ?_
  have c2 := h.1
  replace h := h.2
  have c4 := h.1
  replace h := h.2
  refine g_icmp_ge 137 19 gq25 rfl rfl rfl c2 c4 (fun c => ?_) (fun c => ?_)
  · replace h := h.1 c
    refine g_aload_n 138 gq25 rfl rfl rfl ?_
    refine g_getA 141 (q0 + 9) gq25 rfl rfl rfl hq0 rfl rfl (rfD9 hq0) ?_
    refine g_aload_n 142 gq25 rfl rfl rfl ?_
    refine g_getI 145 gq25 rfl rfl rfl hq0 rfl rfl ?_
    refine g_iload 147 gq25 rfl rfl rfl ?_
    have c13 := h.1
    replace h := h.2
    refine g_iast 148 gq25 rfl rfl (shD9 hq0) c13 ?_
    exact g_vret gq25 rfl rfl h
  · replace h := h.2 c
    refine g_lload_n 20 gq25 rfl rfl rfl ?_
    refine g_iload 22 gq25 rfl rfl rfl ?_
    have c20 := h.1
    replace h := h.2
    have c22 := h.1
    replace h := h.2
    refine g_lshr 23 gq25 rfl rfl c20 c22 ?_
    refine g_lconst 24 1 gq25 rfl rfl rfl ?_
    refine g_landM 25 1 gq25 rfl rfl (by decide) rfl ?_
    refine g_lconst 26 1 gq25 rfl rfl rfl ?_
    have c28 := h.1
    replace h := h.2
    refine g_lcmp 27 gq25 rfl rfl c28 (by omega) ?_
    have c31 := h.1
    replace h := h.2
    refine g_if_ne 33 30 gq25 rfl rfl rfl c31 (fun c => ?_) (fun c => ?_)
    · replace h := h.1 c
      refine g_aload_n 34 gq25 rfl rfl rfl ?_
      refine g_getA 37 (q0 + 9) gq25 rfl rfl rfl hq0 rfl rfl (rfD9 hq0) ?_
      refine g_aload_n 38 gq25 rfl rfl rfl ?_
      refine g_getI 41 gq25 rfl rfl rfl hq0 rfl rfl ?_
      refine g_iload 43 gq25 rfl rfl rfl ?_
      have c40 := h.1
      replace h := h.2
      refine g_iast 44 gq25 rfl rfl (shD9 hq0) c40 ?_
      refine g_iload 46 gq25 rfl rfl rfl ?_
      refine g_istore 48 gq25 rfl rfl rfl ?_
      refine g_iconst 49 gq25 rfl rfl ?_
      refine g_istore 51 gq25 rfl rfl rfl ?_
      exact kGo.weak (km_Le.s (km_Le.s (km_Le.s (km_Le.n (km_Le.s (km_Le.s (km_Le.s (km_Le.s (km_Le.n km_Le.nil))))))))) h
    · replace h := h.2 c
      refine g_goto 131 gq25 rfl rfl ?_
      refine g_iinc 134 gq25 rfl rfl rfl rfl ?_
      refine g_goto 13 gq25 rfl rfl ?_
      exact kGo.weak (km_Le.s (km_Le.s (km_Le.s (km_Le.n (km_Le.s (km_Le.s (km_Le.n (km_Le.n (km_Le.n km_Le.nil))))))))) h
set_option maxRecDepth 10000 in
theorem b25_51 {xs : Nat → Int32} {Lx d : Nat} {V : km_V} {Q : Option Value → km_V → Prop} {x1 x2 x4 x5 x6 x7 : Int} {q0 : Nat} (hq0 : km_sh[q0]? = some (2, 11))
    (h : (kR x7) ∧ (kR x1) ∧ ((x1 ≤ x7 →
    kGo xs Lx (d + 0) 25 13 [some (.ref q0), some (kI x1), some (kJ x2), none, some (kI x4), some (kI (x5 + 1)), none, none, none] [] (up V q0 7 ((V q0 7) + 1)) Q) ∧
   (x7 < x1 →
    (kR64 x2) ∧ (0 ≤ x6 ∧ x6 < 64) ∧ (kR64 ((x2 / ((2 ^ Int.toNat x6 : Nat) : Int)) % 2)) ∧ (kR (kcmp ((x2 / ((2 ^ Int.toNat x6 : Nat) : Int)) % 2) 0)) ∧ (((kcmp ((x2 / ((2 ^ Int.toNat x6 : Nat) : Int)) % 2) 0) ≠ 0 →
      kGo xs Lx (d + 0) 25 13 [some (.ref q0), some (kI x1), some (kJ x2), none, some (kI x4), some (kI (x5 + 1)), none, none, none] [] (up V q0 7 ((V q0 7) + 1)) Q) ∧
     ((kcmp ((x2 / ((2 ^ Int.toNat x6 : Nat) : Int)) % 2) 0) = 0 →
      (0 ≤ x2) ∧ (0 ≤ (1 * ((2 ^ Int.toNat x6 : Nat) : Int))) ∧ (∀ z1 : Int, z1 = ((Int.toNat x2 ||| Int.toNat (1 * ((2 ^ Int.toNat x6 : Nat) : Int)) : Nat) : Int) → (0 ≤ x4 ∧ x4 < (32 : Nat)) ∧ (0 ≤ x6 ∧ x6 < (32 : Nat)) ∧ (∀ z2 : Int, z2 = ((up V (q0 + 8) (Int.toNat x4) x6) (q0 + 7) (Int.toNat x6)) → (0 ≤ z2 ∧ z2 < 64) ∧ (0 ≤ (z2 - z2 % 4)) ∧ (0 ≤ ((z2 + 1) % 4)) ∧ (0 ≤ ((Int.toNat (z2 - z2 % 4) ||| Int.toNat ((z2 + 1) % 4) : Nat) : Int) ∧ ((Int.toNat (z2 - z2 % 4) ||| Int.toNat ((z2 + 1) % 4) : Nat) : Int) < (32 : Nat)) ∧ (∀ z3 : Int, z3 = ((up V (q0 + 8) (Int.toNat x4) x6) (q0 + 6) (Int.toNat ((Int.toNat (z2 - z2 % 4) ||| Int.toNat ((z2 + 1) % 4) : Nat) : Int))) → kGo xs Lx (d + 0) 25 51 [some (.ref q0), some (kI x1), some (kJ z1), none, some (kI (x4 + 1)), some (kI x5), some (kI z3), some (kI (x7 + 1)), none] [] (up V (q0 + 8) (Int.toNat x4) x6) Q)))))))) :
    kGo xs Lx (d + 0) 25 51 [some (.ref q0), some (kI x1), some (kJ x2), none, some (kI x4), some (kI x5), some (kI x6), some (kI x7), none] [] V Q := by
  refine g_iload 53 gq25 rfl rfl rfl ?_
  refine g_iload_n 54 gq25 rfl rfl rfl ?_
  have c2 := h.1
  replace h := h.2
  have c4 := h.1
  replace h := h.2
  refine g_icmp_ge 121 57 gq25 rfl rfl rfl c2 c4 (fun c => ?_) (fun c => ?_)
  · replace h := h.1 c
    refine g_aload_n 122 gq25 rfl rfl rfl ?_
    refine g_dup 123 gq25 rfl rfl rfl ?_
    refine g_getI 126 gq25 rfl rfl rfl hq0 rfl rfl ?_
    refine g_iconst 127 gq25 rfl rfl ?_
    refine g_iadd 128 gq25 rfl rfl ?_
    refine g_putI 131 gq25 rfl rfl rfl hq0 rfl rfl rfl rfl ?_
    refine g_iinc 134 gq25 rfl rfl rfl rfl ?_
    refine g_goto 13 gq25 rfl rfl ?_
    exact kGo.weak (km_Le.s (km_Le.s (km_Le.s (km_Le.n (km_Le.s (km_Le.s (km_Le.n (km_Le.n (km_Le.n km_Le.nil))))))))) h
  · replace h := h.2 c
    refine g_lload_n 58 gq25 rfl rfl rfl ?_
    refine g_iload 60 gq25 rfl rfl rfl ?_
    have c20 := h.1
    replace h := h.2
    have c22 := h.1
    replace h := h.2
    refine g_lshr 61 gq25 rfl rfl c20 c22 ?_
    refine g_lconst 62 1 gq25 rfl rfl rfl ?_
    refine g_landM 63 1 gq25 rfl rfl (by decide) rfl ?_
    refine g_lconst 64 0 gq25 rfl rfl rfl ?_
    have c28 := h.1
    replace h := h.2
    refine g_lcmp 65 gq25 rfl rfl c28 (by omega) ?_
    have c31 := h.1
    replace h := h.2
    refine g_if_ne 121 68 gq25 rfl rfl rfl c31 (fun c => ?_) (fun c => ?_)
    · replace h := h.1 c
      refine g_aload_n 122 gq25 rfl rfl rfl ?_
      refine g_dup 123 gq25 rfl rfl rfl ?_
      refine g_getI 126 gq25 rfl rfl rfl hq0 rfl rfl ?_
      refine g_iconst 127 gq25 rfl rfl ?_
      refine g_iadd 128 gq25 rfl rfl ?_
      refine g_putI 131 gq25 rfl rfl rfl hq0 rfl rfl rfl rfl ?_
      refine g_iinc 134 gq25 rfl rfl rfl rfl ?_
      refine g_goto 13 gq25 rfl rfl ?_
      exact kGo.weak (km_Le.s (km_Le.s (km_Le.s (km_Le.n (km_Le.s (km_Le.s (km_Le.n (km_Le.n (km_Le.n km_Le.nil))))))))) h
    · replace h := h.2 c
      refine g_lload_n 69 gq25 rfl rfl rfl ?_
      refine g_lconst 70 1 gq25 rfl rfl rfl ?_
      refine g_iload 72 gq25 rfl rfl rfl ?_
      refine g_lshl 73 gq25 rfl rfl c22 ?_
      have c49 := h.1
      replace h := h.2
      have c51 := h.1
      replace h := h.2
      refine g_lor 74 gq25 rfl rfl c49 c51 ?_
      refine g_lstore_n 75 gq25 rfl rfl rfl ?_
      replace h := h _ rfl
      refine g_aload_n 76 gq25 rfl rfl rfl ?_
      refine g_getA 79 (q0 + 8) gq25 rfl rfl rfl hq0 rfl rfl (rfD8 hq0) ?_
      refine g_iload 81 gq25 rfl rfl rfl ?_
      refine g_iload 83 gq25 rfl rfl rfl ?_
      have c60 := h.1
      replace h := h.2
      refine g_iast 84 gq25 rfl rfl (shD8 hq0) c60 ?_
      refine g_iinc 87 gq25 rfl rfl rfl rfl ?_
      refine g_aload_n 88 gq25 rfl rfl rfl ?_
      refine g_getA 91 (q0 + 7) gq25 rfl rfl rfl hq0 rfl rfl (rfD6 hq0) ?_
      refine g_iload 93 gq25 rfl rfl rfl ?_
      have c67 := h.1
      replace h := h.2
      refine g_iald 94 gq25 rfl rfl (shD6 hq0) c67 ?_
      refine g_istore 96 gq25 rfl rfl rfl ?_
      replace h := h _ rfl
      refine g_aload_n 97 gq25 rfl rfl rfl ?_
      refine g_getA 100 (q0 + 6) gq25 rfl rfl rfl hq0 rfl rfl (rfD5 hq0) ?_
      refine g_iload 102 gq25 rfl rfl rfl ?_
      refine g_bipush 104 gq25 rfl rfl rfl ?_
      have c76 := h.1
      replace h := h.2
      refine g_iandN 105 gq25 rfl rfl c76 ?_
      refine g_iload 107 gq25 rfl rfl rfl ?_
      refine g_iconst 108 gq25 rfl rfl ?_
      refine g_iadd 109 gq25 rfl rfl ?_
      refine g_iconst 110 gq25 rfl rfl ?_
      refine g_iandM 111 2 gq25 rfl rfl (by decide) rfl ?_
      have c84 := h.1
      replace h := h.2
      have c86 := h.1
      replace h := h.2
      refine g_ior 112 gq25 rfl rfl c84 c86 ?_
      have c89 := h.1
      replace h := h.2
      refine g_iald 113 gq25 rfl rfl (shD5 hq0) c89 ?_
      refine g_istore 115 gq25 rfl rfl rfl ?_
      replace h := h _ rfl
      refine g_iinc 118 gq25 rfl rfl rfl rfl ?_
      refine g_goto 51 gq25 rfl rfl ?_
      exact kGo.weak (km_Le.s (km_Le.s (km_Le.s (km_Le.n (km_Le.s (km_Le.s (km_Le.s (km_Le.s (km_Le.n km_Le.nil))))))))) h
set_option maxRecDepth 10000 in
theorem b26_0 {xs : Nat → Int32} {Lx d : Nat} {V : km_V} {Q : Option Value → km_V → Prop} {a2 : Int} {t : Nat} (ht : km_sh[t]? = some (2, 11)) {r1 : Nat} (hr1 : km_sh[r1]? = some (5, 5))
    (h : (0 ≤ (a2 + 1) ∧ (a2 + 1) < (33 : Nat)) ∧ (0 ≤ a2 ∧ a2 < (33 : Nat)) ∧ (∀ z1 : Int, z1 = ((V (t + 9) (Int.toNat (a2 + 1))) - (V (t + 9) (Int.toNat a2))) → (kR z1) ∧ ((z1 ≠ 1 →
    ((3 < z1 →
      Q (some (kI 0)) V) ∧
     (z1 ≤ 3 →
      kCI xs Lx (d + 0) 28 4 [.ref t, kI a2] V (fun y2 W2 =>
      ((0 ≤ y2 ∧ y2 < 256)) ∧ (kR (kbit y2)) ∧ (((kbit y2) = z1 →
        (0 ≤ a2 ∧ a2 < (33 : Nat)) ∧ (∀ z3 : Int, z3 = (W2 (t + 9) (Int.toNat a2)) → kGo xs Lx (d + 1) 26 43 [some (.ref t), some (.ref r1), some (kI a2), some (kI z1), some (kI 0), some (kI z3), none] [] W2 Q)) ∧
       ((kbit y2) ≠ z1 →
        Q (some (kI 0)) W2)))))) ∧
   (z1 = 1 →
    Q (some (kI 1)) V)))) :
    kGo xs Lx (d + 1) 26 0 [some (.ref t), some (.ref r1), some (kI a2), none, none, none, none] [] V Q := by
  refine g_aload_n 1 gq26 rfl rfl rfl ?_
  refine g_iload_n 2 gq26 rfl rfl rfl ?_
  refine g_virt 27 _ (i := 88) gq26 rfl rfl gq27 ht rfl rfl rfl rfl rfl ?_
  refine g_aload_n 1 gq27 rfl rfl rfl ?_
  refine g_getA 4 (t + 9) gq27 rfl rfl rfl ht rfl rfl (rfD9 ht) ?_
  refine g_iload_n 5 gq27 rfl rfl rfl ?_
  refine g_iconst 6 gq27 rfl rfl ?_
  refine g_iadd 7 gq27 rfl rfl ?_
  have c8 := h.1
  replace h := h.2
  refine g_iald 8 gq27 rfl rfl (shD9 ht) c8 ?_
  refine g_aload_n 9 gq27 rfl rfl rfl ?_
  refine g_getA 12 (t + 9) gq27 rfl rfl rfl ht rfl rfl (rfD9 ht) ?_
  refine g_iload_n 13 gq27 rfl rfl rfl ?_
  have c14 := h.1
  replace h := h.2
  refine g_iald 14 gq27 rfl rfl (shD9 ht) c14 ?_
  refine g_isub 15 gq27 rfl rfl ?_
  refine g_iret gq27 rfl rfl ?_
  refine g_istore_n 6 gq26 rfl rfl rfl ?_
  replace h := h _ rfl
  refine g_iload_n 7 gq26 rfl rfl rfl ?_
  refine g_iconst 8 gq26 rfl rfl ?_
  have c23 := h.1
  replace h := h.2
  refine g_icmp_ne 13 11 gq26 rfl rfl rfl c23 (by omega) (fun c => ?_) (fun c => ?_)
  · replace h := h.1 c
    refine g_iload_n 14 gq26 rfl rfl rfl ?_
    refine g_iconst 15 gq26 rfl rfl ?_
    refine g_icmp_gt 30 18 gq26 rfl rfl rfl c23 (by omega) (fun c => ?_) (fun c => ?_)
    · replace h := h.1 c
      refine g_iconst 31 gq26 rfl rfl ?_
      exact g_iret gq26 rfl rfl h
    · replace h := h.2 c
      refine g_aload_n 19 gq26 rfl rfl rfl ?_
      refine g_iload_n 20 gq26 rfl rfl rfl ?_
      refine g_virt 28 _ (i := 91) gq26 rfl rfl gq28 ht rfl rfl rfl rfl rfl ?_
      refine kGo.mono h (fun r W2 hr => ?_)
      obtain ⟨y2, rfl, h⟩ := hr
      have c39 := h.1
      replace h := h.2
      refine g_static 218 _ (i := 94) gq26 rfl rfl gq218 rfl rfl rfl rfl ?_
      refine sp_bit c39 ?_
      refine g_iload_n 27 gq26 rfl rfl rfl ?_
      have c44 := h.1
      replace h := h.2
      refine g_icmp_eq 32 30 gq26 rfl rfl rfl c44 c23 (fun c => ?_) (fun c => ?_)
      · replace h := h.1 c
        refine g_iconst 33 gq26 rfl rfl ?_
        refine g_istore 35 gq26 rfl rfl rfl ?_
        refine g_aload_n 36 gq26 rfl rfl rfl ?_
        refine g_getA 39 (t + 9) gq26 rfl rfl rfl ht rfl rfl (rfD9 ht) ?_
        refine g_iload_n 40 gq26 rfl rfl rfl ?_
        have c53 := h.1
        replace h := h.2
        refine g_iald 41 gq26 rfl rfl (shD9 ht) c53 ?_
        refine g_istore 43 gq26 rfl rfl rfl ?_
        replace h := h _ rfl
        exact kGo.weak (km_Le.s (km_Le.s (km_Le.s (km_Le.s (km_Le.s (km_Le.s (km_Le.n km_Le.nil))))))) h
      · replace h := h.2 c
        refine g_iconst 31 gq26 rfl rfl ?_
        exact g_iret gq26 rfl rfl h
  · replace h := h.2 c
    refine g_iconst 12 gq26 rfl rfl ?_
    exact g_iret gq26 rfl rfl h
set_option maxRecDepth 10000 in
theorem b26_43 {xs : Nat → Int32} {Lx d : Nat} {V : km_V} {Q : Option Value → km_V → Prop} {x2 x3 x4 x5 : Int} {q0 : Nat} (hq0 : km_sh[q0]? = some (2, 11)) {q1 : Nat} (hq1 : km_sh[q1]? = some (5, 5))
    (h : (0 ≤ (x2 + 1) ∧ (x2 + 1) < (33 : Nat)) ∧ (kR x5) ∧ (kR (V (q0 + 9) (Int.toNat (x2 + 1)))) ∧ (((V (q0 + 9) (Int.toNat (x2 + 1))) ≤ x5 →
    (kR x3) ∧ ((x3 ≠ 2 →
      (kR x4) ∧ ((x4 ≠ 7 →
        Q (some (kI 0)) V) ∧
       (x4 = 7 →
        Q (some (kI 3)) V))) ∧
     (x3 = 2 →
      (kR x4) ∧ ((x4 ≠ 5 →
        Q (some (kI 0)) V) ∧
       (x4 = 5 →
        Q (some (kI 2)) V))))) ∧
   (x5 < (V (q0 + 9) (Int.toNat (x2 + 1))) →
    (0 ≤ x5 ∧ x5 < (32 : Nat)) ∧ (kR (V (q0 + 8) (Int.toNat x5))) ∧ (∀ z1 : Int, z1 = ((V (q0 + 8) (Int.toNat x5)) / 2) → (0 ≤ z1 ∧ z1 < (16 : Nat)) ∧ (0 ≤ (V (q0 + 1) (Int.toNat z1)) ∧ (V (q0 + 1) (Int.toNat z1)) < (16 : Nat)) ∧ (0 ≤ (((V (q1 + 2) (Int.toNat z1)) % 2) + ((V (q1 + 2) (Int.toNat (V (q0 + 1) (Int.toNat z1)))) % 2)) ∧ (((V (q1 + 2) (Int.toNat z1)) % 2) + ((V (q1 + 2) (Int.toNat (V (q0 + 1) (Int.toNat z1)))) % 2)) < 32) ∧ (0 ≤ x4) ∧ (0 ≤ (1 * ((2 ^ Int.toNat (((V (q1 + 2) (Int.toNat z1)) % 2) + ((V (q1 + 2) (Int.toNat (V (q0 + 1) (Int.toNat z1)))) % 2)) : Nat) : Int))) ∧ (∀ z2 : Int, z2 = ((Int.toNat x4 ||| Int.toNat (1 * ((2 ^ Int.toNat (((V (q1 + 2) (Int.toNat z1)) % 2) + ((V (q1 + 2) (Int.toNat (V (q0 + 1) (Int.toNat z1)))) % 2)) : Nat) : Int)) : Nat) : Int) → kGo xs Lx (d + 1) 26 43 [some (.ref q0), some (.ref q1), some (kI x2), some (kI x3), some (kI z2), some (kI (x5 + 1)), none] [] V Q))))) :
    kGo xs Lx (d + 1) 26 43 [some (.ref q0), some (.ref q1), some (kI x2), some (kI x3), some (kI x4), some (kI x5), none] [] V Q := by
  refine g_iload 45 gq26 rfl rfl rfl ?_
  refine g_aload_n 46 gq26 rfl rfl rfl ?_
  refine g_getA 49 (q0 + 9) gq26 rfl rfl rfl hq0 rfl rfl (rfD9 hq0) ?_
  refine g_iload_n 50 gq26 rfl rfl rfl ?_
  refine g_iconst 51 gq26 rfl rfl ?_
  refine g_iadd 52 gq26 rfl rfl ?_
  have c6 := h.1
  replace h := h.2
  refine g_iald 53 gq26 rfl rfl (shD9 hq0) c6 ?_
  have c9 := h.1
  replace h := h.2
  have c11 := h.1
  replace h := h.2
  refine g_icmp_ge 104 56 gq26 rfl rfl rfl c9 c11 (fun c => ?_) (fun c => ?_)
  · replace h := h.1 c
    refine g_iload_n 105 gq26 rfl rfl rfl ?_
    refine g_iconst 106 gq26 rfl rfl ?_
    have c17 := h.1
    replace h := h.2
    refine g_icmp_ne 121 109 gq26 rfl rfl rfl c17 (by omega) (fun c => ?_) (fun c => ?_)
    · replace h := h.1 c
      refine g_iload 123 gq26 rfl rfl rfl ?_
      refine g_bipush 125 gq26 rfl rfl rfl ?_
      have c23 := h.1
      replace h := h.2
      refine g_icmp_ne 132 128 gq26 rfl rfl rfl c23 (by omega) (fun c => ?_) (fun c => ?_)
      · replace h := h.1 c
        refine g_iconst 133 gq26 rfl rfl ?_
        exact g_iret gq26 rfl rfl h
      · replace h := h.2 c
        refine g_iconst 129 gq26 rfl rfl ?_
        refine g_goto 133 gq26 rfl rfl ?_
        exact g_iret gq26 rfl rfl h
    · replace h := h.2 c
      refine g_iload 111 gq26 rfl rfl rfl ?_
      refine g_iconst 112 gq26 rfl rfl ?_
      have c36 := h.1
      replace h := h.2
      refine g_icmp_ne 119 115 gq26 rfl rfl rfl c36 (by omega) (fun c => ?_) (fun c => ?_)
      · replace h := h.1 c
        refine g_iconst 120 gq26 rfl rfl ?_
        exact g_iret gq26 rfl rfl h
      · replace h := h.2 c
        refine g_iconst 116 gq26 rfl rfl ?_
        refine g_goto 120 gq26 rfl rfl ?_
        exact g_iret gq26 rfl rfl h
  · replace h := h.2 c
    refine g_aload_n 57 gq26 rfl rfl rfl ?_
    refine g_getA 60 (q0 + 8) gq26 rfl rfl rfl hq0 rfl rfl (rfD8 hq0) ?_
    refine g_iload 62 gq26 rfl rfl rfl ?_
    have c50 := h.1
    replace h := h.2
    refine g_iald 63 gq26 rfl rfl (shD8 hq0) c50 ?_
    refine g_iconst 64 gq26 rfl rfl ?_
    have c54 := h.1
    replace h := h.2
    refine g_ishr 65 gq26 rfl rfl c54 (by omega) ?_
    refine g_istore 67 gq26 rfl rfl rfl ?_
    replace h := h _ rfl
    refine g_iload 69 gq26 rfl rfl rfl ?_
    refine g_iconst 70 gq26 rfl rfl ?_
    refine g_aload_n 71 gq26 rfl rfl rfl ?_
    refine g_getA 74 (q1 + 2) gq26 rfl rfl rfl hq1 rfl rfl (rfR3 hq1) ?_
    refine g_iload 76 gq26 rfl rfl rfl ?_
    have c64 := h.1
    replace h := h.2
    refine g_iald 77 gq26 rfl rfl (shR3 hq1) c64 ?_
    refine g_iconst 78 gq26 rfl rfl ?_
    refine g_iandM 79 1 gq26 rfl rfl (by decide) rfl ?_
    refine g_aload_n 80 gq26 rfl rfl rfl ?_
    refine g_getA 83 (q1 + 2) gq26 rfl rfl rfl hq1 rfl rfl (rfR3 hq1) ?_
    refine g_aload_n 84 gq26 rfl rfl rfl ?_
    refine g_getA 87 (q0 + 1) gq26 rfl rfl rfl hq0 rfl rfl (rfD0 hq0) ?_
    refine g_iload 89 gq26 rfl rfl rfl ?_
    refine g_iald 90 gq26 rfl rfl (shD0 hq0) c64 ?_
    have c75 := h.1
    replace h := h.2
    refine g_iald 91 gq26 rfl rfl (shR3 hq1) c75 ?_
    refine g_iconst 92 gq26 rfl rfl ?_
    refine g_iandM 93 1 gq26 rfl rfl (by decide) rfl ?_
    refine g_iadd 94 gq26 rfl rfl ?_
    have c81 := h.1
    replace h := h.2
    refine g_ishl 95 gq26 rfl rfl c81 ?_
    have c84 := h.1
    replace h := h.2
    have c86 := h.1
    replace h := h.2
    refine g_ior 96 gq26 rfl rfl c84 c86 ?_
    refine g_istore 98 gq26 rfl rfl rfl ?_
    replace h := h _ rfl
    refine g_iinc 101 gq26 rfl rfl rfl rfl ?_
    refine g_goto 43 gq26 rfl rfl ?_
    exact kGo.weak (km_Le.s (km_Le.s (km_Le.s (km_Le.s (km_Le.s (km_Le.s (km_Le.n km_Le.nil))))))) h
set_option maxRecDepth 10000 in
theorem b27_0 {xs : Nat → Int32} {Lx d : Nat} {V : km_V} {Q : Option Value → km_V → Prop} {a1 : Int} {t : Nat} (ht : km_sh[t]? = some (2, 11))
    (h : (0 ≤ (a1 + 1) ∧ (a1 + 1) < (33 : Nat)) ∧ (0 ≤ a1 ∧ a1 < (33 : Nat)) ∧ Q (some (kI ((V (t + 9) (Int.toNat (a1 + 1))) - (V (t + 9) (Int.toNat a1))))) V) :
    kGo xs Lx (d + 0) 27 0 [some (.ref t), some (kI a1)] [] V Q := by
  refine g_aload_n 1 gq27 rfl rfl rfl ?_
  refine g_getA 4 (t + 9) gq27 rfl rfl rfl ht rfl rfl (rfD9 ht) ?_
  refine g_iload_n 5 gq27 rfl rfl rfl ?_
  refine g_iconst 6 gq27 rfl rfl ?_
  refine g_iadd 7 gq27 rfl rfl ?_
  have c5 := h.1
  replace h := h.2
  refine g_iald 8 gq27 rfl rfl (shD9 ht) c5 ?_
  refine g_aload_n 9 gq27 rfl rfl rfl ?_
  refine g_getA 12 (t + 9) gq27 rfl rfl rfl ht rfl rfl (rfD9 ht) ?_
  refine g_iload_n 13 gq27 rfl rfl rfl ?_
  have c11 := h.1
  replace h := h.2
  refine g_iald 14 gq27 rfl rfl (shD9 ht) c11 ?_
  refine g_isub 15 gq27 rfl rfl ?_
  exact g_iret gq27 rfl rfl h
set_option maxRecDepth 10000 in
theorem b28_0 {xs : Nat → Int32} {Lx d : Nat} {V : km_V} {Q : Option Value → km_V → Prop} {a1 : Int} {t : Nat} (ht : km_sh[t]? = some (2, 11))
    (h : (0 ≤ a1 ∧ a1 < (33 : Nat)) ∧ (∀ z1 : Int, z1 = (V (t + 9) (Int.toNat a1)) → kGo xs Lx (d + 0) 28 9 [some (.ref t), some (kI a1), some (kI 0), some (kI z1)] [] V Q)) :
    kGo xs Lx (d + 0) 28 0 [some (.ref t), some (kI a1), none, none] [] V Q := by
  refine g_iconst 1 gq28 rfl rfl ?_
  refine g_istore_n 2 gq28 rfl rfl rfl ?_
  refine g_aload_n 3 gq28 rfl rfl rfl ?_
  refine g_getA 6 (t + 9) gq28 rfl rfl rfl ht rfl rfl (rfD9 ht) ?_
  refine g_iload_n 7 gq28 rfl rfl rfl ?_
  have c5 := h.1
  replace h := h.2
  refine g_iald 8 gq28 rfl rfl (shD9 ht) c5 ?_
  refine g_istore_n 9 gq28 rfl rfl rfl ?_
  replace h := h _ rfl
  exact kGo.weak (km_Le.s (km_Le.s (km_Le.s (km_Le.s km_Le.nil)))) h
set_option maxRecDepth 10000 in
theorem b28_9 {xs : Nat → Int32} {Lx d : Nat} {V : km_V} {Q : Option Value → km_V → Prop} {x1 x2 x3 : Int} {q0 : Nat} (hq0 : km_sh[q0]? = some (2, 11))
    (h : (0 ≤ (x1 + 1) ∧ (x1 + 1) < (33 : Nat)) ∧ (kR x3) ∧ (kR (V (q0 + 9) (Int.toNat (x1 + 1)))) ∧ (((V (q0 + 9) (Int.toNat (x1 + 1))) ≤ x3 →
    Q (some (kI x2)) V) ∧
   (x3 < (V (q0 + 9) (Int.toNat (x1 + 1))) →
    (0 ≤ x3 ∧ x3 < (32 : Nat)) ∧ (0 ≤ (V (q0 + 8) (Int.toNat x3)) ∧ (V (q0 + 8) (Int.toNat x3)) < (32 : Nat)) ∧ (kR (V (q0 + 7) (Int.toNat (V (q0 + 8) (Int.toNat x3))))) ∧ (0 ≤ ((V (q0 + 7) (Int.toNat (V (q0 + 8) (Int.toNat x3)))) / 4) ∧ ((V (q0 + 7) (Int.toNat (V (q0 + 8) (Int.toNat x3)))) / 4) < 32) ∧ (0 ≤ x2) ∧ (0 ≤ (1 * ((2 ^ Int.toNat ((V (q0 + 7) (Int.toNat (V (q0 + 8) (Int.toNat x3)))) / 4) : Nat) : Int))) ∧ (∀ z1 : Int, z1 = ((Int.toNat x2 ||| Int.toNat (1 * ((2 ^ Int.toNat ((V (q0 + 7) (Int.toNat (V (q0 + 8) (Int.toNat x3)))) / 4) : Nat) : Int)) : Nat) : Int) → kGo xs Lx (d + 0) 28 9 [some (.ref q0), some (kI x1), some (kI z1), some (kI (x3 + 1))] [] V Q)))) :
    kGo xs Lx (d + 0) 28 9 [some (.ref q0), some (kI x1), some (kI x2), some (kI x3)] [] V Q := by
  refine g_iload_n 10 gq28 rfl rfl rfl ?_
  refine g_aload_n 11 gq28 rfl rfl rfl ?_
  refine g_getA 14 (q0 + 9) gq28 rfl rfl rfl hq0 rfl rfl (rfD9 hq0) ?_
  refine g_iload_n 15 gq28 rfl rfl rfl ?_
  refine g_iconst 16 gq28 rfl rfl ?_
  refine g_iadd 17 gq28 rfl rfl ?_
  have c6 := h.1
  replace h := h.2
  refine g_iald 18 gq28 rfl rfl (shD9 hq0) c6 ?_
  have c9 := h.1
  replace h := h.2
  have c11 := h.1
  replace h := h.2
  refine g_icmp_ge 45 21 gq28 rfl rfl rfl c9 c11 (fun c => ?_) (fun c => ?_)
  · replace h := h.1 c
    refine g_iload_n 46 gq28 rfl rfl rfl ?_
    exact g_iret gq28 rfl rfl h
  · replace h := h.2 c
    refine g_iload_n 22 gq28 rfl rfl rfl ?_
    refine g_iconst 23 gq28 rfl rfl ?_
    refine g_aload_n 24 gq28 rfl rfl rfl ?_
    refine g_getA 27 (q0 + 7) gq28 rfl rfl rfl hq0 rfl rfl (rfD6 hq0) ?_
    refine g_aload_n 28 gq28 rfl rfl rfl ?_
    refine g_getA 31 (q0 + 8) gq28 rfl rfl rfl hq0 rfl rfl (rfD8 hq0) ?_
    refine g_iload_n 32 gq28 rfl rfl rfl ?_
    have c25 := h.1
    replace h := h.2
    refine g_iald 33 gq28 rfl rfl (shD8 hq0) c25 ?_
    have c28 := h.1
    replace h := h.2
    refine g_iald 34 gq28 rfl rfl (shD6 hq0) c28 ?_
    refine g_iconst 35 gq28 rfl rfl ?_
    have c32 := h.1
    replace h := h.2
    refine g_ishr 36 gq28 rfl rfl c32 (by omega) ?_
    have c35 := h.1
    replace h := h.2
    refine g_ishl 37 gq28 rfl rfl c35 ?_
    have c38 := h.1
    replace h := h.2
    have c40 := h.1
    replace h := h.2
    refine g_ior 38 gq28 rfl rfl c38 c40 ?_
    refine g_istore_n 39 gq28 rfl rfl rfl ?_
    replace h := h _ rfl
    refine g_iinc 42 gq28 rfl rfl rfl rfl ?_
    refine g_goto 9 gq28 rfl rfl ?_
    exact kGo.weak (km_Le.s (km_Le.s (km_Le.s (km_Le.s km_Le.nil)))) h
set_option maxRecDepth 10000 in
theorem b29_0 {xs : Nat → Int32} {Lx d : Nat} {V : km_V} {Q : Option Value → km_V → Prop} {a1 a2 : Int} {t : Nat} (ht : km_sh[t]? = some (2, 11))
    (h : (0 ≤ ((4 * a1) + a2) ∧ ((4 * a1) + a2) < (32 : Nat)) ∧ (kR (V (t + 6) (Int.toNat ((4 * a1) + a2)))) ∧ Q (some (kI ((V (t + 6) (Int.toNat ((4 * a1) + a2))) / 2))) V) :
    kGo xs Lx (d + 0) 29 0 [some (.ref t), some (kI a1), some (kI a2)] [] V Q := by
  refine g_aload_n 1 gq29 rfl rfl rfl ?_
  refine g_getA 4 (t + 6) gq29 rfl rfl rfl ht rfl rfl (rfD5 ht) ?_
  refine g_iconst 5 gq29 rfl rfl ?_
  refine g_iload_n 6 gq29 rfl rfl rfl ?_
  refine g_imul 7 gq29 rfl rfl ?_
  refine g_iload_n 8 gq29 rfl rfl rfl ?_
  refine g_iadd 9 gq29 rfl rfl ?_
  have c7 := h.1
  replace h := h.2
  refine g_iald 10 gq29 rfl rfl (shD5 ht) c7 ?_
  refine g_iconst 11 gq29 rfl rfl ?_
  have c11 := h.1
  replace h := h.2
  refine g_ishr 12 gq29 rfl rfl c11 (by omega) ?_
  exact g_iret gq29 rfl rfl h
set_option maxRecDepth 10000 in
theorem b30_0 {xs : Nat → Int32} {Lx d : Nat} {V : km_V} {Q : Option Value → km_V → Prop} {a1 : Int} {t : Nat} (ht : km_sh[t]? = some (2, 11))
    (h : kGo xs Lx (d + 0) 30 4 [some (.ref t), some (kI a1), some (kI 0), some (kI 0)] [] V Q) :
    kGo xs Lx (d + 0) 30 0 [some (.ref t), some (kI a1), none, none] [] V Q := by
  refine g_iconst 1 gq30 rfl rfl ?_
  refine g_istore_n 2 gq30 rfl rfl rfl ?_
  refine g_iconst 3 gq30 rfl rfl ?_
  refine g_istore_n 4 gq30 rfl rfl rfl ?_
  exact kGo.weak (km_Le.s (km_Le.s (km_Le.s (km_Le.s km_Le.nil)))) h
set_option maxRecDepth 10000 in
theorem b30_4 {xs : Nat → Int32} {Lx d : Nat} {V : km_V} {Q : Option Value → km_V → Prop} {x1 x2 x3 : Int} {q0 : Nat} (hq0 : km_sh[q0]? = some (2, 11))
    (h : (kR x3) ∧ (kR (V q0 7)) ∧ (((V q0 7) ≤ x3 →
    Q (some (kI x2)) V) ∧
   (x3 < (V q0 7) →
    (0 ≤ x3 ∧ x3 < (32 : Nat)) ∧ (kR (V (q0 + 10) (Int.toNat x3))) ∧ (kR x1) ∧ (((V (q0 + 10) (Int.toNat x3)) ≠ x1 →
      kGo xs Lx (d + 0) 30 4 [some (.ref q0), some (kI x1), some (kI (x2 + 0)), some (kI (x3 + 1))] [] V Q) ∧
     ((V (q0 + 10) (Int.toNat x3)) = x1 →
      kGo xs Lx (d + 0) 30 4 [some (.ref q0), some (kI x1), some (kI (x2 + 1)), some (kI (x3 + 1))] [] V Q))))) :
    kGo xs Lx (d + 0) 30 4 [some (.ref q0), some (kI x1), some (kI x2), some (kI x3)] [] V Q := by
  refine g_iload_n 5 gq30 rfl rfl rfl ?_
  refine g_aload_n 6 gq30 rfl rfl rfl ?_
  refine g_getI 9 gq30 rfl rfl rfl hq0 rfl rfl ?_
  have c3 := h.1
  replace h := h.2
  have c5 := h.1
  replace h := h.2
  refine g_icmp_ge 36 12 gq30 rfl rfl rfl c3 c5 (fun c => ?_) (fun c => ?_)
  · replace h := h.1 c
    refine g_iload_n 37 gq30 rfl rfl rfl ?_
    exact g_iret gq30 rfl rfl h
  · replace h := h.2 c
    refine g_iload_n 13 gq30 rfl rfl rfl ?_
    refine g_aload_n 14 gq30 rfl rfl rfl ?_
    refine g_getA 17 (q0 + 10) gq30 rfl rfl rfl hq0 rfl rfl (rfD10 hq0) ?_
    refine g_iload_n 18 gq30 rfl rfl rfl ?_
    have c16 := h.1
    replace h := h.2
    refine g_iald 19 gq30 rfl rfl (shD10 hq0) c16 ?_
    refine g_iload_n 20 gq30 rfl rfl rfl ?_
    have c20 := h.1
    replace h := h.2
    have c22 := h.1
    replace h := h.2
    refine g_icmp_ne 27 23 gq30 rfl rfl rfl c20 c22 (fun c => ?_) (fun c => ?_)
    · replace h := h.1 c
      refine g_iconst 28 gq30 rfl rfl ?_
      refine g_iadd 29 gq30 rfl rfl ?_
      refine g_istore_n 30 gq30 rfl rfl rfl ?_
      refine g_iinc 33 gq30 rfl rfl rfl rfl ?_
      refine g_goto 4 gq30 rfl rfl ?_
      exact kGo.weak (km_Le.s (km_Le.s (km_Le.s (km_Le.s km_Le.nil)))) h
    · replace h := h.2 c
      refine g_iconst 24 gq30 rfl rfl ?_
      refine g_goto 28 gq30 rfl rfl ?_
      refine g_iadd 29 gq30 rfl rfl ?_
      refine g_istore_n 30 gq30 rfl rfl rfl ?_
      refine g_iinc 33 gq30 rfl rfl rfl rfl ?_
      refine g_goto 4 gq30 rfl rfl ?_
      exact kGo.weak (km_Le.s (km_Le.s (km_Le.s (km_Le.s km_Le.nil)))) h
set_option maxRecDepth 10000 in
theorem b31_0 {xs : Nat → Int32} {Lx d : Nat} {V : km_V} {Q : Option Value → km_V → Prop} {t : Nat} (ht : km_sh[t]? = some (2, 11))
    (h : kGo xs Lx (d + 0) 31 4 [some (.ref t), some (kI (-1)), some (kI 0)] [] V Q) :
    kGo xs Lx (d + 0) 31 0 [some (.ref t), none, none] [] V Q := by
  refine g_iconst 1 gq31 rfl rfl ?_
  refine g_istore_n 2 gq31 rfl rfl rfl ?_
  refine g_iconst 3 gq31 rfl rfl ?_
  refine g_istore_n 4 gq31 rfl rfl rfl ?_
  exact kGo.weak (km_Le.s (km_Le.s (km_Le.s km_Le.nil))) h
set_option maxRecDepth 10000 in
theorem b31_4 {xs : Nat → Int32} {Lx d : Nat} {V : km_V} {Q : Option Value → km_V → Prop} {x1 x2 : Int} {q0 : Nat} (hq0 : km_sh[q0]? = some (2, 11))
    (h : (kR x2) ∧ (kR (V q0 7)) ∧ (((V q0 7) ≤ x2 →
    Q (some (kI x1)) V) ∧
   (x2 < (V q0 7) →
    (0 ≤ x2 ∧ x2 < (32 : Nat)) ∧ (kR (V (q0 + 10) (Int.toNat x2))) ∧ (((V (q0 + 10) (Int.toNat x2)) ≠ 1 →
      (((V (q0 + 10) (Int.toNat x2)) ≠ 2 →
        kGo xs Lx (d + 0) 31 4 [some (.ref q0), some (kI x1), some (kI (x2 + 1))] [] V Q) ∧
       ((V (q0 + 10) (Int.toNat x2)) = 2 →
        (kR x1) ∧ ((x1 ≠ (-1) →
          kGo xs Lx (d + 0) 31 4 [some (.ref q0), some (kI x1), some (kI (x2 + 1))] [] V Q) ∧
         (x1 = (-1) →
          kGo xs Lx (d + 0) 31 4 [some (.ref q0), some (kI x2), some (kI (x2 + 1))] [] V Q))))) ∧
     ((V (q0 + 10) (Int.toNat x2)) = 1 →
      Q (some (kI x2)) V))))) :
    kGo xs Lx (d + 0) 31 4 [some (.ref q0), some (kI x1), some (kI x2)] [] V Q := by
  refine g_iload_n 5 gq31 rfl rfl rfl ?_
  refine g_aload_n 6 gq31 rfl rfl rfl ?_
  refine g_getI 9 gq31 rfl rfl rfl hq0 rfl rfl ?_
  have c3 := h.1
  replace h := h.2
  have c5 := h.1
  replace h := h.2
  refine g_icmp_ge 47 12 gq31 rfl rfl rfl c3 c5 (fun c => ?_) (fun c => ?_)
  · replace h := h.1 c
    refine g_iload_n 48 gq31 rfl rfl rfl ?_
    exact g_iret gq31 rfl rfl h
  · replace h := h.2 c
    refine g_aload_n 13 gq31 rfl rfl rfl ?_
    refine g_getA 16 (q0 + 10) gq31 rfl rfl rfl hq0 rfl rfl (rfD10 hq0) ?_
    refine g_iload_n 17 gq31 rfl rfl rfl ?_
    have c15 := h.1
    replace h := h.2
    refine g_iald 18 gq31 rfl rfl (shD10 hq0) c15 ?_
    refine g_iconst 19 gq31 rfl rfl ?_
    have c19 := h.1
    replace h := h.2
    refine g_icmp_ne 24 22 gq31 rfl rfl rfl c19 (by omega) (fun c => ?_) (fun c => ?_)
    · replace h := h.1 c
      refine g_aload_n 25 gq31 rfl rfl rfl ?_
      refine g_getA 28 (q0 + 10) gq31 rfl rfl rfl hq0 rfl rfl (rfD10 hq0) ?_
      refine g_iload_n 29 gq31 rfl rfl rfl ?_
      refine g_iald 30 gq31 rfl rfl (shD10 hq0) c15 ?_
      refine g_iconst 31 gq31 rfl rfl ?_
      refine g_icmp_ne 41 34 gq31 rfl rfl rfl c19 (by omega) (fun c => ?_) (fun c => ?_)
      · replace h := h.1 c
        refine g_iinc 44 gq31 rfl rfl rfl rfl ?_
        refine g_goto 4 gq31 rfl rfl ?_
        exact kGo.weak (km_Le.s (km_Le.s (km_Le.s km_Le.nil))) h
      · replace h := h.2 c
        refine g_iload_n 35 gq31 rfl rfl rfl ?_
        refine g_iconst 36 gq31 rfl rfl ?_
        have c36 := h.1
        replace h := h.2
        refine g_icmp_ne 41 39 gq31 rfl rfl rfl c36 (by omega) (fun c => ?_) (fun c => ?_)
        · replace h := h.1 c
          refine g_iinc 44 gq31 rfl rfl rfl rfl ?_
          refine g_goto 4 gq31 rfl rfl ?_
          exact kGo.weak (km_Le.s (km_Le.s (km_Le.s km_Le.nil))) h
        · replace h := h.2 c
          refine g_iload_n 40 gq31 rfl rfl rfl ?_
          refine g_istore_n 41 gq31 rfl rfl rfl ?_
          refine g_iinc 44 gq31 rfl rfl rfl rfl ?_
          refine g_goto 4 gq31 rfl rfl ?_
          exact kGo.weak (km_Le.s (km_Le.s (km_Le.s km_Le.nil))) h
    · replace h := h.2 c
      refine g_iload_n 23 gq31 rfl rfl rfl ?_
      exact g_iret gq31 rfl rfl h
set_option maxRecDepth 10000 in
theorem b32_0 {xs : Nat → Int32} {Lx d : Nat} {V : km_V} {Q : Option Value → km_V → Prop} {t : Nat} (ht : km_sh[t]? = some (2, 11)) {r1 : Nat} (hr1 : km_sh[r1]? = some (5, 5))
    (h : kGo xs Lx (d + 1) 32 7 [some (.ref t), some (.ref r1), some (kI 0), some (kI 0), some (kI 0)] [] V Q) :
    kGo xs Lx (d + 1) 32 0 [some (.ref t), some (.ref r1), none, none, none] [] V Q := by
  refine g_iconst 1 gq32 rfl rfl ?_
  refine g_istore_n 2 gq32 rfl rfl rfl ?_
  refine g_iconst 3 gq32 rfl rfl ?_
  refine g_istore_n 4 gq32 rfl rfl rfl ?_
  refine g_iconst 5 gq32 rfl rfl ?_
  refine g_istore 7 gq32 rfl rfl rfl ?_
  exact kGo.weak (km_Le.s (km_Le.s (km_Le.s (km_Le.s (km_Le.s km_Le.nil))))) h
set_option maxRecDepth 10000 in
theorem b32_7 {xs : Nat → Int32} {Lx d : Nat} {V : km_V} {Q : Option Value → km_V → Prop} {x2 x3 x4 : Int} {q0 : Nat} (hq0 : km_sh[q0]? = some (2, 11)) {q1 : Nat} (hq1 : km_sh[q1]? = some (5, 5))
    (h : (kR x4) ∧ (kR (V q1 0)) ∧ (((V q1 0) ≤ x4 →
    Q (some (kI x2)) V) ∧
   (x4 < (V q1 0) →
    (0 ≤ x4 ∧ x4 < (5 : Nat)) ∧ (0 ≤ (x4 + 1) ∧ (x4 + 1) < (5 : Nat)) ∧ (kR (V (q1 + 1) (Int.toNat x4))) ∧ (kR (V (q1 + 1) (Int.toNat (x4 + 1)))) ∧ (((V (q1 + 1) (Int.toNat (x4 + 1))) ≤ (V (q1 + 1) (Int.toNat x4)) →
      kGo xs Lx (d + 1) 32 7 [some (.ref q0), some (.ref q1), some (kI x2), some (kI x3), some (kI (x4 + 1))] [] V Q) ∧
     ((V (q1 + 1) (Int.toNat x4)) < (V (q1 + 1) (Int.toNat (x4 + 1))) →
      (kR x3) ∧ (0 ≤ x4 ∧ x4 < 32) ∧ (kR ((x3 / ((2 ^ Int.toNat x4 : Nat) : Int)) % 2)) ∧ ((((x3 / ((2 ^ Int.toNat x4 : Nat) : Int)) % 2) ≠ 0 →
        kGo xs Lx (d + 1) 32 7 [some (.ref q0), some (.ref q1), some (kI x2), some (kI x3), some (kI (x4 + 1))] [] V Q) ∧
       (((x3 / ((2 ^ Int.toNat x4 : Nat) : Int)) % 2) = 0 →
        kCI xs Lx (d + 0) 33 7 [.ref q0, .ref q1, kI x4] V (fun y1 W1 =>
        (0 ≤ x3) ∧ (0 ≤ y1) ∧ (∀ z2 : Int, z2 = ((Int.toNat x3 ||| Int.toNat y1 : Nat) : Int) → kGo xs Lx (d + 1) 32 7 [some (.ref q0), some (.ref q1), some (kI (x2 + 1)), some (kI z2), some (kI (x4 + 1))] [] W1 Q))))))))) :
    kGo xs Lx (d + 1) 32 7 [some (.ref q0), some (.ref q1), some (kI x2), some (kI x3), some (kI x4)] [] V Q := by
  refine g_iload 9 gq32 rfl rfl rfl ?_
  refine g_aload_n 10 gq32 rfl rfl rfl ?_
  refine g_getI 13 gq32 rfl rfl rfl hq1 rfl rfl ?_
  have c3 := h.1
  replace h := h.2
  have c5 := h.1
  replace h := h.2
  refine g_icmp_ge 63 16 gq32 rfl rfl rfl c3 c5 (fun c => ?_) (fun c => ?_)
  · replace h := h.1 c
    refine g_iload_n 64 gq32 rfl rfl rfl ?_
    exact g_iret gq32 rfl rfl h
  · replace h := h.2 c
    refine g_aload_n 17 gq32 rfl rfl rfl ?_
    refine g_getA 20 (q1 + 1) gq32 rfl rfl rfl hq1 rfl rfl (rfR2 hq1) ?_
    refine g_iload 22 gq32 rfl rfl rfl ?_
    have c15 := h.1
    replace h := h.2
    refine g_iald 23 gq32 rfl rfl (shR2 hq1) c15 ?_
    refine g_aload_n 24 gq32 rfl rfl rfl ?_
    refine g_getA 27 (q1 + 1) gq32 rfl rfl rfl hq1 rfl rfl (rfR2 hq1) ?_
    refine g_iload 29 gq32 rfl rfl rfl ?_
    refine g_iconst 30 gq32 rfl rfl ?_
    refine g_iadd 31 gq32 rfl rfl ?_
    have c23 := h.1
    replace h := h.2
    refine g_iald 32 gq32 rfl rfl (shR2 hq1) c23 ?_
    have c26 := h.1
    replace h := h.2
    have c28 := h.1
    replace h := h.2
    refine g_icmp_ge 57 35 gq32 rfl rfl rfl c26 c28 (fun c => ?_) (fun c => ?_)
    · replace h := h.1 c
      refine g_iinc 60 gq32 rfl rfl rfl rfl ?_
      refine g_goto 7 gq32 rfl rfl ?_
      exact kGo.weak (km_Le.s (km_Le.s (km_Le.s (km_Le.s (km_Le.s km_Le.nil))))) h
    · replace h := h.2 c
      refine g_iload_n 36 gq32 rfl rfl rfl ?_
      refine g_iload 38 gq32 rfl rfl rfl ?_
      have c38 := h.1
      replace h := h.2
      have c40 := h.1
      replace h := h.2
      refine g_ishr 39 gq32 rfl rfl c38 c40 ?_
      refine g_iconst 40 gq32 rfl rfl ?_
      refine g_iandM 41 1 gq32 rfl rfl (by decide) rfl ?_
      have c45 := h.1
      replace h := h.2
      refine g_if_ne 57 44 gq32 rfl rfl rfl c45 (fun c => ?_) (fun c => ?_)
      · replace h := h.1 c
        refine g_iinc 60 gq32 rfl rfl rfl rfl ?_
        refine g_goto 7 gq32 rfl rfl ?_
        exact kGo.weak (km_Le.s (km_Le.s (km_Le.s (km_Le.s (km_Le.s km_Le.nil))))) h
      · replace h := h.2 c
        refine g_iload_n 45 gq32 rfl rfl rfl ?_
        refine g_aload_n 46 gq32 rfl rfl rfl ?_
        refine g_aload_n 47 gq32 rfl rfl rfl ?_
        refine g_iload 49 gq32 rfl rfl rfl ?_
        refine g_virt 33 _ (i := 102) gq32 rfl rfl gq33 hq0 rfl rfl rfl rfl rfl ?_
        refine kGo.mono h (fun r W1 hr => ?_)
        obtain ⟨y1, rfl, h⟩ := hr
        have c60 := h.1
        replace h := h.2
        have c62 := h.1
        replace h := h.2
        refine g_ior 53 gq32 rfl rfl c60 c62 ?_
        refine g_istore_n 54 gq32 rfl rfl rfl ?_
        replace h := h _ rfl
        refine g_iinc 57 gq32 rfl rfl rfl rfl ?_
        refine g_iinc 60 gq32 rfl rfl rfl rfl ?_
        refine g_goto 7 gq32 rfl rfl ?_
        exact kGo.weak (km_Le.s (km_Le.s (km_Le.s (km_Le.s (km_Le.s km_Le.nil))))) h
set_option maxRecDepth 10000 in
theorem b33_0 {xs : Nat → Int32} {Lx d : Nat} {V : km_V} {Q : Option Value → km_V → Prop} {a2 : Int} {t : Nat} (ht : km_sh[t]? = some (2, 11)) {r1 : Nat} (hr1 : km_sh[r1]? = some (5, 5))
    (h : (0 ≤ a2 ∧ a2 < 32) ∧ (∀ z1 : Int, z1 = (1 * ((2 ^ Int.toNat a2 : Nat) : Int)) → kGo xs Lx (d + 0) 33 7 [some (.ref t), some (.ref r1), none, some (kI z1), some (kI 1), none, none] [] V Q)) :
    kGo xs Lx (d + 0) 33 0 [some (.ref t), some (.ref r1), some (kI a2), none, none, none, none] [] V Q := by
  refine g_iconst 1 gq33 rfl rfl ?_
  refine g_iload_n 2 gq33 rfl rfl rfl ?_
  have c2 := h.1
  replace h := h.2
  refine g_ishl 3 gq33 rfl rfl c2 ?_
  refine g_istore_n 4 gq33 rfl rfl rfl ?_
  replace h := h _ rfl
  refine g_iconst 5 gq33 rfl rfl ?_
  refine g_istore 7 gq33 rfl rfl rfl ?_
  exact kGo.weak (km_Le.s (km_Le.s (km_Le.n (km_Le.s (km_Le.s (km_Le.n (km_Le.n km_Le.nil))))))) h
set_option maxRecDepth 10000 in
theorem b33_7 {xs : Nat → Int32} {Lx d : Nat} {V : km_V} {Q : Option Value → km_V → Prop} {x3 x4 : Int} {q0 : Nat} (hq0 : km_sh[q0]? = some (2, 11)) {q1 : Nat} (hq1 : km_sh[q1]? = some (5, 5))
    (h : (kR x4) ∧ ((4 ≤ x4 →
    Q (some (kI x3)) V) ∧
   (x4 < 4 →
    kGo xs Lx (d + 0) 33 16 [some (.ref q0), some (.ref q1), none, some (kI x3), some (kI x4), some (kI 0), none] [] V Q))) :
    kGo xs Lx (d + 0) 33 7 [some (.ref q0), some (.ref q1), none, some (kI x3), some (kI x4), none, none] [] V Q := by
  refine g_iload 9 gq33 rfl rfl rfl ?_
  refine g_iconst 10 gq33 rfl rfl ?_
  have c2 := h.1
  replace h := h.2
  refine g_icmp_ge 84 13 gq33 rfl rfl rfl c2 (by omega) (fun c => ?_) (fun c => ?_)
  · replace h := h.1 c
    refine g_iload_n 85 gq33 rfl rfl rfl ?_
    exact g_iret gq33 rfl rfl h
  · replace h := h.2 c
    refine g_iconst 14 gq33 rfl rfl ?_
    refine g_istore 16 gq33 rfl rfl rfl ?_
    exact kGo.weak (km_Le.s (km_Le.s (km_Le.n (km_Le.s (km_Le.s (km_Le.s (km_Le.n km_Le.nil))))))) h
set_option maxRecDepth 10000 in
theorem b33_16 {xs : Nat → Int32} {Lx d : Nat} {V : km_V} {Q : Option Value → km_V → Prop} {x3 x4 x5 : Int} {q0 : Nat} (hq0 : km_sh[q0]? = some (2, 11)) {q1 : Nat} (hq1 : km_sh[q1]? = some (5, 5))
    (h : (kR x5) ∧ (kR (V q1 1)) ∧ (((V q1 1) ≤ x5 →
    kGo xs Lx (d + 0) 33 7 [some (.ref q0), some (.ref q1), none, some (kI x3), some (kI (x4 + 1)), none, none] [] V Q) ∧
   (x5 < (V q1 1) →
    (0 ≤ x5 ∧ x5 < (8 : Nat)) ∧ (0 ≤ (V (q0 + 4) (Int.toNat x5)) ∧ (V (q0 + 4) (Int.toNat x5)) < (16 : Nat)) ∧ (0 ≤ (V (q0 + 3) (Int.toNat (V (q0 + 4) (Int.toNat x5)))) ∧ (V (q0 + 3) (Int.toNat (V (q0 + 4) (Int.toNat x5)))) < 32) ∧ (0 ≤ (V (q0 + 5) (Int.toNat x5)) ∧ (V (q0 + 5) (Int.toNat x5)) < (16 : Nat)) ∧ (0 ≤ (V (q0 + 3) (Int.toNat (V (q0 + 5) (Int.toNat x5)))) ∧ (V (q0 + 3) (Int.toNat (V (q0 + 5) (Int.toNat x5)))) < 32) ∧ (0 ≤ (1 * ((2 ^ Int.toNat (V (q0 + 3) (Int.toNat (V (q0 + 4) (Int.toNat x5)))) : Nat) : Int))) ∧ (0 ≤ (1 * ((2 ^ Int.toNat (V (q0 + 3) (Int.toNat (V (q0 + 5) (Int.toNat x5)))) : Nat) : Int))) ∧ (∀ z1 : Int, z1 = ((Int.toNat (1 * ((2 ^ Int.toNat (V (q0 + 3) (Int.toNat (V (q0 + 4) (Int.toNat x5)))) : Nat) : Int)) ||| Int.toNat (1 * ((2 ^ Int.toNat (V (q0 + 3) (Int.toNat (V (q0 + 5) (Int.toNat x5)))) : Nat) : Int)) : Nat) : Int) → (0 ≤ x3) ∧ (0 ≤ z1) ∧ (kR ((Int.toNat x3 &&& Int.toNat z1 : Nat) : Int)) ∧ ((((Int.toNat x3 &&& Int.toNat z1 : Nat) : Int) = 0 →
      (∀ z2 : Int, z2 = ((Int.toNat x3 ||| Int.toNat 0 : Nat) : Int) → kGo xs Lx (d + 0) 33 16 [some (.ref q0), some (.ref q1), none, some (kI z2), some (kI x4), some (kI (x5 + 1)), none] [] V Q)) ∧
     (((Int.toNat x3 &&& Int.toNat z1 : Nat) : Int) ≠ 0 →
      (∀ z3 : Int, z3 = ((Int.toNat x3 ||| Int.toNat z1 : Nat) : Int) → kGo xs Lx (d + 0) 33 16 [some (.ref q0), some (.ref q1), none, some (kI z3), some (kI x4), some (kI (x5 + 1)), none] [] V Q))))))) :
    kGo xs Lx (d + 0) 33 16 [some (.ref q0), some (.ref q1), none, some (kI x3), some (kI x4), some (kI x5), none] [] V Q := by
  refine g_iload 18 gq33 rfl rfl rfl ?_
  refine g_aload_n 19 gq33 rfl rfl rfl ?_
  refine g_getI 22 gq33 rfl rfl rfl hq1 rfl rfl ?_
  have c3 := h.1
  replace h := h.2
  have c5 := h.1
  replace h := h.2
  refine g_icmp_ge 78 25 gq33 rfl rfl rfl c3 c5 (fun c => ?_) (fun c => ?_)
  · replace h := h.1 c
    refine g_iinc 81 gq33 rfl rfl rfl rfl ?_
    refine g_goto 7 gq33 rfl rfl ?_
    exact kGo.weak (km_Le.s (km_Le.s (km_Le.n (km_Le.s (km_Le.s (km_Le.n (km_Le.n km_Le.nil))))))) h
  · replace h := h.2 c
    refine g_iconst 26 gq33 rfl rfl ?_
    refine g_aload_n 27 gq33 rfl rfl rfl ?_
    refine g_getA 30 (q0 + 3) gq33 rfl rfl rfl hq0 rfl rfl (rfD2 hq0) ?_
    refine g_aload_n 31 gq33 rfl rfl rfl ?_
    refine g_getA 34 (q0 + 4) gq33 rfl rfl rfl hq0 rfl rfl (rfD3 hq0) ?_
    refine g_iload 36 gq33 rfl rfl rfl ?_
    have c19 := h.1
    replace h := h.2
    refine g_iald 37 gq33 rfl rfl (shD3 hq0) c19 ?_
    have c22 := h.1
    replace h := h.2
    refine g_iald 38 gq33 rfl rfl (shD2 hq0) c22 ?_
    have c25 := h.1
    replace h := h.2
    refine g_ishl 39 gq33 rfl rfl c25 ?_
    refine g_iconst 40 gq33 rfl rfl ?_
    refine g_aload_n 41 gq33 rfl rfl rfl ?_
    refine g_getA 44 (q0 + 3) gq33 rfl rfl rfl hq0 rfl rfl (rfD2 hq0) ?_
    refine g_aload_n 45 gq33 rfl rfl rfl ?_
    refine g_getA 48 (q0 + 5) gq33 rfl rfl rfl hq0 rfl rfl (rfD4 hq0) ?_
    refine g_iload 50 gq33 rfl rfl rfl ?_
    refine g_iald 51 gq33 rfl rfl (shD4 hq0) c19 ?_
    have c35 := h.1
    replace h := h.2
    refine g_iald 52 gq33 rfl rfl (shD2 hq0) c35 ?_
    have c38 := h.1
    replace h := h.2
    refine g_ishl 53 gq33 rfl rfl c38 ?_
    have c41 := h.1
    replace h := h.2
    have c43 := h.1
    replace h := h.2
    refine g_ior 54 gq33 rfl rfl c41 c43 ?_
    refine g_istore 56 gq33 rfl rfl rfl ?_
    replace h := h _ rfl
    refine g_iload_n 57 gq33 rfl rfl rfl ?_
    refine g_iload_n 58 gq33 rfl rfl rfl ?_
    refine g_iload 60 gq33 rfl rfl rfl ?_
    have c51 := h.1
    replace h := h.2
    have c53 := h.1
    replace h := h.2
    refine g_iand 61 gq33 rfl rfl c51 c53 ?_
    have c56 := h.1
    replace h := h.2
    refine g_if_eq 69 64 gq33 rfl rfl rfl c56 (fun c => ?_) (fun c => ?_)
    · replace h := h.1 c
      refine g_iconst 70 gq33 rfl rfl ?_
      refine g_ior 71 gq33 rfl rfl c51 (by omega) ?_
      refine g_istore_n 72 gq33 rfl rfl rfl ?_
      replace h := h _ rfl
      refine g_iinc 75 gq33 rfl rfl rfl rfl ?_
      refine g_goto 16 gq33 rfl rfl ?_
      exact kGo.weak (km_Le.s (km_Le.s (km_Le.n (km_Le.s (km_Le.s (km_Le.s (km_Le.n km_Le.nil))))))) h
    · replace h := h.2 c
      refine g_iload 66 gq33 rfl rfl rfl ?_
      refine g_goto 70 gq33 rfl rfl ?_
      refine g_ior 71 gq33 rfl rfl c51 c53 ?_
      refine g_istore_n 72 gq33 rfl rfl rfl ?_
      replace h := h _ rfl
      refine g_iinc 75 gq33 rfl rfl rfl rfl ?_
      refine g_goto 16 gq33 rfl rfl ?_
      exact kGo.weak (km_Le.s (km_Le.s (km_Le.n (km_Le.s (km_Le.s (km_Le.s (km_Le.n km_Le.nil))))))) h
set_option maxRecDepth 10000 in
theorem b34_0 {xs : Nat → Int32} {Lx d : Nat} {V : km_V} {Q : Option Value → km_V → Prop} {t : Nat} (ht : km_sh[t]? = some (2, 11)) {r1 : Nat} (hr1 : km_sh[r1]? = some (5, 5))
    (h : kCI xs Lx (d + 1) 32 5 [.ref t, .ref r1] V (fun y1 W1 =>
  (kR (V t 7)) ∧ (kR ((V r1 1) + (2 * y1))) ∧ (((V t 7) ≠ ((V r1 1) + (2 * y1)) →
    Q (some (kI 0)) W1) ∧
   ((V t 7) = ((V r1 1) + (2 * y1)) →
    Q (some (kI 1)) W1)))) :
    kGo xs Lx (d + 2) 34 0 [some (.ref t), some (.ref r1)] [] V Q := by
  refine g_aload_n 1 gq34 rfl rfl rfl ?_
  refine g_getI 4 gq34 rfl rfl rfl ht rfl rfl ?_
  refine g_aload_n 5 gq34 rfl rfl rfl ?_
  refine g_getI 8 gq34 rfl rfl rfl hr1 rfl rfl ?_
  refine g_iconst 9 gq34 rfl rfl ?_
  refine g_aload_n 10 gq34 rfl rfl rfl ?_
  refine g_aload_n 11 gq34 rfl rfl rfl ?_
  refine g_virt 32 _ (i := 108) gq34 rfl rfl gq32 ht rfl rfl rfl rfl rfl ?_
  refine kGo.mono h (fun r W1 hr => ?_)
  obtain ⟨y1, rfl, h⟩ := hr
  refine g_imul 15 gq34 rfl rfl ?_
  refine g_iadd 16 gq34 rfl rfl ?_
  have c12 := h.1
  replace h := h.2
  have c14 := h.1
  replace h := h.2
  refine g_icmp_ne 23 19 gq34 rfl rfl rfl c12 c14 (fun c => ?_) (fun c => ?_)
  · replace h := h.1 c
    refine g_iconst 24 gq34 rfl rfl ?_
    exact g_zret gq34 rfl rfl (by omega) h
  · replace h := h.2 c
    refine g_iconst 20 gq34 rfl rfl ?_
    refine g_goto 24 gq34 rfl rfl ?_
    exact g_zret gq34 rfl rfl (by omega) h
set_option maxRecDepth 10000 in
theorem b35_0 {xs : Nat → Int32} {Lx d : Nat} {V : km_V} {Q : Option Value → km_V → Prop} {a2 : Int} {t : Nat} (ht : km_sh[t]? = some (2, 11)) {r1 : Nat} (hr1 : km_sh[r1]? = some (5, 5))
    (h : kCI xs Lx (d + 0) 64 3 [.ref r1] V (fun y1 W1 =>
  (∀ z2 : Int, z2 = (2 * (W1 r1 1)) → kGo xs Lx (d + 1) 35 17 [some (.ref t), none, some (kI a2), some (kI y1), some (kI z2), some (kI 0), some (kI 0), none, none, none] [] W1 Q))) :
    kGo xs Lx (d + 1) 35 0 [some (.ref t), some (.ref r1), some (kI a2), none, none, none, none, none, none, none] [] V Q := by
  refine g_aload_n 1 gq35 rfl rfl rfl ?_
  refine g_virt 64 _ (i := 112) gq35 rfl rfl gq64 hr1 rfl rfl rfl rfl rfl ?_
  refine kGo.mono h (fun r W1 hr => ?_)
  obtain ⟨y1, rfl, h⟩ := hr
  refine g_istore_n 5 gq35 rfl rfl rfl ?_
  refine g_aload_n 6 gq35 rfl rfl rfl ?_
  refine g_virt 59 _ (i := 49) gq35 rfl rfl gq59 hr1 rfl rfl rfl rfl rfl ?_
  refine g_iconst 1 gq59 rfl rfl ?_
  refine g_aload_n 2 gq59 rfl rfl rfl ?_
  refine g_getI 5 gq59 rfl rfl rfl hr1 rfl rfl ?_
  refine g_imul 6 gq59 rfl rfl ?_
  refine g_iret gq59 rfl rfl ?_
  refine g_istore 11 gq35 rfl rfl rfl ?_
  replace h := h _ rfl
  refine g_iconst 12 gq35 rfl rfl ?_
  refine g_istore 14 gq35 rfl rfl rfl ?_
  refine g_iconst 15 gq35 rfl rfl ?_
  refine g_istore 17 gq35 rfl rfl rfl ?_
  exact kGo.weak (km_Le.s (km_Le.n (km_Le.s (km_Le.s (km_Le.s (km_Le.s (km_Le.s (km_Le.n (km_Le.n (km_Le.n km_Le.nil)))))))))) h
set_option maxRecDepth 10000 in
theorem b35_17 {xs : Nat → Int32} {Lx d : Nat} {V : km_V} {Q : Option Value → km_V → Prop} {x2 x3 x4 x5 x6 : Int} {q0 : Nat} (hq0 : km_sh[q0]? = some (2, 11))
    (h : (kR x6) ∧ (kR x4) ∧ ((x4 ≤ x6 →
    Q (some (kI x3)) V) ∧
   (x6 < x4 →
    (kR x5) ∧ (0 ≤ x6 ∧ x6 < 32) ∧ (kR ((x5 / ((2 ^ Int.toNat x6 : Nat) : Int)) % 2)) ∧ ((((x5 / ((2 ^ Int.toNat x6 : Nat) : Int)) % 2) ≠ 1 →
      kGo xs Lx (d + 1) 35 47 [some (.ref q0), none, some (kI x2), some (kI x3), some (kI x4), some (kI x5), some (kI x6), some (kI (2 * x6)), some (kI 0), none] [] V Q) ∧
     (((x5 / ((2 ^ Int.toNat x6 : Nat) : Int)) % 2) = 1 →
      kGo xs Lx (d + 1) 35 17 [some (.ref q0), none, some (kI x2), some (kI x3), some (kI x4), some (kI x5), some (kI (x6 + 1)), none, none, none] [] V Q))))) :
    kGo xs Lx (d + 1) 35 17 [some (.ref q0), none, some (kI x2), some (kI x3), some (kI x4), some (kI x5), some (kI x6), none, none, none] [] V Q := by
  refine g_iload 19 gq35 rfl rfl rfl ?_
  refine g_iload 21 gq35 rfl rfl rfl ?_
  have c2 := h.1
  replace h := h.2
  have c4 := h.1
  replace h := h.2
  refine g_icmp_ge 131 24 gq35 rfl rfl rfl c2 c4 (fun c => ?_) (fun c => ?_)
  · replace h := h.1 c
    refine g_iload_n 132 gq35 rfl rfl rfl ?_
    exact g_iret gq35 rfl rfl h
  · replace h := h.2 c
    refine g_iload 26 gq35 rfl rfl rfl ?_
    refine g_iload 28 gq35 rfl rfl rfl ?_
    have c13 := h.1
    replace h := h.2
    have c15 := h.1
    replace h := h.2
    refine g_ishr 29 gq35 rfl rfl c13 c15 ?_
    refine g_iconst 30 gq35 rfl rfl ?_
    refine g_iandM 31 1 gq35 rfl rfl (by decide) rfl ?_
    refine g_iconst 32 gq35 rfl rfl ?_
    have c21 := h.1
    replace h := h.2
    refine g_icmp_ne 38 35 gq35 rfl rfl rfl c21 (by omega) (fun c => ?_) (fun c => ?_)
    · replace h := h.1 c
      refine g_iconst 39 gq35 rfl rfl ?_
      refine g_iload 41 gq35 rfl rfl rfl ?_
      refine g_imul 42 gq35 rfl rfl ?_
      refine g_istore 44 gq35 rfl rfl rfl ?_
      refine g_iconst 45 gq35 rfl rfl ?_
      refine g_istore 47 gq35 rfl rfl rfl ?_
      exact kGo.weak (km_Le.s (km_Le.n (km_Le.s (km_Le.s (km_Le.s (km_Le.s (km_Le.s (km_Le.s (km_Le.s (km_Le.n km_Le.nil)))))))))) h
    · replace h := h.2 c
      refine g_goto 125 gq35 rfl rfl ?_
      refine g_iinc 128 gq35 rfl rfl rfl rfl ?_
      refine g_goto 17 gq35 rfl rfl ?_
      exact kGo.weak (km_Le.s (km_Le.n (km_Le.s (km_Le.s (km_Le.s (km_Le.s (km_Le.s (km_Le.n (km_Le.n (km_Le.n km_Le.nil)))))))))) h
set_option maxRecDepth 10000 in
theorem b35_47 {xs : Nat → Int32} {Lx d : Nat} {V : km_V} {Q : Option Value → km_V → Prop} {x2 x3 x4 x5 x6 x7 x8 : Int} {q0 : Nat} (hq0 : km_sh[q0]? = some (2, 11))
    (h : (kR x8) ∧ (kR x4) ∧ ((x4 ≤ x8 →
    kGo xs Lx (d + 1) 35 17 [some (.ref q0), none, some (kI x2), some (kI (x3 + 1)), some (kI x4), some (kI x5), some (kI (x6 + 1)), none, none, none] [] V Q) ∧
   (x8 < x4 →
    (kR x7) ∧ (kR x5) ∧ (0 ≤ (x7 / 2) ∧ (x7 / 2) < 32) ∧ (kR ((x5 / ((2 ^ Int.toNat (x7 / 2) : Nat) : Int)) % 2)) ∧ ((((x5 / ((2 ^ Int.toNat (x7 / 2) : Nat) : Int)) % 2) ≠ 0 →
      kGo xs Lx (d + 1) 35 17 [some (.ref q0), none, some (kI x2), some (kI (x3 + 1)), some (kI x4), some (kI x5), some (kI (x6 + 1)), none, none, none] [] V Q) ∧
     (((x5 / ((2 ^ Int.toNat (x7 / 2) : Nat) : Int)) % 2) = 0 →
      (0 ≤ x5) ∧ (0 ≤ (1 * ((2 ^ Int.toNat (x7 / 2) : Nat) : Int))) ∧ (∀ z1 : Int, z1 = ((Int.toNat x5 ||| Int.toNat (1 * ((2 ^ Int.toNat (x7 / 2) : Nat) : Int)) : Nat) : Int) → (0 ≤ x7 ∧ x7 < (32 : Nat)) ∧ (∀ z2 : Int, z2 = (V (q0 + 7) (Int.toNat x7)) → (kR z2) ∧ (kR x2) ∧ (0 ≤ (z2 / 4) ∧ (z2 / 4) < 32) ∧ (kR ((x2 / ((2 ^ Int.toNat (z2 / 4) : Nat) : Int)) % 2)) ∧ ((((x2 / ((2 ^ Int.toNat (z2 / 4) : Nat) : Int)) % 2) ≠ 1 →
        (0 ≤ z2) ∧ (0 ≤ ((Int.toNat z2 ^^^ Int.toNat 1 : Nat) : Int) ∧ ((Int.toNat z2 ^^^ Int.toNat 1 : Nat) : Int) < (32 : Nat)) ∧ (∀ z3 : Int, z3 = (V (q0 + 6) (Int.toNat ((Int.toNat z2 ^^^ Int.toNat 1 : Nat) : Int))) → kGo xs Lx (d + 1) 35 47 [some (.ref q0), none, some (kI x2), some (kI x3), some (kI x4), some (kI z1), some (kI x6), some (kI z3), some (kI (x8 + 1)), none] [] V Q)) ∧
       (((x2 / ((2 ^ Int.toNat (z2 / 4) : Nat) : Int)) % 2) = 1 →
        (0 ≤ z2) ∧ (0 ≤ ((Int.toNat z2 ^^^ Int.toNat 3 : Nat) : Int) ∧ ((Int.toNat z2 ^^^ Int.toNat 3 : Nat) : Int) < (32 : Nat)) ∧ (∀ z4 : Int, z4 = (V (q0 + 6) (Int.toNat ((Int.toNat z2 ^^^ Int.toNat 3 : Nat) : Int))) → kGo xs Lx (d + 1) 35 47 [some (.ref q0), none, some (kI x2), some (kI x3), some (kI x4), some (kI z1), some (kI x6), some (kI z4), some (kI (x8 + 1)), none] [] V Q)))))))))) :
    kGo xs Lx (d + 1) 35 47 [some (.ref q0), none, some (kI x2), some (kI x3), some (kI x4), some (kI x5), some (kI x6), some (kI x7), some (kI x8), none] [] V Q := by
  refine g_iload 49 gq35 rfl rfl rfl ?_
  refine g_iload 51 gq35 rfl rfl rfl ?_
  have c2 := h.1
  replace h := h.2
  have c4 := h.1
  replace h := h.2
  refine g_icmp_ge 122 54 gq35 rfl rfl rfl c2 c4 (fun c => ?_) (fun c => ?_)
  · replace h := h.1 c
    refine g_iinc 125 gq35 rfl rfl rfl rfl ?_
    refine g_iinc 128 gq35 rfl rfl rfl rfl ?_
    refine g_goto 17 gq35 rfl rfl ?_
    exact kGo.weak (km_Le.s (km_Le.n (km_Le.s (km_Le.s (km_Le.s (km_Le.s (km_Le.s (km_Le.n (km_Le.n (km_Le.n km_Le.nil)))))))))) h
  · replace h := h.2 c
    refine g_iload 56 gq35 rfl rfl rfl ?_
    refine g_iload 58 gq35 rfl rfl rfl ?_
    refine g_iconst 59 gq35 rfl rfl ?_
    have c16 := h.1
    replace h := h.2
    refine g_ishr 60 gq35 rfl rfl c16 (by omega) ?_
    have c19 := h.1
    replace h := h.2
    have c21 := h.1
    replace h := h.2
    refine g_ishr 61 gq35 rfl rfl c19 c21 ?_
    refine g_iconst 62 gq35 rfl rfl ?_
    refine g_iandM 63 1 gq35 rfl rfl (by decide) rfl ?_
    have c26 := h.1
    replace h := h.2
    refine g_if_ne 122 66 gq35 rfl rfl rfl c26 (fun c => ?_) (fun c => ?_)
    · replace h := h.1 c
      refine g_iinc 125 gq35 rfl rfl rfl rfl ?_
      refine g_iinc 128 gq35 rfl rfl rfl rfl ?_
      refine g_goto 17 gq35 rfl rfl ?_
      exact kGo.weak (km_Le.s (km_Le.n (km_Le.s (km_Le.s (km_Le.s (km_Le.s (km_Le.s (km_Le.n (km_Le.n (km_Le.n km_Le.nil)))))))))) h
    · replace h := h.2 c
      refine g_iload 68 gq35 rfl rfl rfl ?_
      refine g_iconst 69 gq35 rfl rfl ?_
      refine g_iload 71 gq35 rfl rfl rfl ?_
      refine g_iconst 72 gq35 rfl rfl ?_
      refine g_ishr 73 gq35 rfl rfl c16 (by omega) ?_
      refine g_ishl 74 gq35 rfl rfl c21 ?_
      have c41 := h.1
      replace h := h.2
      have c43 := h.1
      replace h := h.2
      refine g_ior 75 gq35 rfl rfl c41 c43 ?_
      refine g_istore 77 gq35 rfl rfl rfl ?_
      replace h := h _ rfl
      refine g_aload_n 78 gq35 rfl rfl rfl ?_
      refine g_getA 81 (q0 + 7) gq35 rfl rfl rfl hq0 rfl rfl (rfD6 hq0) ?_
      refine g_iload 83 gq35 rfl rfl rfl ?_
      have c51 := h.1
      replace h := h.2
      refine g_iald 84 gq35 rfl rfl (shD6 hq0) c51 ?_
      refine g_istore 86 gq35 rfl rfl rfl ?_
      replace h := h _ rfl
      refine g_aload_n 87 gq35 rfl rfl rfl ?_
      refine g_getA 90 (q0 + 6) gq35 rfl rfl rfl hq0 rfl rfl (rfD5 hq0) ?_
      refine g_iload_n 91 gq35 rfl rfl rfl ?_
      refine g_iload 93 gq35 rfl rfl rfl ?_
      refine g_iconst 94 gq35 rfl rfl ?_
      have c61 := h.1
      replace h := h.2
      refine g_ishr 95 gq35 rfl rfl c61 (by omega) ?_
      have c64 := h.1
      replace h := h.2
      have c66 := h.1
      replace h := h.2
      refine g_ishr 96 gq35 rfl rfl c64 c66 ?_
      refine g_iconst 97 gq35 rfl rfl ?_
      refine g_iandM 98 1 gq35 rfl rfl (by decide) rfl ?_
      refine g_iconst 99 gq35 rfl rfl ?_
      have c72 := h.1
      replace h := h.2
      refine g_icmp_ne 109 102 gq35 rfl rfl rfl c72 (by omega) (fun c => ?_) (fun c => ?_)
      · replace h := h.1 c
        refine g_iload 111 gq35 rfl rfl rfl ?_
        refine g_iconst 112 gq35 rfl rfl ?_
        have c78 := h.1
        replace h := h.2
        refine g_ixor 113 gq35 rfl rfl c78 (by omega) ?_
        have c81 := h.1
        replace h := h.2
        refine g_iald 114 gq35 rfl rfl (shD5 hq0) c81 ?_
        refine g_istore 116 gq35 rfl rfl rfl ?_
        replace h := h _ rfl
        refine g_iinc 119 gq35 rfl rfl rfl rfl ?_
        refine g_goto 47 gq35 rfl rfl ?_
        exact kGo.weak (km_Le.s (km_Le.n (km_Le.s (km_Le.s (km_Le.s (km_Le.s (km_Le.s (km_Le.s (km_Le.s (km_Le.n km_Le.nil)))))))))) h
      · replace h := h.2 c
        refine g_iload 104 gq35 rfl rfl rfl ?_
        refine g_iconst 105 gq35 rfl rfl ?_
        have c92 := h.1
        replace h := h.2
        refine g_ixor 106 gq35 rfl rfl c92 (by omega) ?_
        refine g_goto 113 gq35 rfl rfl ?_
        have c96 := h.1
        replace h := h.2
        refine g_iald 114 gq35 rfl rfl (shD5 hq0) c96 ?_
        refine g_istore 116 gq35 rfl rfl rfl ?_
        replace h := h _ rfl
        refine g_iinc 119 gq35 rfl rfl rfl rfl ?_
        refine g_goto 47 gq35 rfl rfl ?_
        exact kGo.weak (km_Le.s (km_Le.n (km_Le.s (km_Le.s (km_Le.s (km_Le.s (km_Le.s (km_Le.s (km_Le.s (km_Le.n km_Le.nil)))))))))) h

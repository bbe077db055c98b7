set_option maxRecDepth 10000 in
theorem b146_0 {xs : Nat → Int32} {Lx d : Nat} {V : km_V} {Q : Option Value → km_V → Prop} {a1 : Int} 
    (h : kCI xs Lx (d + 0) 145 3 [.ref 299, kI a1] V (fun y1 W1 =>
  (kR y1) ∧ ((y1 < 0 →
    (kR (W1 299 20)) ∧ (((W1 299 20) ≠ 8 →
      (0 ≤ (W1 299 20) ∧ (W1 299 20) < (8 : Nat)) ∧ Q none (up (up W1 309 (Int.toNat (W1 299 20)) a1) 299 20 (((up W1 309 (Int.toNat (W1 299 20)) a1) 299 20) + 1))) ∧
     ((W1 299 20) = 8 →
      kCV xs Lx (d + 0) 137 2 [.ref 299, kI 2] W1 (fun W2 =>
      Q none W2)))) ∧
   (0 ≤ y1 →
    Q none W1)))) :
    kGo xs Lx (d + 1) 146 0 [some (.ref 299), some (kI a1)] [] V Q := by
  refine g_aload_n 1 gq146 rfl rfl rfl ?_
  refine g_iload_n 2 gq146 rfl rfl rfl ?_
  refine g_virt 145 _ (i := 222) gq146 rfl rfl gq145 rfl rfl rfl rfl rfl rfl ?_
  refine kGo.mono h (fun r W1 hr => ?_)
  obtain ⟨y1, rfl, h⟩ := hr
  have c5 := h.1
  replace h := h.2
  refine g_if_lt 9 8 gq146 rfl rfl rfl c5 (fun c => ?_) (fun c => ?_)
  · replace h := h.1 c
    refine g_aload_n 10 gq146 rfl rfl rfl ?_
    refine g_getI 13 gq146 rfl rfl rfl rfl rfl rfl ?_
    refine g_bipush 15 gq146 rfl rfl rfl ?_
    have c12 := h.1
    replace h := h.2
    refine g_icmp_ne 24 18 gq146 rfl rfl rfl c12 (by omega) (fun c => ?_) (fun c => ?_)
    · replace h := h.1 c
      refine g_aload_n 25 gq146 rfl rfl rfl ?_
      refine g_getA 28 309 gq146 rfl rfl rfl rfl rfl rfl rfl ?_
      refine g_aload_n 29 gq146 rfl rfl rfl ?_
      refine g_getI 32 gq146 rfl rfl rfl rfl rfl rfl ?_
      refine g_iload_n 33 gq146 rfl rfl rfl ?_
      have c21 := h.1
      replace h := h.2
      refine g_iast 34 gq146 rfl rfl rfl c21 ?_
      refine g_aload_n 35 gq146 rfl rfl rfl ?_
      refine g_dup 36 gq146 rfl rfl rfl ?_
      refine g_getI 39 gq146 rfl rfl rfl rfl rfl rfl ?_
      refine g_iconst 40 gq146 rfl rfl ?_
      refine g_iadd 41 gq146 rfl rfl ?_
      refine g_putI 44 gq146 rfl rfl rfl rfl rfl rfl rfl rfl ?_
      exact g_vret gq146 rfl rfl h
    · replace h := h.2 c
      refine g_aload_n 19 gq146 rfl rfl rfl ?_
      refine g_iconst 20 gq146 rfl rfl ?_
      refine g_virt 137 _ (i := 182) gq146 rfl rfl gq137 rfl rfl rfl rfl rfl rfl ?_
      refine kGo.mono h (fun r W2 hr => ?_)
      obtain ⟨rfl, h⟩ := hr
      exact g_vret gq146 rfl rfl h
  · replace h := h.2 c
    exact g_vret gq146 rfl rfl h
set_option maxRecDepth 10000 in
theorem b147_0 {xs : Nat → Int32} {Lx d : Nat} {V : km_V} {Q : Option Value → km_V → Prop} 
    (h : (kR (V 302 (Int.toNat 0))) ∧ (((V 302 (Int.toNat 0)) ≠ 23 →
    kCV xs Lx (d + 3) 148 6 [.ref 299] V (fun W1 =>
    (kR (W1 299 14)) ∧ (((W1 299 14) ≠ 0 →
      Q none W1) ∧
     ((W1 299 14) = 0 →
      kCV xs Lx (d + 3) 150 2 [.ref 299] W1 (fun W2 =>
      (kR (W2 299 14)) ∧ (((W2 299 14) ≠ 0 →
        Q none W2) ∧
       ((W2 299 14) = 0 →
        kCI xs Lx (d + 3) 164 2 [.ref 299, .ref 308] W2 (fun y3 W3 =>
        (kR y3) ∧ ((y3 ≠ 0 →
          Q none W3) ∧
         (y3 = 0 →
          Q none (up (up W3 299 14 6) 299 15 ((up W3 299 14 6) 299 4)))))))))))) ∧
   ((V 302 (Int.toNat 0)) = 23 →
    kCV xs Lx (d + 3) 151 6 [.ref 299] V (fun W4 =>
    Q none W4)))) :
    kGo xs Lx (d + 4) 147 0 [some (.ref 299)] [] V Q := by
  refine g_aload_n 1 gq147 rfl rfl rfl ?_
  refine g_getA 4 302 gq147 rfl rfl rfl rfl rfl rfl rfl ?_
  refine g_iconst 5 gq147 rfl rfl ?_
  refine g_iald 6 gq147 rfl rfl rfl (by omega) ?_
  refine g_bipush 8 gq147 rfl rfl rfl ?_
  have c5 := h.1
  replace h := h.2
  refine g_icmp_ne 16 11 gq147 rfl rfl rfl c5 (by omega) (fun c => ?_) (fun c => ?_)
  · replace h := h.1 c
    refine g_aload_n 17 gq147 rfl rfl rfl ?_
    refine g_virt 148 _ (i := 228) gq147 rfl rfl gq148 rfl rfl rfl rfl rfl rfl ?_
    refine kGo.mono h (fun r W1 hr => ?_)
    obtain ⟨rfl, h⟩ := hr
    refine g_aload_n 21 gq147 rfl rfl rfl ?_
    refine g_getI 24 gq147 rfl rfl rfl rfl rfl rfl ?_
    have c15 := h.1
    replace h := h.2
    refine g_if_ne 31 27 gq147 rfl rfl rfl c15 (fun c => ?_) (fun c => ?_)
    · replace h := h.1 c
      refine g_aload_n 32 gq147 rfl rfl rfl ?_
      refine g_getI 35 gq147 rfl rfl rfl rfl rfl rfl ?_
      refine g_if_ne 63 38 gq147 rfl rfl rfl c15 (fun c => ?_) (fun c => ?_)
      rotate_left
      · exfalso; omega
      exact g_vret gq147 rfl rfl h
    · replace h := h.2 c
      refine g_aload_n 28 gq147 rfl rfl rfl ?_
      refine g_virt 150 _ (i := 231) gq147 rfl rfl gq150 rfl rfl rfl rfl rfl rfl ?_
      refine kGo.mono h (fun r W2 hr => ?_)
      obtain ⟨rfl, h⟩ := hr
      refine g_aload_n 32 gq147 rfl rfl rfl ?_
      refine g_getI 35 gq147 rfl rfl rfl rfl rfl rfl ?_
      have c32 := h.1
      replace h := h.2
      refine g_if_ne 63 38 gq147 rfl rfl rfl c32 (fun c => ?_) (fun c => ?_)
      · replace h := h.1 c
        exact g_vret gq147 rfl rfl h
      · replace h := h.2 c
        refine g_aload_n 39 gq147 rfl rfl rfl ?_
        refine g_aload_n 40 gq147 rfl rfl rfl ?_
        refine g_getA 43 308 gq147 rfl rfl rfl rfl rfl rfl rfl ?_
        refine g_virt 164 _ (i := 234) gq147 rfl rfl gq164 rfl rfl rfl rfl rfl rfl ?_
        refine kGo.mono h (fun r W3 hr => ?_)
        obtain ⟨y3, rfl, h⟩ := hr
        have c44 := h.1
        replace h := h.2
        refine g_if_ne 63 49 gq147 rfl rfl rfl c44 (fun c => ?_) (fun c => ?_)
        · replace h := h.1 c
          exact g_vret gq147 rfl rfl h
        · replace h := h.2 c
          refine g_aload_n 50 gq147 rfl rfl rfl ?_
          refine g_bipush 52 gq147 rfl rfl rfl ?_
          refine g_putI 55 gq147 rfl rfl rfl rfl rfl rfl rfl rfl ?_
          refine g_aload_n 56 gq147 rfl rfl rfl ?_
          refine g_aload_n 57 gq147 rfl rfl rfl ?_
          refine g_getI 60 gq147 rfl rfl rfl rfl rfl rfl ?_
          refine g_putI 63 gq147 rfl rfl rfl rfl rfl rfl rfl rfl ?_
          exact g_vret gq147 rfl rfl h
  · replace h := h.2 c
    refine g_aload_n 12 gq147 rfl rfl rfl ?_
    refine g_virt 151 _ (i := 225) gq147 rfl rfl gq151 rfl rfl rfl rfl rfl rfl ?_
    refine kGo.mono h (fun r W4 hr => ?_)
    obtain ⟨rfl, h⟩ := hr
    exact g_vret gq147 rfl rfl h
set_option maxRecDepth 10000 in
theorem b148_0 {xs : Nat → Int32} {Lx d : Nat} {V : km_V} {Q : Option Value → km_V → Prop} 
    (h : kGo xs Lx (d + 1) 148 12 [some (.ref 299), some (kI 0), none, none, none, none] [] (up V 308 (Int.toNat 1) (V 299 20)) Q) :
    kGo xs Lx (d + 1) 148 0 [some (.ref 299), none, none, none, none, none] [] V Q := by
  refine g_aload_n 1 gq148 rfl rfl rfl ?_
  refine g_getA 4 308 gq148 rfl rfl rfl rfl rfl rfl rfl ?_
  refine g_iconst 5 gq148 rfl rfl ?_
  refine g_aload_n 6 gq148 rfl rfl rfl ?_
  refine g_getI 9 gq148 rfl rfl rfl rfl rfl rfl ?_
  refine g_iast 10 gq148 rfl rfl rfl (by omega) ?_
  refine g_iconst 11 gq148 rfl rfl ?_
  refine g_istore_n 12 gq148 rfl rfl rfl ?_
  exact kGo.weak (km_Le.s (km_Le.s (km_Le.n (km_Le.n (km_Le.n (km_Le.n km_Le.nil)))))) h
set_option maxRecDepth 10000 in
theorem b148_12 {xs : Nat → Int32} {Lx d : Nat} {V : km_V} {Q : Option Value → km_V → Prop} {x1 : Int} 
    (h : (kR x1) ∧ ((8 ≤ x1 →
    kGo xs Lx (d + 1) 148 35 [some (.ref 299), some (kI (-1)), some (kI 0), none, none, none] [] V Q) ∧
   (x1 < 8 →
    (0 ≤ x1 ∧ x1 < (8 : Nat)) ∧ kGo xs Lx (d + 1) 148 12 [some (.ref 299), some (kI (x1 + 1)), none, none, none, none] [] (up V 310 (Int.toNat x1) 0) Q))) :
    kGo xs Lx (d + 1) 148 12 [some (.ref 299), some (kI x1), none, none, none, none] [] V Q := by
  refine g_iload_n 13 gq148 rfl rfl rfl ?_
  refine g_bipush 15 gq148 rfl rfl rfl ?_
  have c2 := h.1
  replace h := h.2
  refine g_icmp_ge 31 18 gq148 rfl rfl rfl c2 (by omega) (fun c => ?_) (fun c => ?_)
  · replace h := h.1 c
    refine g_iconst 32 gq148 rfl rfl ?_
    refine g_istore_n 33 gq148 rfl rfl rfl ?_
    refine g_iconst 34 gq148 rfl rfl ?_
    refine g_istore_n 35 gq148 rfl rfl rfl ?_
    exact kGo.weak (km_Le.s (km_Le.s (km_Le.s (km_Le.n (km_Le.n (km_Le.n km_Le.nil)))))) h
  · replace h := h.2 c
    refine g_aload_n 19 gq148 rfl rfl rfl ?_
    refine g_getA 22 310 gq148 rfl rfl rfl rfl rfl rfl rfl ?_
    refine g_iload_n 23 gq148 rfl rfl rfl ?_
    refine g_iconst 24 gq148 rfl rfl ?_
    have c16 := h.1
    replace h := h.2
    refine g_iast 25 gq148 rfl rfl rfl c16 ?_
    refine g_iinc 28 gq148 rfl rfl rfl rfl ?_
    refine g_goto 12 gq148 rfl rfl ?_
    exact kGo.weak (km_Le.s (km_Le.s (km_Le.n (km_Le.n (km_Le.n (km_Le.n km_Le.nil)))))) h
set_option maxRecDepth 10000 in
theorem b148_35 {xs : Nat → Int32} {Lx d : Nat} {V : km_V} {Q : Option Value → km_V → Prop} {x1 x2 : Int} 
    (h : (kR x2) ∧ (kR (V 299 10)) ∧ (((V 299 10) ≤ x2 →
    Q none (up V 308 (Int.toNat 0) (x1 + 1))) ∧
   (x2 < (V 299 10) →
    (0 ≤ x2 ∧ x2 < (403 : Nat)) ∧ (kR (V 302 (Int.toNat x2))) ∧ (((V 302 (Int.toNat x2)) ≠ 20 →
      kGo xs Lx (d + 1) 148 57 [some (.ref 299), some (kI x1), some (kI x2), none, none, none] [] V Q) ∧
     ((V 302 (Int.toNat x2)) = 20 →
      kGo xs Lx (d + 1) 148 57 [some (.ref 299), some (kI (x1 + 1)), some (kI x2), none, none, none] [] V Q))))) :
    kGo xs Lx (d + 1) 148 35 [some (.ref 299), some (kI x1), some (kI x2), none, none, none] [] V Q := by
  refine g_iload_n 36 gq148 rfl rfl rfl ?_
  refine g_aload_n 37 gq148 rfl rfl rfl ?_
  refine g_getI 40 gq148 rfl rfl rfl rfl rfl rfl ?_
  have c3 := h.1
  replace h := h.2
  have c5 := h.1
  replace h := h.2
  refine g_icmp_ge 253 43 gq148 rfl rfl rfl c3 c5 (fun c => ?_) (fun c => ?_)
  · replace h := h.1 c
    refine g_aload_n 254 gq148 rfl rfl rfl ?_
    refine g_getA 257 308 gq148 rfl rfl rfl rfl rfl rfl rfl ?_
    refine g_iconst 258 gq148 rfl rfl ?_
    refine g_iload_n 259 gq148 rfl rfl rfl ?_
    refine g_iconst 260 gq148 rfl rfl ?_
    refine g_iadd 261 gq148 rfl rfl ?_
    refine g_iast 262 gq148 rfl rfl rfl (by omega) ?_
    exact g_vret gq148 rfl rfl h
  · replace h := h.2 c
    refine g_aload_n 44 gq148 rfl rfl rfl ?_
    refine g_getA 47 302 gq148 rfl rfl rfl rfl rfl rfl rfl ?_
    refine g_iload_n 48 gq148 rfl rfl rfl ?_
    have c21 := h.1
    replace h := h.2
    refine g_iald 49 gq148 rfl rfl rfl c21 ?_
    refine g_bipush 51 gq148 rfl rfl rfl ?_
    have c25 := h.1
    replace h := h.2
    refine g_icmp_ne 57 54 gq148 rfl rfl rfl c25 (by omega) (fun c => ?_) (fun c => ?_)
    · replace h := h.1 c
      exact kGo.weak (km_Le.s (km_Le.s (km_Le.s (km_Le.n (km_Le.n (km_Le.n km_Le.nil)))))) h
    · replace h := h.2 c
      refine g_iinc 57 gq148 rfl rfl rfl rfl ?_
      exact kGo.weak (km_Le.s (km_Le.s (km_Le.s (km_Le.n (km_Le.n (km_Le.n km_Le.nil)))))) h
set_option maxRecDepth 10000 in
theorem b148_57 {xs : Nat → Int32} {Lx d : Nat} {V : km_V} {Q : Option Value → km_V → Prop} {x1 x2 : Int} 
    (h : (0 ≤ x2 ∧ x2 < (403 : Nat)) ∧ (kR (V 302 (Int.toNat x2))) ∧ (((V 302 (Int.toNat x2)) = 2 →
    kCI xs Lx (d + 0) 145 3 [.ref 299, kI (V 304 (Int.toNat x2))] V (fun y1 W1 =>
    (0 ≤ (x2 - 1) ∧ (x2 - 1) < (403 : Nat)) ∧ (kR (W1 302 (Int.toNat (x2 - 1)))) ∧ (((W1 302 (Int.toNat (x2 - 1))) ≠ 21 →
      (0 ≤ (x2 + 1) ∧ (x2 + 1) < (403 : Nat)) ∧ (kR (W1 302 (Int.toNat (x2 + 1)))) ∧ (((W1 302 (Int.toNat (x2 + 1))) ≠ 5 →
        (kR (W1 304 (Int.toNat x2))) ∧ (((W1 304 (Int.toNat x2)) ≤ 99 →
          kGo xs Lx (d + 1) 148 137 [some (.ref 299), some (kI x1), some (kI x2), some (kI y1), some (kI 0), some (kI (-1))] [] W1 Q) ∧
         (99 < (W1 304 (Int.toNat x2)) →
          kCV xs Lx (d + 0) 138 4 [.ref 299, kI 5, kI x2] W1 (fun W2 =>
          kGo xs Lx (d + 1) 148 137 [some (.ref 299), some (kI x1), some (kI x2), some (kI y1), some (kI 0), some (kI (-1))] [] W2 Q)))) ∧
       ((W1 302 (Int.toNat (x2 + 1))) = 5 →
        (kR (W1 304 (Int.toNat x2))) ∧ (((W1 304 (Int.toNat x2)) ≤ 99 →
          kGo xs Lx (d + 1) 148 137 [some (.ref 299), some (kI x1), some (kI x2), some (kI y1), some (kI 0), some (kI 1)] [] W1 Q) ∧
         (99 < (W1 304 (Int.toNat x2)) →
          kCV xs Lx (d + 0) 138 4 [.ref 299, kI 5, kI x2] W1 (fun W3 =>
          kGo xs Lx (d + 1) 148 137 [some (.ref 299), some (kI x1), some (kI x2), some (kI y1), some (kI 0), some (kI 1)] [] W3 Q)))))) ∧
     ((W1 302 (Int.toNat (x2 - 1))) = 21 →
      (0 ≤ (x2 + 1) ∧ (x2 + 1) < (403 : Nat)) ∧ (kR (W1 302 (Int.toNat (x2 + 1)))) ∧ (((W1 302 (Int.toNat (x2 + 1))) ≠ 5 →
        (kR (W1 304 (Int.toNat x2))) ∧ (((W1 304 (Int.toNat x2)) ≤ 99 →
          kGo xs Lx (d + 1) 148 137 [some (.ref 299), some (kI x1), some (kI x2), some (kI y1), some (kI 1), some (kI (-1))] [] W1 Q) ∧
         (99 < (W1 304 (Int.toNat x2)) →
          kCV xs Lx (d + 0) 138 4 [.ref 299, kI 5, kI x2] W1 (fun W4 =>
          kGo xs Lx (d + 1) 148 137 [some (.ref 299), some (kI x1), some (kI x2), some (kI y1), some (kI 1), some (kI (-1))] [] W4 Q)))) ∧
       ((W1 302 (Int.toNat (x2 + 1))) = 5 →
        (kR (W1 304 (Int.toNat x2))) ∧ (((W1 304 (Int.toNat x2)) ≤ 99 →
          kGo xs Lx (d + 1) 148 137 [some (.ref 299), some (kI x1), some (kI x2), some (kI y1), some (kI 1), some (kI 1)] [] W1 Q) ∧
         (99 < (W1 304 (Int.toNat x2)) →
          kCV xs Lx (d + 0) 138 4 [.ref 299, kI 5, kI x2] W1 (fun W5 =>
          kGo xs Lx (d + 1) 148 137 [some (.ref 299), some (kI x1), some (kI x2), some (kI y1), some (kI 1), some (kI 1)] [] W5 Q))))))))) ∧
   ((V 302 (Int.toNat x2)) ≠ 2 →
    kGo xs Lx (d + 1) 148 247 [some (.ref 299), some (kI x1), some (kI x2), none, none, none] [] V Q))) :
    kGo xs Lx (d + 1) 148 57 [some (.ref 299), some (kI x1), some (kI x2), none, none, none] [] V Q := by
  refine g_aload_n 58 gq148 rfl rfl rfl ?_
  refine g_getA 61 302 gq148 rfl rfl rfl rfl rfl rfl rfl ?_
  refine g_iload_n 62 gq148 rfl rfl rfl ?_
  have c3 := h.1
  replace h := h.2
  refine g_iald 63 gq148 rfl rfl rfl c3 ?_
  refine g_iconst 64 gq148 rfl rfl ?_
  have c7 := h.1
  replace h := h.2
  refine g_icmp_eq 70 67 gq148 rfl rfl rfl c7 (by omega) (fun c => ?_) (fun c => ?_)
  · replace h := h.1 c
    refine g_aload_n 71 gq148 rfl rfl rfl ?_
    refine g_aload_n 72 gq148 rfl rfl rfl ?_
    refine g_getA 75 304 gq148 rfl rfl rfl rfl rfl rfl rfl ?_
    refine g_iload_n 76 gq148 rfl rfl rfl ?_
    refine g_iald 77 gq148 rfl rfl rfl c3 ?_
    refine g_virt 145 _ (i := 222) gq148 rfl rfl gq145 rfl rfl rfl rfl rfl rfl ?_
    refine kGo.mono h (fun r W1 hr => ?_)
    obtain ⟨y1, rfl, h⟩ := hr
    refine g_istore_n 81 gq148 rfl rfl rfl ?_
    refine g_aload_n 82 gq148 rfl rfl rfl ?_
    refine g_getA 85 302 gq148 rfl rfl rfl rfl rfl rfl rfl ?_
    refine g_iload_n 86 gq148 rfl rfl rfl ?_
    refine g_iconst 87 gq148 rfl rfl ?_
    refine g_isub 88 gq148 rfl rfl ?_
    have c25 := h.1
    replace h := h.2
    refine g_iald 89 gq148 rfl rfl rfl c25 ?_
    refine g_bipush 91 gq148 rfl rfl rfl ?_
    have c29 := h.1
    replace h := h.2
    refine g_icmp_ne 98 94 gq148 rfl rfl rfl c29 (by omega) (fun c => ?_) (fun c => ?_)
    · replace h := h.1 c
      refine g_iconst 99 gq148 rfl rfl ?_
      refine g_istore 101 gq148 rfl rfl rfl ?_
      refine g_aload_n 102 gq148 rfl rfl rfl ?_
      refine g_getA 105 302 gq148 rfl rfl rfl rfl rfl rfl rfl ?_
      refine g_iload_n 106 gq148 rfl rfl rfl ?_
      refine g_iconst 107 gq148 rfl rfl ?_
      refine g_iadd 108 gq148 rfl rfl ?_
      have c40 := h.1
      replace h := h.2
      refine g_iald 109 gq148 rfl rfl rfl c40 ?_
      refine g_iconst 110 gq148 rfl rfl ?_
      have c44 := h.1
      replace h := h.2
      refine g_icmp_ne 117 113 gq148 rfl rfl rfl c44 (by omega) (fun c => ?_) (fun c => ?_)
      · replace h := h.1 c
        refine g_iconst 118 gq148 rfl rfl ?_
        refine g_istore 120 gq148 rfl rfl rfl ?_
        refine g_aload_n 121 gq148 rfl rfl rfl ?_
        refine g_getA 124 304 gq148 rfl rfl rfl rfl rfl rfl rfl ?_
        refine g_iload_n 125 gq148 rfl rfl rfl ?_
        refine g_iald 126 gq148 rfl rfl rfl c3 ?_
        refine g_bipush 128 gq148 rfl rfl rfl ?_
        have c55 := h.1
        replace h := h.2
        refine g_icmp_le 137 131 gq148 rfl rfl rfl c55 (by omega) (fun c => ?_) (fun c => ?_)
        · replace h := h.1 c
          exact kGo.weak (km_Le.s (km_Le.s (km_Le.s (km_Le.s (km_Le.s (km_Le.s km_Le.nil)))))) h
        · replace h := h.2 c
          refine g_aload_n 132 gq148 rfl rfl rfl ?_
          refine g_iconst 133 gq148 rfl rfl ?_
          refine g_iload_n 134 gq148 rfl rfl rfl ?_
          refine g_virt 138 _ (i := 238) gq148 rfl rfl gq138 rfl rfl rfl rfl rfl rfl ?_
          refine kGo.mono h (fun r W2 hr => ?_)
          obtain ⟨rfl, h⟩ := hr
          exact kGo.weak (km_Le.s (km_Le.s (km_Le.s (km_Le.s (km_Le.s (km_Le.s km_Le.nil)))))) h
      · replace h := h.2 c
        refine g_iconst 114 gq148 rfl rfl ?_
        refine g_goto 118 gq148 rfl rfl ?_
        refine g_istore 120 gq148 rfl rfl rfl ?_
        refine g_aload_n 121 gq148 rfl rfl rfl ?_
        refine g_getA 124 304 gq148 rfl rfl rfl rfl rfl rfl rfl ?_
        refine g_iload_n 125 gq148 rfl rfl rfl ?_
        refine g_iald 126 gq148 rfl rfl rfl c3 ?_
        refine g_bipush 128 gq148 rfl rfl rfl ?_
        have c77 := h.1
        replace h := h.2
        refine g_icmp_le 137 131 gq148 rfl rfl rfl c77 (by omega) (fun c => ?_) (fun c => ?_)
        · replace h := h.1 c
          exact kGo.weak (km_Le.s (km_Le.s (km_Le.s (km_Le.s (km_Le.s (km_Le.s km_Le.nil)))))) h
        · replace h := h.2 c
          refine g_aload_n 132 gq148 rfl rfl rfl ?_
          refine g_iconst 133 gq148 rfl rfl ?_
          refine g_iload_n 134 gq148 rfl rfl rfl ?_
          refine g_virt 138 _ (i := 238) gq148 rfl rfl gq138 rfl rfl rfl rfl rfl rfl ?_
          refine kGo.mono h (fun r W3 hr => ?_)
          obtain ⟨rfl, h⟩ := hr
          exact kGo.weak (km_Le.s (km_Le.s (km_Le.s (km_Le.s (km_Le.s (km_Le.s km_Le.nil)))))) h
    · replace h := h.2 c
      refine g_iconst 95 gq148 rfl rfl ?_
      refine g_goto 99 gq148 rfl rfl ?_
      refine g_istore 101 gq148 rfl rfl rfl ?_
      refine g_aload_n 102 gq148 rfl rfl rfl ?_
      refine g_getA 105 302 gq148 rfl rfl rfl rfl rfl rfl rfl ?_
      refine g_iload_n 106 gq148 rfl rfl rfl ?_
      refine g_iconst 107 gq148 rfl rfl ?_
      refine g_iadd 108 gq148 rfl rfl ?_
      have c99 := h.1
      replace h := h.2
      refine g_iald 109 gq148 rfl rfl rfl c99 ?_
      refine g_iconst 110 gq148 rfl rfl ?_
      have c103 := h.1
      replace h := h.2
      refine g_icmp_ne 117 113 gq148 rfl rfl rfl c103 (by omega) (fun c => ?_) (fun c => ?_)
      · replace h := h.1 c
        refine g_iconst 118 gq148 rfl rfl ?_
        refine g_istore 120 gq148 rfl rfl rfl ?_
        refine g_aload_n 121 gq148 rfl rfl rfl ?_
        refine g_getA 124 304 gq148 rfl rfl rfl rfl rfl rfl rfl ?_
        refine g_iload_n 125 gq148 rfl rfl rfl ?_
        refine g_iald 126 gq148 rfl rfl rfl c3 ?_
        refine g_bipush 128 gq148 rfl rfl rfl ?_
        have c114 := h.1
        replace h := h.2
        refine g_icmp_le 137 131 gq148 rfl rfl rfl c114 (by omega) (fun c => ?_) (fun c => ?_)
        · replace h := h.1 c
          exact kGo.weak (km_Le.s (km_Le.s (km_Le.s (km_Le.s (km_Le.s (km_Le.s km_Le.nil)))))) h
        · replace h := h.2 c
          refine g_aload_n 132 gq148 rfl rfl rfl ?_
          refine g_iconst 133 gq148 rfl rfl ?_
          refine g_iload_n 134 gq148 rfl rfl rfl ?_
          refine g_virt 138 _ (i := 238) gq148 rfl rfl gq138 rfl rfl rfl rfl rfl rfl ?_
          refine kGo.mono h (fun r W4 hr => ?_)
          obtain ⟨rfl, h⟩ := hr
          exact kGo.weak (km_Le.s (km_Le.s (km_Le.s (km_Le.s (km_Le.s (km_Le.s km_Le.nil)))))) h
      · replace h := h.2 c
        refine g_iconst 114 gq148 rfl rfl ?_
        refine g_goto 118 gq148 rfl rfl ?_
        refine g_istore 120 gq148 rfl rfl rfl ?_
        refine g_aload_n 121 gq148 rfl rfl rfl ?_
        refine g_getA 124 304 gq148 rfl rfl rfl rfl rfl rfl rfl ?_
        refine g_iload_n 125 gq148 rfl rfl rfl ?_
        refine g_iald 126 gq148 rfl rfl rfl c3 ?_
        refine g_bipush 128 gq148 rfl rfl rfl ?_
        have c136 := h.1
        replace h := h.2
        refine g_icmp_le 137 131 gq148 rfl rfl rfl c136 (by omega) (fun c => ?_) (fun c => ?_)
        · replace h := h.1 c
          exact kGo.weak (km_Le.s (km_Le.s (km_Le.s (km_Le.s (km_Le.s (km_Le.s km_Le.nil)))))) h
        · replace h := h.2 c
          refine g_aload_n 132 gq148 rfl rfl rfl ?_
          refine g_iconst 133 gq148 rfl rfl ?_
          refine g_iload_n 134 gq148 rfl rfl rfl ?_
          refine g_virt 138 _ (i := 238) gq148 rfl rfl gq138 rfl rfl rfl rfl rfl rfl ?_
          refine kGo.mono h (fun r W5 hr => ?_)
          obtain ⟨rfl, h⟩ := hr
          exact kGo.weak (km_Le.s (km_Le.s (km_Le.s (km_Le.s (km_Le.s (km_Le.s km_Le.nil)))))) h
  · replace h := h.2 c
    refine g_goto 247 gq148 rfl rfl ?_
    exact kGo.weak (km_Le.s (km_Le.s (km_Le.s (km_Le.n (km_Le.n (km_Le.n km_Le.nil)))))) h
set_option maxRecDepth 10000 in
theorem b148_137 {xs : Nat → Int32} {Lx d : Nat} {V : km_V} {Q : Option Value → km_V → Prop} {x1 x2 x3 x4 x5 : Int} 
    (h : (0 ≤ x3 ∧ x3 < (8 : Nat)) ∧ (kR (V 310 (Int.toNat x3))) ∧ ((1 < (V 310 (Int.toNat x3)) →
    kGo xs Lx (d + 1) 148 182 [some (.ref 299), some (kI x1), some (kI x2), some (kI x3), some (kI x4), some (kI x5)] [] V Q) ∧
   ((V 310 (Int.toNat x3)) ≤ 1 →
    (((V 310 (Int.toNat x3)) ≠ 1 →
      kGo xs Lx (d + 1) 148 188 [some (.ref 299), some (kI x1), some (kI x2), some (kI x3), some (kI x4), some (kI x5)] [] V Q) ∧
     ((V 310 (Int.toNat x3)) = 1 →
      (kR (V 311 (Int.toNat x3))) ∧ (kR x4) ∧ (((V 311 (Int.toNat x3)) = x4 →
        kGo xs Lx (d + 1) 148 182 [some (.ref 299), some (kI x1), some (kI x2), some (kI x3), some (kI x4), some (kI x5)] [] V Q) ∧
       ((V 311 (Int.toNat x3)) ≠ x4 →
        (0 ≤ (70 + x3) ∧ (70 + x3) < (78 : Nat)) ∧ (kR (V 308 (Int.toNat (70 + x3)))) ∧ (kR x5) ∧ (((V 308 (Int.toNat (70 + x3))) = x5 →
          kGo xs Lx (d + 1) 148 188 [some (.ref 299), some (kI x1), some (kI x2), some (kI x3), some (kI x4), some (kI x5)] [] V Q) ∧
         ((V 308 (Int.toNat (70 + x3))) ≠ x5 →
          kGo xs Lx (d + 1) 148 182 [some (.ref 299), some (kI x1), some (kI x2), some (kI x3), some (kI x4), some (kI x5)] [] V Q))))))))) :
    kGo xs Lx (d + 1) 148 137 [some (.ref 299), some (kI x1), some (kI x2), some (kI x3), some (kI x4), some (kI x5)] [] V Q := by
  refine g_aload_n 138 gq148 rfl rfl rfl ?_
  refine g_getA 141 310 gq148 rfl rfl rfl rfl rfl rfl rfl ?_
  refine g_iload_n 142 gq148 rfl rfl rfl ?_
  have c3 := h.1
  replace h := h.2
  refine g_iald 143 gq148 rfl rfl rfl c3 ?_
  refine g_iconst 144 gq148 rfl rfl ?_
  have c7 := h.1
  replace h := h.2
  refine g_icmp_gt 182 147 gq148 rfl rfl rfl c7 (by omega) (fun c => ?_) (fun c => ?_)
  · replace h := h.1 c
    exact kGo.weak (km_Le.s (km_Le.s (km_Le.s (km_Le.s (km_Le.s (km_Le.s km_Le.nil)))))) h
  · replace h := h.2 c
    refine g_aload_n 148 gq148 rfl rfl rfl ?_
    refine g_getA 151 310 gq148 rfl rfl rfl rfl rfl rfl rfl ?_
    refine g_iload_n 152 gq148 rfl rfl rfl ?_
    refine g_iald 153 gq148 rfl rfl rfl c3 ?_
    refine g_iconst 154 gq148 rfl rfl ?_
    refine g_icmp_ne 188 157 gq148 rfl rfl rfl c7 (by omega) (fun c => ?_) (fun c => ?_)
    · replace h := h.1 c
      exact kGo.weak (km_Le.s (km_Le.s (km_Le.s (km_Le.s (km_Le.s (km_Le.s km_Le.nil)))))) h
    · replace h := h.2 c
      refine g_aload_n 158 gq148 rfl rfl rfl ?_
      refine g_getA 161 311 gq148 rfl rfl rfl rfl rfl rfl rfl ?_
      refine g_iload_n 162 gq148 rfl rfl rfl ?_
      refine g_iald 163 gq148 rfl rfl rfl c3 ?_
      refine g_iload 165 gq148 rfl rfl rfl ?_
      have c27 := h.1
      replace h := h.2
      have c29 := h.1
      replace h := h.2
      refine g_icmp_eq 182 168 gq148 rfl rfl rfl c27 c29 (fun c => ?_) (fun c => ?_)
      · replace h := h.1 c
        exact kGo.weak (km_Le.s (km_Le.s (km_Le.s (km_Le.s (km_Le.s (km_Le.s km_Le.nil)))))) h
      · replace h := h.2 c
        refine g_aload_n 169 gq148 rfl rfl rfl ?_
        refine g_getA 172 308 gq148 rfl rfl rfl rfl rfl rfl rfl ?_
        refine g_bipush 174 gq148 rfl rfl rfl ?_
        refine g_iload_n 175 gq148 rfl rfl rfl ?_
        refine g_iadd 176 gq148 rfl rfl ?_
        have c40 := h.1
        replace h := h.2
        refine g_iald 177 gq148 rfl rfl rfl c40 ?_
        refine g_iload 179 gq148 rfl rfl rfl ?_
        have c44 := h.1
        replace h := h.2
        have c46 := h.1
        replace h := h.2
        refine g_icmp_eq 188 182 gq148 rfl rfl rfl c44 c46 (fun c => ?_) (fun c => ?_)
        · replace h := h.1 c
          exact kGo.weak (km_Le.s (km_Le.s (km_Le.s (km_Le.s (km_Le.s (km_Le.s km_Le.nil)))))) h
        · replace h := h.2 c
          exact kGo.weak (km_Le.s (km_Le.s (km_Le.s (km_Le.s (km_Le.s (km_Le.s km_Le.nil)))))) h
set_option maxRecDepth 10000 in
theorem b148_247 {xs : Nat → Int32} {Lx d : Nat} {V : km_V} {Q : Option Value → km_V → Prop} {x1 x2 : Int} 
    (h : kGo xs Lx (d + 1) 148 35 [some (.ref 299), some (kI x1), some (kI (x2 + 1)), none, none, none] [] V Q) :
    kGo xs Lx (d + 1) 148 247 [some (.ref 299), some (kI x1), some (kI x2), none, none, none] [] V Q := by
  refine g_iinc 250 gq148 rfl rfl rfl rfl ?_
  refine g_goto 35 gq148 rfl rfl ?_
  exact kGo.weak (km_Le.s (km_Le.s (km_Le.s (km_Le.n (km_Le.n (km_Le.n km_Le.nil)))))) h
set_option maxRecDepth 10000 in
theorem b148_182 {xs : Nat → Int32} {Lx d : Nat} {V : km_V} {Q : Option Value → km_V → Prop} {x1 x2 x3 x4 x5 : Int} 
    (h : kCV xs Lx (d + 0) 138 4 [.ref 299, kI 3, kI x2] V (fun W1 =>
  kGo xs Lx (d + 1) 148 188 [some (.ref 299), some (kI x1), some (kI x2), some (kI x3), some (kI x4), some (kI x5)] [] W1 Q)) :
    kGo xs Lx (d + 1) 148 182 [some (.ref 299), some (kI x1), some (kI x2), some (kI x3), some (kI x4), some (kI x5)] [] V Q := by
  refine g_aload_n 183 gq148 rfl rfl rfl ?_
  refine g_iconst 184 gq148 rfl rfl ?_
  refine g_iload_n 185 gq148 rfl rfl rfl ?_
  refine g_virt 138 _ (i := 238) gq148 rfl rfl gq138 rfl rfl rfl rfl rfl rfl ?_
  refine kGo.mono h (fun r W1 hr => ?_)
  obtain ⟨rfl, h⟩ := hr
  exact kGo.weak (km_Le.s (km_Le.s (km_Le.s (km_Le.s (km_Le.s (km_Le.s km_Le.nil)))))) h
set_option maxRecDepth 10000 in
theorem b148_188 {xs : Nat → Int32} {Lx d : Nat} {V : km_V} {Q : Option Value → km_V → Prop} {x1 x2 x3 x4 x5 : Int} 
    (h : (0 ≤ x3 ∧ x3 < (8 : Nat)) ∧ (kR (V 310 (Int.toNat x3))) ∧ (((V 310 (Int.toNat x3)) ≠ 0 →
    kGo xs Lx (d + 1) 148 216 [some (.ref 299), some (kI x1), some (kI x2), some (kI x3), some (kI x4), none] [] V Q) ∧
   ((V 310 (Int.toNat x3)) = 0 →
    (0 ≤ (70 + x3) ∧ (70 + x3) < (78 : Nat)) ∧ kGo xs Lx (d + 1) 148 216 [some (.ref 299), some (kI x1), some (kI x2), some (kI x3), some (kI x4), none] [] (up (up V 311 (Int.toNat x3) x4) 308 (Int.toNat (70 + x3)) x5) Q))) :
    kGo xs Lx (d + 1) 148 188 [some (.ref 299), some (kI x1), some (kI x2), some (kI x3), some (kI x4), some (kI x5)] [] V Q := by
  refine g_aload_n 189 gq148 rfl rfl rfl ?_
  refine g_getA 192 310 gq148 rfl rfl rfl rfl rfl rfl rfl ?_
  refine g_iload_n 193 gq148 rfl rfl rfl ?_
  have c3 := h.1
  replace h := h.2
  refine g_iald 194 gq148 rfl rfl rfl c3 ?_
  have c6 := h.1
  replace h := h.2
  refine g_if_ne 216 197 gq148 rfl rfl rfl c6 (fun c => ?_) (fun c => ?_)
  · replace h := h.1 c
    exact kGo.weak (km_Le.s (km_Le.s (km_Le.s (km_Le.s (km_Le.s (km_Le.n km_Le.nil)))))) h
  · replace h := h.2 c
    refine g_aload_n 198 gq148 rfl rfl rfl ?_
    refine g_getA 201 311 gq148 rfl rfl rfl rfl rfl rfl rfl ?_
    refine g_iload_n 202 gq148 rfl rfl rfl ?_
    refine g_iload 204 gq148 rfl rfl rfl ?_
    refine g_iast 205 gq148 rfl rfl rfl c3 ?_
    refine g_aload_n 206 gq148 rfl rfl rfl ?_
    refine g_getA 209 308 gq148 rfl rfl rfl rfl rfl rfl rfl ?_
    refine g_bipush 211 gq148 rfl rfl rfl ?_
    refine g_iload_n 212 gq148 rfl rfl rfl ?_
    refine g_iadd 213 gq148 rfl rfl ?_
    refine g_iload 215 gq148 rfl rfl rfl ?_
    have c23 := h.1
    replace h := h.2
    refine g_iast 216 gq148 rfl rfl rfl c23 ?_
    exact kGo.weak (km_Le.s (km_Le.s (km_Le.s (km_Le.s (km_Le.s (km_Le.n km_Le.nil)))))) h
set_option maxRecDepth 10000 in
theorem b148_216 {xs : Nat → Int32} {Lx d : Nat} {V : km_V} {Q : Option Value → km_V → Prop} {x1 x2 x3 x4 : Int} 
    (h : (0 ≤ x3 ∧ x3 < (8 : Nat)) ∧ (kR ((up V 310 (Int.toNat x3) ((V 310 (Int.toNat x3)) + 1)) 299 14)) ∧ ((((up V 310 (Int.toNat x3) ((V 310 (Int.toNat x3)) + 1)) 299 14) ≠ 0 →
    kGo xs Lx (d + 1) 148 247 [some (.ref 299), some (kI x1), some (kI x2), none, none, none] [] (up V 310 (Int.toNat x3) ((V 310 (Int.toNat x3)) + 1)) Q) ∧
   (((up V 310 (Int.toNat x3) ((V 310 (Int.toNat x3)) + 1)) 299 14) = 0 →
    kCV xs Lx (d + 0) 149 3 [.ref 308, kI x1, kI ((2 * x3) + x4)] (up V 310 (Int.toNat x3) ((V 310 (Int.toNat x3)) + 1)) (fun W1 =>
    kGo xs Lx (d + 1) 148 247 [some (.ref 299), some (kI x1), some (kI x2), none, none, none] [] W1 Q)))) :
    kGo xs Lx (d + 1) 148 216 [some (.ref 299), some (kI x1), some (kI x2), some (kI x3), some (kI x4), none] [] V Q := by
  refine g_aload_n 217 gq148 rfl rfl rfl ?_
  refine g_getA 220 310 gq148 rfl rfl rfl rfl rfl rfl rfl ?_
  refine g_iload_n 221 gq148 rfl rfl rfl ?_
  refine g_dup2 222 gq148 rfl rfl rfl rfl ?_
  have c4 := h.1
  replace h := h.2
  refine g_iald 223 gq148 rfl rfl rfl c4 ?_
  refine g_iconst 224 gq148 rfl rfl ?_
  refine g_iadd 225 gq148 rfl rfl ?_
  refine g_iast 226 gq148 rfl rfl rfl c4 ?_
  refine g_aload_n 227 gq148 rfl rfl rfl ?_
  refine g_getI 230 gq148 rfl rfl rfl rfl rfl rfl ?_
  have c12 := h.1
  replace h := h.2
  refine g_if_ne 247 233 gq148 rfl rfl rfl c12 (fun c => ?_) (fun c => ?_)
  · replace h := h.1 c
    exact kGo.weak (km_Le.s (km_Le.s (km_Le.s (km_Le.n (km_Le.n (km_Le.n km_Le.nil)))))) h
  · replace h := h.2 c
    refine g_aload_n 234 gq148 rfl rfl rfl ?_
    refine g_getA 237 308 gq148 rfl rfl rfl rfl rfl rfl rfl ?_
    refine g_iload_n 238 gq148 rfl rfl rfl ?_
    refine g_iconst 239 gq148 rfl rfl ?_
    refine g_iload_n 240 gq148 rfl rfl rfl ?_
    refine g_imul 241 gq148 rfl rfl ?_
    refine g_iload 243 gq148 rfl rfl rfl ?_
    refine g_iadd 244 gq148 rfl rfl ?_
    refine g_static 149 _ (i := 242) gq148 rfl rfl gq149 rfl rfl rfl rfl ?_
    refine kGo.mono h (fun r W1 hr => ?_)
    obtain ⟨rfl, h⟩ := hr
    exact kGo.weak (km_Le.s (km_Le.s (km_Le.s (km_Le.n (km_Le.n (km_Le.n km_Le.nil)))))) h
set_option maxRecDepth 10000 in
theorem b149_0 {xs : Nat → Int32} {Lx d : Nat} {V : km_V} {Q : Option Value → km_V → Prop} {a1 a2 : Int} {r0 : Nat} (hr0 : km_sh[r0]? = some (11, 78))
    (h : (0 ≤ (2 + a1) ∧ (2 + a1) < (78 : Nat)) ∧ (0 ≤ ((6 + (16 * a1)) + (V r0 (Int.toNat (2 + a1)))) ∧ ((6 + (16 * a1)) + (V r0 (Int.toNat (2 + a1)))) < (78 : Nat)) ∧ Q none (up (up V r0 (Int.toNat ((6 + (16 * a1)) + (V r0 (Int.toNat (2 + a1))))) a2) r0 (Int.toNat (2 + a1)) (((up V r0 (Int.toNat ((6 + (16 * a1)) + (V r0 (Int.toNat (2 + a1))))) a2) r0 (Int.toNat (2 + a1))) + 1))) :
    kGo xs Lx (d + 0) 149 0 [some (.ref r0), some (kI a1), some (kI a2)] [] V Q := by
  refine g_aload_n 1 gq149 rfl rfl rfl ?_
  refine g_bipush 3 gq149 rfl rfl rfl ?_
  refine g_bipush 5 gq149 rfl rfl rfl ?_
  refine g_iload_n 6 gq149 rfl rfl rfl ?_
  refine g_imul 7 gq149 rfl rfl ?_
  refine g_iadd 8 gq149 rfl rfl ?_
  refine g_aload_n 9 gq149 rfl rfl rfl ?_
  refine g_iconst 10 gq149 rfl rfl ?_
  refine g_iload_n 11 gq149 rfl rfl rfl ?_
  refine g_iadd 12 gq149 rfl rfl ?_
  have c10 := h.1
  replace h := h.2
  refine g_iald 13 gq149 rfl rfl hr0 c10 ?_
  refine g_iadd 14 gq149 rfl rfl ?_
  refine g_iload_n 15 gq149 rfl rfl rfl ?_
  have c15 := h.1
  replace h := h.2
  refine g_iast 16 gq149 rfl rfl hr0 c15 ?_
  refine g_aload_n 17 gq149 rfl rfl rfl ?_
  refine g_iconst 18 gq149 rfl rfl ?_
  refine g_iload_n 19 gq149 rfl rfl rfl ?_
  refine g_iadd 20 gq149 rfl rfl ?_
  refine g_dup2 21 gq149 rfl rfl rfl rfl ?_
  refine g_iald 22 gq149 rfl rfl hr0 c10 ?_
  refine g_iconst 23 gq149 rfl rfl ?_
  refine g_iadd 24 gq149 rfl rfl ?_
  refine g_iast 25 gq149 rfl rfl hr0 c10 ?_
  exact g_vret gq149 rfl rfl h
set_option maxRecDepth 10000 in
theorem b150_0 {xs : Nat → Int32} {Lx d : Nat} {V : km_V} {Q : Option Value → km_V → Prop} 
    (h : kGo xs Lx (d + 1) 150 2 [some (.ref 299), some (kI 0)] [] V Q) :
    kGo xs Lx (d + 1) 150 0 [some (.ref 299), none] [] V Q := by
  refine g_iconst 1 gq150 rfl rfl ?_
  refine g_istore_n 2 gq150 rfl rfl rfl ?_
  exact kGo.weak (km_Le.s (km_Le.s km_Le.nil)) h
set_option maxRecDepth 10000 in
theorem b150_2 {xs : Nat → Int32} {Lx d : Nat} {V : km_V} {Q : Option Value → km_V → Prop} {x1 : Int} 
    (h : (kR x1) ∧ (kR (V 299 10)) ∧ (((V 299 10) ≤ x1 →
    Q none V) ∧
   (x1 < (V 299 10) →
    (0 ≤ x1 ∧ x1 < (403 : Nat)) ∧ (kR (V 302 (Int.toNat x1))) ∧ (((V 302 (Int.toNat x1)) ≠ 2 →
      kGo xs Lx (d + 1) 150 2 [some (.ref 299), some (kI (x1 + 1))] [] V Q) ∧
     ((V 302 (Int.toNat x1)) = 2 →
      kCI xs Lx (d + 0) 145 3 [.ref 299, kI (V 304 (Int.toNat x1))] V (fun y1 W1 =>
      (0 ≤ y1 ∧ y1 < (8 : Nat)) ∧ (kR (W1 310 (Int.toNat y1))) ∧ (((W1 310 (Int.toNat y1)) ≠ 1 →
        kGo xs Lx (d + 1) 150 2 [some (.ref 299), some (kI (x1 + 1))] [] W1 Q) ∧
       ((W1 310 (Int.toNat y1)) = 1 →
        kCV xs Lx (d + 0) 138 4 [.ref 299, kI 4, kI x1] W1 (fun W2 =>
        kGo xs Lx (d + 1) 150 2 [some (.ref 299), some (kI (x1 + 1))] [] W2 Q))))))))) :
    kGo xs Lx (d + 1) 150 2 [some (.ref 299), some (kI x1)] [] V Q := by
  refine g_iload_n 3 gq150 rfl rfl rfl ?_
  refine g_aload_n 4 gq150 rfl rfl rfl ?_
  refine g_getI 7 gq150 rfl rfl rfl rfl rfl rfl ?_
  have c3 := h.1
  replace h := h.2
  have c5 := h.1
  replace h := h.2
  refine g_icmp_ge 51 10 gq150 rfl rfl rfl c3 c5 (fun c => ?_) (fun c => ?_)
  · replace h := h.1 c
    exact g_vret gq150 rfl rfl h
  · replace h := h.2 c
    refine g_aload_n 11 gq150 rfl rfl rfl ?_
    refine g_getA 14 302 gq150 rfl rfl rfl rfl rfl rfl rfl ?_
    refine g_iload_n 15 gq150 rfl rfl rfl ?_
    have c14 := h.1
    replace h := h.2
    refine g_iald 16 gq150 rfl rfl rfl c14 ?_
    refine g_iconst 17 gq150 rfl rfl ?_
    have c18 := h.1
    replace h := h.2
    refine g_icmp_ne 45 20 gq150 rfl rfl rfl c18 (by omega) (fun c => ?_) (fun c => ?_)
    · replace h := h.1 c
      refine g_iinc 48 gq150 rfl rfl rfl rfl ?_
      refine g_goto 2 gq150 rfl rfl ?_
      exact kGo.weak (km_Le.s (km_Le.s km_Le.nil)) h
    · replace h := h.2 c
      refine g_aload_n 21 gq150 rfl rfl rfl ?_
      refine g_getA 24 310 gq150 rfl rfl rfl rfl rfl rfl rfl ?_
      refine g_aload_n 25 gq150 rfl rfl rfl ?_
      refine g_aload_n 26 gq150 rfl rfl rfl ?_
      refine g_getA 29 304 gq150 rfl rfl rfl rfl rfl rfl rfl ?_
      refine g_iload_n 30 gq150 rfl rfl rfl ?_
      refine g_iald 31 gq150 rfl rfl rfl c14 ?_
      refine g_virt 145 _ (i := 222) gq150 rfl rfl gq145 rfl rfl rfl rfl rfl rfl ?_
      refine kGo.mono h (fun r W1 hr => ?_)
      obtain ⟨y1, rfl, h⟩ := hr
      have c36 := h.1
      replace h := h.2
      refine g_iald 35 gq150 rfl rfl rfl c36 ?_
      refine g_iconst 36 gq150 rfl rfl ?_
      have c40 := h.1
      replace h := h.2
      refine g_icmp_ne 45 39 gq150 rfl rfl rfl c40 (by omega) (fun c => ?_) (fun c => ?_)
      · replace h := h.1 c
        refine g_iinc 48 gq150 rfl rfl rfl rfl ?_
        refine g_goto 2 gq150 rfl rfl ?_
        exact kGo.weak (km_Le.s (km_Le.s km_Le.nil)) h
      · replace h := h.2 c
        refine g_aload_n 40 gq150 rfl rfl rfl ?_
        refine g_iconst 41 gq150 rfl rfl ?_
        refine g_iload_n 42 gq150 rfl rfl rfl ?_
        refine g_virt 138 _ (i := 238) gq150 rfl rfl gq138 rfl rfl rfl rfl rfl rfl ?_
        refine kGo.mono h (fun r W2 hr => ?_)
        obtain ⟨rfl, h⟩ := hr
        refine g_iinc 48 gq150 rfl rfl rfl rfl ?_
        refine g_goto 2 gq150 rfl rfl ?_
        exact kGo.weak (km_Le.s (km_Le.s km_Le.nil)) h
set_option maxRecDepth 10000 in
theorem b151_0 {xs : Nat → Int32} {Lx d : Nat} {V : km_V} {Q : Option Value → km_V → Prop} 
    (h : (∀ z1 : Int, z1 = (V 304 (Int.toNat 1)) → (kR z1) ∧ (kR (kin z1 2 4)) ∧ (((kin z1 2 4) ≠ 0 →
    kGo xs Lx (d + 2) 151 27 [some (.ref 299), some (kI z1), some (kI 0), some (kI 2), none, none] [] V Q) ∧
   ((kin z1 2 4) = 0 →
    kCV xs Lx (d + 1) 138 4 [.ref 299, kI 5, kI 1] V (fun W2 =>
    Q none W2))))) :
    kGo xs Lx (d + 2) 151 0 [some (.ref 299), none, none, none, none, none] [] V Q := by
  refine g_aload_n 1 gq151 rfl rfl rfl ?_
  refine g_getA 4 304 gq151 rfl rfl rfl rfl rfl rfl rfl ?_
  refine g_iconst 5 gq151 rfl rfl ?_
  refine g_iald 6 gq151 rfl rfl rfl (by omega) ?_
  refine g_istore_n 7 gq151 rfl rfl rfl ?_
  replace h := h _ rfl
  refine g_iload_n 8 gq151 rfl rfl rfl ?_
  refine g_iconst 9 gq151 rfl rfl ?_
  refine g_iconst 10 gq151 rfl rfl ?_
  have c9 := h.1
  replace h := h.2
  refine g_static 153 _ (i := 246) gq151 rfl rfl gq153 rfl rfl rfl rfl ?_
  refine sp_in c9 (by omega) (by omega) ?_
  have c13 := h.1
  replace h := h.2
  refine g_if_ne 23 16 gq151 rfl rfl rfl c13 (fun c => ?_) (fun c => ?_)
  · replace h := h.1 c
    refine g_iconst 24 gq151 rfl rfl ?_
    refine g_istore_n 25 gq151 rfl rfl rfl ?_
    refine g_iconst 26 gq151 rfl rfl ?_
    refine g_istore_n 27 gq151 rfl rfl rfl ?_
    exact kGo.weak (km_Le.s (km_Le.s (km_Le.s (km_Le.s (km_Le.n (km_Le.n km_Le.nil)))))) h
  · replace h := h.2 c
    refine g_aload_n 17 gq151 rfl rfl rfl ?_
    refine g_iconst 18 gq151 rfl rfl ?_
    refine g_iconst 19 gq151 rfl rfl ?_
    refine g_virt 138 _ (i := 238) gq151 rfl rfl gq138 rfl rfl rfl rfl rfl rfl ?_
    refine kGo.mono h (fun r W2 hr => ?_)
    obtain ⟨rfl, h⟩ := hr
    exact g_vret gq151 rfl rfl h
set_option maxRecDepth 10000 in
theorem b151_27 {xs : Nat → Int32} {Lx d : Nat} {V : km_V} {Q : Option Value → km_V → Prop} {x1 x2 x3 : Int} 
    (h : (0 ≤ x3 ∧ x3 < (403 : Nat)) ∧ (kR (V 302 (Int.toNat x3))) ∧ (((V 302 (Int.toNat x3)) = 4 →
    (kR ((up V 308 (Int.toNat 1) x2) 299 14)) ∧ ((((up V 308 (Int.toNat 1) x2) 299 14) ≤ 0 →
      kGo xs Lx (d + 2) 151 142 [some (.ref 299), some (kI x1), some (kI x2), some (kI 0), some (kI 0), none] [] (up V 308 (Int.toNat 1) x2) Q) ∧
     (0 < ((up V 308 (Int.toNat 1) x2) 299 14) →
      Q none (up V 308 (Int.toNat 1) x2)))) ∧
   ((V 302 (Int.toNat x3)) ≠ 4 →
    (((V 302 (Int.toNat x3)) = 2 →
      (kR (V 304 (Int.toNat x3))) ∧ (kR (x1 - 1)) ∧ (kR (kin (V 304 (Int.toNat x3)) 1 (x1 - 1))) ∧ (((kin (V 304 (Int.toNat x3)) 1 (x1 - 1)) ≠ 0 →
        (0 ≤ x2 ∧ x2 < (8 : Nat)) ∧ (0 ≤ (x3 - 1) ∧ (x3 - 1) < (403 : Nat)) ∧ (kR ((up V 312 (Int.toNat x2) ((V 304 (Int.toNat x3)) - 1)) 302 (Int.toNat (x3 - 1)))) ∧ ((((up V 312 (Int.toNat x2) ((V 304 (Int.toNat x3)) - 1)) 302 (Int.toNat (x3 - 1))) ≠ 6 →
          (0 ≤ (70 + x2) ∧ (70 + x2) < (78 : Nat)) ∧ kGo xs Lx (d + 2) 151 27 [some (.ref 299), some (kI x1), some (kI (x2 + 1)), some (kI (x3 + 1)), none, none] [] (up (up V 312 (Int.toNat x2) ((V 304 (Int.toNat x3)) - 1)) 308 (Int.toNat (70 + x2)) 1) Q) ∧
         (((up V 312 (Int.toNat x2) ((V 304 (Int.toNat x3)) - 1)) 302 (Int.toNat (x3 - 1))) = 6 →
          (0 ≤ (70 + x2) ∧ (70 + x2) < (78 : Nat)) ∧ kGo xs Lx (d + 2) 151 27 [some (.ref 299), some (kI x1), some (kI (x2 + 1)), some (kI (x3 + 1)), none, none] [] (up (up V 312 (Int.toNat x2) ((V 304 (Int.toNat x3)) - 1)) 308 (Int.toNat (70 + x2)) (-1)) Q))) ∧
       ((kin (V 304 (Int.toNat x3)) 1 (x1 - 1)) = 0 →
        kCV xs Lx (d + 1) 138 4 [.ref 299, kI 5, kI x3] V (fun W1 =>
        (0 ≤ x2 ∧ x2 < (8 : Nat)) ∧ (0 ≤ (x3 - 1) ∧ (x3 - 1) < (403 : Nat)) ∧ (kR ((up W1 312 (Int.toNat x2) ((W1 304 (Int.toNat x3)) - 1)) 302 (Int.toNat (x3 - 1)))) ∧ ((((up W1 312 (Int.toNat x2) ((W1 304 (Int.toNat x3)) - 1)) 302 (Int.toNat (x3 - 1))) ≠ 6 →
          (0 ≤ (70 + x2) ∧ (70 + x2) < (78 : Nat)) ∧ kGo xs Lx (d + 2) 151 27 [some (.ref 299), some (kI x1), some (kI (x2 + 1)), some (kI (x3 + 1)), none, none] [] (up (up W1 312 (Int.toNat x2) ((W1 304 (Int.toNat x3)) - 1)) 308 (Int.toNat (70 + x2)) 1) Q) ∧
         (((up W1 312 (Int.toNat x2) ((W1 304 (Int.toNat x3)) - 1)) 302 (Int.toNat (x3 - 1))) = 6 →
          (0 ≤ (70 + x2) ∧ (70 + x2) < (78 : Nat)) ∧ kGo xs Lx (d + 2) 151 27 [some (.ref 299), some (kI x1), some (kI (x2 + 1)), some (kI (x3 + 1)), none, none] [] (up (up W1 312 (Int.toNat x2) ((W1 304 (Int.toNat x3)) - 1)) 308 (Int.toNat (70 + x2)) (-1)) Q)))))) ∧
     ((V 302 (Int.toNat x3)) ≠ 2 →
      kGo xs Lx (d + 2) 151 27 [some (.ref 299), some (kI x1), some (kI x2), some (kI (x3 + 1)), none, none] [] V Q))))) :
    kGo xs Lx (d + 2) 151 27 [some (.ref 299), some (kI x1), some (kI x2), some (kI x3), none, none] [] V Q := by
  refine g_aload_n 28 gq151 rfl rfl rfl ?_
  refine g_getA 31 302 gq151 rfl rfl rfl rfl rfl rfl rfl ?_
  refine g_iload_n 32 gq151 rfl rfl rfl ?_
  have c3 := h.1
  replace h := h.2
  refine g_iald 33 gq151 rfl rfl rfl c3 ?_
  refine g_iconst 34 gq151 rfl rfl ?_
  have c7 := h.1
  replace h := h.2
  refine g_icmp_eq 122 37 gq151 rfl rfl rfl c7 (by omega) (fun c => ?_) (fun c => ?_)
  · replace h := h.1 c
    refine g_aload_n 123 gq151 rfl rfl rfl ?_
    refine g_getA 126 308 gq151 rfl rfl rfl rfl rfl rfl rfl ?_
    refine g_iconst 127 gq151 rfl rfl ?_
    refine g_iload_n 128 gq151 rfl rfl rfl ?_
    refine g_iast 129 gq151 rfl rfl rfl (by omega) ?_
    refine g_aload_n 130 gq151 rfl rfl rfl ?_
    refine g_getI 133 gq151 rfl rfl rfl rfl rfl rfl ?_
    have c18 := h.1
    replace h := h.2
    refine g_if_le 137 136 gq151 rfl rfl rfl c18 (fun c => ?_) (fun c => ?_)
    · replace h := h.1 c
      refine g_iconst 138 gq151 rfl rfl ?_
      refine g_istore_n 139 gq151 rfl rfl rfl ?_
      refine g_iconst 140 gq151 rfl rfl ?_
      refine g_istore 142 gq151 rfl rfl rfl ?_
      exact kGo.weak (km_Le.s (km_Le.s (km_Le.s (km_Le.s (km_Le.s (km_Le.n km_Le.nil)))))) h
    · replace h := h.2 c
      exact g_vret gq151 rfl rfl h
  · replace h := h.2 c
    refine g_aload_n 38 gq151 rfl rfl rfl ?_
    refine g_getA 41 302 gq151 rfl rfl rfl rfl rfl rfl rfl ?_
    refine g_iload_n 42 gq151 rfl rfl rfl ?_
    refine g_iald 43 gq151 rfl rfl rfl c3 ?_
    refine g_iconst 44 gq151 rfl rfl ?_
    refine g_icmp_eq 50 47 gq151 rfl rfl rfl c7 (by omega) (fun c => ?_) (fun c => ?_)
    · replace h := h.1 c
      refine g_aload_n 51 gq151 rfl rfl rfl ?_
      refine g_getA 54 304 gq151 rfl rfl rfl rfl rfl rfl rfl ?_
      refine g_iload_n 55 gq151 rfl rfl rfl ?_
      refine g_iald 56 gq151 rfl rfl rfl c3 ?_
      refine g_iconst 57 gq151 rfl rfl ?_
      refine g_iload_n 58 gq151 rfl rfl rfl ?_
      refine g_iconst 59 gq151 rfl rfl ?_
      refine g_isub 60 gq151 rfl rfl ?_
      have c45 := h.1
      replace h := h.2
      have c47 := h.1
      replace h := h.2
      refine g_static 153 _ (i := 246) gq151 rfl rfl gq153 rfl rfl rfl rfl ?_
      refine sp_in c45 (by omega) c47 ?_
      have c51 := h.1
      replace h := h.2
      refine g_if_ne 72 66 gq151 rfl rfl rfl c51 (fun c => ?_) (fun c => ?_)
      · replace h := h.1 c
        refine g_aload_n 73 gq151 rfl rfl rfl ?_
        refine g_getA 76 312 gq151 rfl rfl rfl rfl rfl rfl rfl ?_
        refine g_iload_n 77 gq151 rfl rfl rfl ?_
        refine g_aload_n 78 gq151 rfl rfl rfl ?_
        refine g_getA 81 304 gq151 rfl rfl rfl rfl rfl rfl rfl ?_
        refine g_iload_n 82 gq151 rfl rfl rfl ?_
        refine g_iald 83 gq151 rfl rfl rfl c3 ?_
        refine g_iconst 84 gq151 rfl rfl ?_
        refine g_isub 85 gq151 rfl rfl ?_
        have c64 := h.1
        replace h := h.2
        refine g_iast 86 gq151 rfl rfl rfl c64 ?_
        refine g_aload_n 87 gq151 rfl rfl rfl ?_
        refine g_getA 90 308 gq151 rfl rfl rfl rfl rfl rfl rfl ?_
        refine g_bipush 92 gq151 rfl rfl rfl ?_
        refine g_iload_n 93 gq151 rfl rfl rfl ?_
        refine g_iadd 94 gq151 rfl rfl ?_
        refine g_aload_n 95 gq151 rfl rfl rfl ?_
        refine g_getA 98 302 gq151 rfl rfl rfl rfl rfl rfl rfl ?_
        refine g_iload_n 99 gq151 rfl rfl rfl ?_
        refine g_iconst 100 gq151 rfl rfl ?_
        refine g_isub 101 gq151 rfl rfl ?_
        have c77 := h.1
        replace h := h.2
        refine g_iald 102 gq151 rfl rfl rfl c77 ?_
        refine g_bipush 104 gq151 rfl rfl rfl ?_
        have c81 := h.1
        replace h := h.2
        refine g_icmp_ne 111 107 gq151 rfl rfl rfl c81 (by omega) (fun c => ?_) (fun c => ?_)
        · replace h := h.1 c
          refine g_iconst 112 gq151 rfl rfl ?_
          have c86 := h.1
          replace h := h.2
          refine g_iast 113 gq151 rfl rfl rfl c86 ?_
          refine g_iinc 116 gq151 rfl rfl rfl rfl ?_
          refine g_iinc 119 gq151 rfl rfl rfl rfl ?_
          refine g_goto 27 gq151 rfl rfl ?_
          exact kGo.weak (km_Le.s (km_Le.s (km_Le.s (km_Le.s (km_Le.n (km_Le.n km_Le.nil)))))) h
        · replace h := h.2 c
          refine g_iconst 108 gq151 rfl rfl ?_
          refine g_goto 112 gq151 rfl rfl ?_
          have c96 := h.1
          replace h := h.2
          refine g_iast 113 gq151 rfl rfl rfl c96 ?_
          refine g_iinc 116 gq151 rfl rfl rfl rfl ?_
          refine g_iinc 119 gq151 rfl rfl rfl rfl ?_
          refine g_goto 27 gq151 rfl rfl ?_
          exact kGo.weak (km_Le.s (km_Le.s (km_Le.s (km_Le.s (km_Le.n (km_Le.n km_Le.nil)))))) h
      · replace h := h.2 c
        refine g_aload_n 67 gq151 rfl rfl rfl ?_
        refine g_iconst 68 gq151 rfl rfl ?_
        refine g_iload_n 69 gq151 rfl rfl rfl ?_
        refine g_virt 138 _ (i := 238) gq151 rfl rfl gq138 rfl rfl rfl rfl rfl rfl ?_
        refine kGo.mono h (fun r W1 hr => ?_)
        obtain ⟨rfl, h⟩ := hr
        refine g_aload_n 73 gq151 rfl rfl rfl ?_
        refine g_getA 76 312 gq151 rfl rfl rfl rfl rfl rfl rfl ?_
        refine g_iload_n 77 gq151 rfl rfl rfl ?_
        refine g_aload_n 78 gq151 rfl rfl rfl ?_
        refine g_getA 81 304 gq151 rfl rfl rfl rfl rfl rfl rfl ?_
        refine g_iload_n 82 gq151 rfl rfl rfl ?_
        refine g_iald 83 gq151 rfl rfl rfl c3 ?_
        refine g_iconst 84 gq151 rfl rfl ?_
        refine g_isub 85 gq151 rfl rfl ?_
        have c119 := h.1
        replace h := h.2
        refine g_iast 86 gq151 rfl rfl rfl c119 ?_
        refine g_aload_n 87 gq151 rfl rfl rfl ?_
        refine g_getA 90 308 gq151 rfl rfl rfl rfl rfl rfl rfl ?_
        refine g_bipush 92 gq151 rfl rfl rfl ?_
        refine g_iload_n 93 gq151 rfl rfl rfl ?_
        refine g_iadd 94 gq151 rfl rfl ?_
        refine g_aload_n 95 gq151 rfl rfl rfl ?_
        refine g_getA 98 302 gq151 rfl rfl rfl rfl rfl rfl rfl ?_
        refine g_iload_n 99 gq151 rfl rfl rfl ?_
        refine g_iconst 100 gq151 rfl rfl ?_
        refine g_isub 101 gq151 rfl rfl ?_
        have c132 := h.1
        replace h := h.2
        refine g_iald 102 gq151 rfl rfl rfl c132 ?_
        refine g_bipush 104 gq151 rfl rfl rfl ?_
        have c136 := h.1
        replace h := h.2
        refine g_icmp_ne 111 107 gq151 rfl rfl rfl c136 (by omega) (fun c => ?_) (fun c => ?_)
        · replace h := h.1 c
          refine g_iconst 112 gq151 rfl rfl ?_
          have c141 := h.1
          replace h := h.2
          refine g_iast 113 gq151 rfl rfl rfl c141 ?_
          refine g_iinc 116 gq151 rfl rfl rfl rfl ?_
          refine g_iinc 119 gq151 rfl rfl rfl rfl ?_
          refine g_goto 27 gq151 rfl rfl ?_
          exact kGo.weak (km_Le.s (km_Le.s (km_Le.s (km_Le.s (km_Le.n (km_Le.n km_Le.nil)))))) h
        · replace h := h.2 c
          refine g_iconst 108 gq151 rfl rfl ?_
          refine g_goto 112 gq151 rfl rfl ?_
          have c151 := h.1
          replace h := h.2
          refine g_iast 113 gq151 rfl rfl rfl c151 ?_
          refine g_iinc 116 gq151 rfl rfl rfl rfl ?_
          refine g_iinc 119 gq151 rfl rfl rfl rfl ?_
          refine g_goto 27 gq151 rfl rfl ?_
          exact kGo.weak (km_Le.s (km_Le.s (km_Le.s (km_Le.s (km_Le.n (km_Le.n km_Le.nil)))))) h
    · replace h := h.2 c
      refine g_goto 116 gq151 rfl rfl ?_
      refine g_iinc 119 gq151 rfl rfl rfl rfl ?_
      refine g_goto 27 gq151 rfl rfl ?_
      exact kGo.weak (km_Le.s (km_Le.s (km_Le.s (km_Le.s (km_Le.n (km_Le.n km_Le.nil)))))) h
set_option maxRecDepth 10000 in
theorem b151_142 {xs : Nat → Int32} {Lx d : Nat} {V : km_V} {Q : Option Value → km_V → Prop} {x1 x2 x3 x4 : Int} 
    (h : (kR x4) ∧ (kR x1) ∧ ((x1 ≤ x4 →
    Q none V) ∧
   (x4 < x1 →
    ((kR x3 ∧ (0 ≤ x4 ∧ x4 < 32))) ∧ (kR (khas x3 x4)) ∧ (((khas x3 x4) = 0 →
      kGo xs Lx (d + 2) 151 164 [some (.ref 299), some (kI x1), some (kI x2), some (kI x3), some (kI x4), some (kI x4)] [] V Q) ∧
     ((khas x3 x4) ≠ 0 →
      kGo xs Lx (d + 2) 151 142 [some (.ref 299), some (kI x1), some (kI x2), some (kI x3), some (kI (x4 + 1)), none] [] V Q))))) :
    kGo xs Lx (d + 2) 151 142 [some (.ref 299), some (kI x1), some (kI x2), some (kI x3), some (kI x4), none] [] V Q := by
  refine g_iload 144 gq151 rfl rfl rfl ?_
  refine g_iload_n 145 gq151 rfl rfl rfl ?_
  have c2 := h.1
  replace h := h.2
  have c4 := h.1
  replace h := h.2
  refine g_icmp_ge 208 148 gq151 rfl rfl rfl c2 c4 (fun c => ?_) (fun c => ?_)
  · replace h := h.1 c
    exact g_vret gq151 rfl rfl h
  · replace h := h.2 c
    refine g_iload_n 149 gq151 rfl rfl rfl ?_
    refine g_iload 151 gq151 rfl rfl rfl ?_
    have c12 := h.1
    replace h := h.2
    refine g_static 154 _ (i := 250) gq151 rfl rfl gq154 rfl rfl rfl rfl ?_
    refine sp_has c12 ?_
    have c16 := h.1
    replace h := h.2
    refine g_if_eq 160 157 gq151 rfl rfl rfl c16 (fun c => ?_) (fun c => ?_)
    · replace h := h.1 c
      refine g_iload 162 gq151 rfl rfl rfl ?_
      refine g_istore 164 gq151 rfl rfl rfl ?_
      exact kGo.weak (km_Le.s (km_Le.s (km_Le.s (km_Le.s (km_Le.s (km_Le.s km_Le.nil)))))) h
    · replace h := h.2 c
      refine g_goto 202 gq151 rfl rfl ?_
      refine g_iinc 205 gq151 rfl rfl rfl rfl ?_
      refine g_goto 142 gq151 rfl rfl ?_
      exact kGo.weak (km_Le.s (km_Le.s (km_Le.s (km_Le.s (km_Le.s (km_Le.n km_Le.nil)))))) h
set_option maxRecDepth 10000 in
theorem b151_164 {xs : Nat → Int32} {Lx d : Nat} {V : km_V} {Q : Option Value → km_V → Prop} {x1 x2 x3 x4 x5 : Int} 
    (h : ((kR x3 ∧ (0 ≤ x5 ∧ x5 < 32))) ∧ (kR (khas x3 x5)) ∧ (((khas x3 x5) ≠ 0 →
    kGo xs Lx (d + 2) 151 142 [some (.ref 299), some (kI x1), some (kI x2), some (kI x3), some (kI (x4 + 1)), none] [] (up V 308 (Int.toNat 0) ((V 308 (Int.toNat 0)) + 1)) Q) ∧
   ((khas x3 x5) = 0 →
    (0 ≤ x5 ∧ x5 < 32) ∧ (0 ≤ x3) ∧ (0 ≤ (1 * ((2 ^ Int.toNat x5 : Nat) : Int))) ∧ (∀ z1 : Int, z1 = ((Int.toNat x3 ||| Int.toNat (1 * ((2 ^ Int.toNat x5 : Nat) : Int)) : Nat) : Int) → kCI xs Lx (d + 1) 152 7 [.ref 299, kI x5, kI x2] V (fun y2 W2 =>
    kGo xs Lx (d + 2) 151 164 [some (.ref 299), some (kI x1), some (kI x2), some (kI z1), some (kI x4), some (kI y2)] [] W2 Q))))) :
    kGo xs Lx (d + 2) 151 164 [some (.ref 299), some (kI x1), some (kI x2), some (kI x3), some (kI x4), some (kI x5)] [] V Q := by
  refine g_iload_n 165 gq151 rfl rfl rfl ?_
  refine g_iload 167 gq151 rfl rfl rfl ?_
  have c2 := h.1
  replace h := h.2
  refine g_static 154 _ (i := 250) gq151 rfl rfl gq154 rfl rfl rfl rfl ?_
  refine sp_has c2 ?_
  have c6 := h.1
  replace h := h.2
  refine g_if_ne 192 173 gq151 rfl rfl rfl c6 (fun c => ?_) (fun c => ?_)
  · replace h := h.1 c
    refine g_aload_n 193 gq151 rfl rfl rfl ?_
    refine g_getA 196 308 gq151 rfl rfl rfl rfl rfl rfl rfl ?_
    refine g_iconst 197 gq151 rfl rfl ?_
    refine g_dup2 198 gq151 rfl rfl rfl rfl ?_
    refine g_iald 199 gq151 rfl rfl rfl (by omega) ?_
    refine g_iconst 200 gq151 rfl rfl ?_
    refine g_iadd 201 gq151 rfl rfl ?_
    refine g_iast 202 gq151 rfl rfl rfl (by omega) ?_
    refine g_iinc 205 gq151 rfl rfl rfl rfl ?_
    refine g_goto 142 gq151 rfl rfl ?_
    exact kGo.weak (km_Le.s (km_Le.s (km_Le.s (km_Le.s (km_Le.s (km_Le.n km_Le.nil)))))) h
  · replace h := h.2 c
    refine g_iload_n 174 gq151 rfl rfl rfl ?_
    refine g_iconst 175 gq151 rfl rfl ?_
    refine g_iload 177 gq151 rfl rfl rfl ?_
    have c25 := h.1
    replace h := h.2
    refine g_ishl 178 gq151 rfl rfl c25 ?_
    have c28 := h.1
    replace h := h.2
    have c30 := h.1
    replace h := h.2
    refine g_ior 179 gq151 rfl rfl c28 c30 ?_
    refine g_istore_n 180 gq151 rfl rfl rfl ?_
    replace h := h _ rfl
    refine g_aload_n 181 gq151 rfl rfl rfl ?_
    refine g_iload 183 gq151 rfl rfl rfl ?_
    refine g_iload_n 184 gq151 rfl rfl rfl ?_
    refine g_virt 152 _ (i := 254) gq151 rfl rfl gq152 rfl rfl rfl rfl rfl rfl ?_
    refine kGo.mono h (fun r W2 hr => ?_)
    obtain ⟨y2, rfl, h⟩ := hr
    refine g_istore 189 gq151 rfl rfl rfl ?_
    refine g_goto 164 gq151 rfl rfl ?_
    exact kGo.weak (km_Le.s (km_Le.s (km_Le.s (km_Le.s (km_Le.s (km_Le.s km_Le.nil)))))) h
set_option maxRecDepth 10000 in
theorem b152_0 {xs : Nat → Int32} {Lx d : Nat} {V : km_V} {Q : Option Value → km_V → Prop} {a1 a2 : Int} 
    (h : kGo xs Lx (d + 1) 152 5 [some (.ref 299), none, some (kI a2), some (kI a1), some (kI 0), none, none] [] V Q) :
    kGo xs Lx (d + 1) 152 0 [some (.ref 299), some (kI a1), some (kI a2), none, none, none, none] [] V Q := by
  refine g_iload_n 1 gq152 rfl rfl rfl ?_
  refine g_istore_n 2 gq152 rfl rfl rfl ?_
  refine g_iconst 3 gq152 rfl rfl ?_
  refine g_istore 5 gq152 rfl rfl rfl ?_
  exact kGo.weak (km_Le.s (km_Le.n (km_Le.s (km_Le.s (km_Le.s (km_Le.n (km_Le.n km_Le.nil))))))) h
set_option maxRecDepth 10000 in
theorem b152_5 {xs : Nat → Int32} {Lx d : Nat} {V : km_V} {Q : Option Value → km_V → Prop} {x2 x3 x4 : Int} 
    (h : (kR x4) ∧ (kR x2) ∧ ((x2 ≤ x4 →
    Q (some (kI x3)) V) ∧
   (x4 < x2 →
    (0 ≤ x4 ∧ x4 < (8 : Nat)) ∧ (kR x3) ∧ (kR (V 312 (Int.toNat x4))) ∧ ((x3 = (V 312 (Int.toNat x4)) →
      kGo xs Lx (d + 1) 152 38 [some (.ref 299), none, some (kI x2), some (kI x3), some (kI x4), none, none] [] V Q) ∧
     (x3 ≠ (V 312 (Int.toNat x4)) →
      (kR ((V 312 (Int.toNat x4)) + 1)) ∧ ((x3 = ((V 312 (Int.toNat x4)) + 1) →
        kGo xs Lx (d + 1) 152 38 [some (.ref 299), none, some (kI x2), some (kI x3), some (kI x4), none, none] [] V Q) ∧
       (x3 ≠ ((V 312 (Int.toNat x4)) + 1) →
        kGo xs Lx (d + 1) 152 128 [some (.ref 299), none, some (kI x2), some (kI x3), some (kI x4), none, none] [] V Q))))))) :
    kGo xs Lx (d + 1) 152 5 [some (.ref 299), none, some (kI x2), some (kI x3), some (kI x4), none, none] [] V Q := by
  refine g_iload 7 gq152 rfl rfl rfl ?_
  refine g_iload_n 8 gq152 rfl rfl rfl ?_
  have c2 := h.1
  replace h := h.2
  have c4 := h.1
  replace h := h.2
  refine g_icmp_ge 134 11 gq152 rfl rfl rfl c2 c4 (fun c => ?_) (fun c => ?_)
  · replace h := h.1 c
    refine g_iload_n 135 gq152 rfl rfl rfl ?_
    exact g_iret gq152 rfl rfl h
  · replace h := h.2 c
    refine g_iload_n 12 gq152 rfl rfl rfl ?_
    refine g_aload_n 13 gq152 rfl rfl rfl ?_
    refine g_getA 16 312 gq152 rfl rfl rfl rfl rfl rfl rfl ?_
    refine g_iload 18 gq152 rfl rfl rfl ?_
    have c15 := h.1
    replace h := h.2
    refine g_iald 19 gq152 rfl rfl rfl c15 ?_
    have c18 := h.1
    replace h := h.2
    have c20 := h.1
    replace h := h.2
    refine g_icmp_eq 38 22 gq152 rfl rfl rfl c18 c20 (fun c => ?_) (fun c => ?_)
    · replace h := h.1 c
      exact kGo.weak (km_Le.s (km_Le.n (km_Le.s (km_Le.s (km_Le.s (km_Le.n (km_Le.n km_Le.nil))))))) h
    · replace h := h.2 c
      refine g_iload_n 23 gq152 rfl rfl rfl ?_
      refine g_aload_n 24 gq152 rfl rfl rfl ?_
      refine g_getA 27 312 gq152 rfl rfl rfl rfl rfl rfl rfl ?_
      refine g_iload 29 gq152 rfl rfl rfl ?_
      refine g_iald 30 gq152 rfl rfl rfl c15 ?_
      refine g_iconst 31 gq152 rfl rfl ?_
      refine g_iadd 32 gq152 rfl rfl ?_
      have c33 := h.1
      replace h := h.2
      refine g_icmp_eq 38 35 gq152 rfl rfl rfl c18 c33 (fun c => ?_) (fun c => ?_)
      · replace h := h.1 c
        exact kGo.weak (km_Le.s (km_Le.n (km_Le.s (km_Le.s (km_Le.s (km_Le.n (km_Le.n km_Le.nil))))))) h
      · replace h := h.2 c
        refine g_goto 128 gq152 rfl rfl ?_
        exact kGo.weak (km_Le.s (km_Le.n (km_Le.s (km_Le.s (km_Le.s (km_Le.n (km_Le.n km_Le.nil))))))) h
set_option maxRecDepth 10000 in
theorem b152_38 {xs : Nat → Int32} {Lx d : Nat} {V : km_V} {Q : Option Value → km_V → Prop} {x2 x3 x4 : Int} 
    (h : (0 ≤ x4 ∧ x4 < (8 : Nat)) ∧ (kR x3) ∧ (kR (V 312 (Int.toNat x4))) ∧ ((x3 ≠ (V 312 (Int.toNat x4)) →
    (0 ≤ (70 + x4) ∧ (70 + x4) < (78 : Nat)) ∧ (kR (V 308 (Int.toNat (70 + x4)))) ∧ (((V 308 (Int.toNat (70 + x4))) ≠ 1 →
      kCV xs Lx (d + 0) 149 3 [.ref 308, kI (V 308 (Int.toNat 0)), kI ((2 * x4) + 1)] V (fun W1 =>
      kGo xs Lx (d + 1) 152 128 [some (.ref 299), none, some (kI x2), some (kI (x3 + (-1))), some (kI x4), none, none] [] W1 Q)) ∧
     ((V 308 (Int.toNat (70 + x4))) = 1 →
      kCV xs Lx (d + 0) 149 3 [.ref 308, kI (V 308 (Int.toNat 0)), kI ((2 * x4) + 0)] V (fun W2 =>
      kGo xs Lx (d + 1) 152 128 [some (.ref 299), none, some (kI x2), some (kI (x3 + (-1))), some (kI x4), none, none] [] W2 Q)))) ∧
   (x3 = (V 312 (Int.toNat x4)) →
    (0 ≤ (70 + x4) ∧ (70 + x4) < (78 : Nat)) ∧ (kR (V 308 (Int.toNat (70 + x4)))) ∧ (((V 308 (Int.toNat (70 + x4))) ≠ 1 →
      kCV xs Lx (d + 0) 149 3 [.ref 308, kI (V 308 (Int.toNat 0)), kI ((2 * x4) + 0)] V (fun W3 =>
      kGo xs Lx (d + 1) 152 128 [some (.ref 299), none, some (kI x2), some (kI (x3 + 1)), some (kI x4), none, none] [] W3 Q)) ∧
     ((V 308 (Int.toNat (70 + x4))) = 1 →
      kCV xs Lx (d + 0) 149 3 [.ref 308, kI (V 308 (Int.toNat 0)), kI ((2 * x4) + 1)] V (fun W4 =>
      kGo xs Lx (d + 1) 152 128 [some (.ref 299), none, some (kI x2), some (kI (x3 + 1)), some (kI x4), none, none] [] W4 Q)))))) :
    kGo xs Lx (d + 1) 152 38 [some (.ref 299), none, some (kI x2), some (kI x3), some (kI x4), none, none] [] V Q := by
  refine g_iload_n 39 gq152 rfl rfl rfl ?_
  refine g_aload_n 40 gq152 rfl rfl rfl ?_
  refine g_getA 43 312 gq152 rfl rfl rfl rfl rfl rfl rfl ?_
  refine g_iload 45 gq152 rfl rfl rfl ?_
  have c4 := h.1
  replace h := h.2
  refine g_iald 46 gq152 rfl rfl rfl c4 ?_
  have c7 := h.1
  replace h := h.2
  have c9 := h.1
  replace h := h.2
  refine g_icmp_ne 53 49 gq152 rfl rfl rfl c7 c9 (fun c => ?_) (fun c => ?_)
  · replace h := h.1 c
    refine g_iconst 54 gq152 rfl rfl ?_
    refine g_istore 56 gq152 rfl rfl rfl ?_
    refine g_iload 58 gq152 rfl rfl rfl ?_
    refine g_aload_n 59 gq152 rfl rfl rfl ?_
    refine g_getA 62 308 gq152 rfl rfl rfl rfl rfl rfl rfl ?_
    refine g_bipush 64 gq152 rfl rfl rfl ?_
    refine g_iload 66 gq152 rfl rfl rfl ?_
    refine g_iadd 67 gq152 rfl rfl ?_
    have c21 := h.1
    replace h := h.2
    refine g_iald 68 gq152 rfl rfl rfl c21 ?_
    refine g_iconst 69 gq152 rfl rfl ?_
    have c25 := h.1
    replace h := h.2
    refine g_icmp_ne 76 72 gq152 rfl rfl rfl c25 (by omega) (fun c => ?_) (fun c => ?_)
    · replace h := h.1 c
      refine g_iconst 77 gq152 rfl rfl ?_
      refine g_icmp_ne 84 80 gq152 rfl rfl rfl (by omega) (by omega) (fun c => ?_) (fun c => ?_)
      · exact absurd c (by decide)
      refine g_iconst 81 gq152 rfl rfl ?_
      refine g_goto 85 gq152 rfl rfl ?_
      refine g_istore 87 gq152 rfl rfl rfl ?_
      refine g_aload_n 88 gq152 rfl rfl rfl ?_
      refine g_getA 91 308 gq152 rfl rfl rfl rfl rfl rfl rfl ?_
      refine g_aload_n 92 gq152 rfl rfl rfl ?_
      refine g_getA 95 308 gq152 rfl rfl rfl rfl rfl rfl rfl ?_
      refine g_iconst 96 gq152 rfl rfl ?_
      refine g_iald 97 gq152 rfl rfl rfl (by omega) ?_
      refine g_iconst 98 gq152 rfl rfl ?_
      refine g_iload 100 gq152 rfl rfl rfl ?_
      refine g_imul 101 gq152 rfl rfl ?_
      refine g_iload 103 gq152 rfl rfl rfl ?_
      refine g_if_eq 110 106 gq152 rfl rfl rfl (by omega) (fun c => ?_) (fun c => ?_)
      · exact absurd c (by decide)
      refine g_iconst 107 gq152 rfl rfl ?_
      refine g_goto 111 gq152 rfl rfl ?_
      refine g_iadd 112 gq152 rfl rfl ?_
      refine g_static 149 _ (i := 242) gq152 rfl rfl gq149 rfl rfl rfl rfl ?_
      refine kGo.mono h (fun r W1 hr => ?_)
      obtain ⟨rfl, h⟩ := hr
      refine g_iload_n 116 gq152 rfl rfl rfl ?_
      refine g_iload 118 gq152 rfl rfl rfl ?_
      refine g_if_eq 125 121 gq152 rfl rfl rfl (by omega) (fun c => ?_) (fun c => ?_)
      rotate_left
      · exact absurd c (by decide)
      refine g_iconst 126 gq152 rfl rfl ?_
      refine g_iadd 127 gq152 rfl rfl ?_
      refine g_istore_n 128 gq152 rfl rfl rfl ?_
      exact kGo.weak (km_Le.s (km_Le.n (km_Le.s (km_Le.s (km_Le.s (km_Le.n (km_Le.n km_Le.nil))))))) h
    · replace h := h.2 c
      refine g_iconst 73 gq152 rfl rfl ?_
      refine g_goto 77 gq152 rfl rfl ?_
      refine g_icmp_ne 84 80 gq152 rfl rfl rfl (by omega) (by omega) (fun c => ?_) (fun c => ?_)
      rotate_left
      · exact absurd c (by decide)
      refine g_iconst 85 gq152 rfl rfl ?_
      refine g_istore 87 gq152 rfl rfl rfl ?_
      refine g_aload_n 88 gq152 rfl rfl rfl ?_
      refine g_getA 91 308 gq152 rfl rfl rfl rfl rfl rfl rfl ?_
      refine g_aload_n 92 gq152 rfl rfl rfl ?_
      refine g_getA 95 308 gq152 rfl rfl rfl rfl rfl rfl rfl ?_
      refine g_iconst 96 gq152 rfl rfl ?_
      refine g_iald 97 gq152 rfl rfl rfl (by omega) ?_
      refine g_iconst 98 gq152 rfl rfl ?_
      refine g_iload 100 gq152 rfl rfl rfl ?_
      refine g_imul 101 gq152 rfl rfl ?_
      refine g_iload 103 gq152 rfl rfl rfl ?_
      refine g_if_eq 110 106 gq152 rfl rfl rfl (by omega) (fun c => ?_) (fun c => ?_)
      rotate_left
      · exact absurd c (by decide)
      refine g_iconst 111 gq152 rfl rfl ?_
      refine g_iadd 112 gq152 rfl rfl ?_
      refine g_static 149 _ (i := 242) gq152 rfl rfl gq149 rfl rfl rfl rfl ?_
      refine kGo.mono h (fun r W2 hr => ?_)
      obtain ⟨rfl, h⟩ := hr
      refine g_iload_n 116 gq152 rfl rfl rfl ?_
      refine g_iload 118 gq152 rfl rfl rfl ?_
      refine g_if_eq 125 121 gq152 rfl rfl rfl (by omega) (fun c => ?_) (fun c => ?_)
      rotate_left
      · exact absurd c (by decide)
      refine g_iconst 126 gq152 rfl rfl ?_
      refine g_iadd 127 gq152 rfl rfl ?_
      refine g_istore_n 128 gq152 rfl rfl rfl ?_
      exact kGo.weak (km_Le.s (km_Le.n (km_Le.s (km_Le.s (km_Le.s (km_Le.n (km_Le.n km_Le.nil))))))) h
  · replace h := h.2 c
    refine g_iconst 50 gq152 rfl rfl ?_
    refine g_goto 54 gq152 rfl rfl ?_
    refine g_istore 56 gq152 rfl rfl rfl ?_
    refine g_iload 58 gq152 rfl rfl rfl ?_
    refine g_aload_n 59 gq152 rfl rfl rfl ?_
    refine g_getA 62 308 gq152 rfl rfl rfl rfl rfl rfl rfl ?_
    refine g_bipush 64 gq152 rfl rfl rfl ?_
    refine g_iload 66 gq152 rfl rfl rfl ?_
    refine g_iadd 67 gq152 rfl rfl ?_
    have c107 := h.1
    replace h := h.2
    refine g_iald 68 gq152 rfl rfl rfl c107 ?_
    refine g_iconst 69 gq152 rfl rfl ?_
    have c111 := h.1
    replace h := h.2
    refine g_icmp_ne 76 72 gq152 rfl rfl rfl c111 (by omega) (fun c => ?_) (fun c => ?_)
    · replace h := h.1 c
      refine g_iconst 77 gq152 rfl rfl ?_
      refine g_icmp_ne 84 80 gq152 rfl rfl rfl (by omega) (by omega) (fun c => ?_) (fun c => ?_)
      rotate_left
      · exact absurd c (by decide)
      refine g_iconst 85 gq152 rfl rfl ?_
      refine g_istore 87 gq152 rfl rfl rfl ?_
      refine g_aload_n 88 gq152 rfl rfl rfl ?_
      refine g_getA 91 308 gq152 rfl rfl rfl rfl rfl rfl rfl ?_
      refine g_aload_n 92 gq152 rfl rfl rfl ?_
      refine g_getA 95 308 gq152 rfl rfl rfl rfl rfl rfl rfl ?_
      refine g_iconst 96 gq152 rfl rfl ?_
      refine g_iald 97 gq152 rfl rfl rfl (by omega) ?_
      refine g_iconst 98 gq152 rfl rfl ?_
      refine g_iload 100 gq152 rfl rfl rfl ?_
      refine g_imul 101 gq152 rfl rfl ?_
      refine g_iload 103 gq152 rfl rfl rfl ?_
      refine g_if_eq 110 106 gq152 rfl rfl rfl (by omega) (fun c => ?_) (fun c => ?_)
      rotate_left
      · exact absurd c (by decide)
      refine g_iconst 111 gq152 rfl rfl ?_
      refine g_iadd 112 gq152 rfl rfl ?_
      refine g_static 149 _ (i := 242) gq152 rfl rfl gq149 rfl rfl rfl rfl ?_
      refine kGo.mono h (fun r W3 hr => ?_)
      obtain ⟨rfl, h⟩ := hr
      refine g_iload_n 116 gq152 rfl rfl rfl ?_
      refine g_iload 118 gq152 rfl rfl rfl ?_
      refine g_if_eq 125 121 gq152 rfl rfl rfl (by omega) (fun c => ?_) (fun c => ?_)
      · exact absurd c (by decide)
      refine g_iconst 122 gq152 rfl rfl ?_
      refine g_goto 126 gq152 rfl rfl ?_
      refine g_iadd 127 gq152 rfl rfl ?_
      refine g_istore_n 128 gq152 rfl rfl rfl ?_
      exact kGo.weak (km_Le.s (km_Le.n (km_Le.s (km_Le.s (km_Le.s (km_Le.n (km_Le.n km_Le.nil))))))) h
    · replace h := h.2 c
      refine g_iconst 73 gq152 rfl rfl ?_
      refine g_goto 77 gq152 rfl rfl ?_
      refine g_icmp_ne 84 80 gq152 rfl rfl rfl (by omega) (by omega) (fun c => ?_) (fun c => ?_)
      · exact absurd c (by decide)
      refine g_iconst 81 gq152 rfl rfl ?_
      refine g_goto 85 gq152 rfl rfl ?_
      refine g_istore 87 gq152 rfl rfl rfl ?_
      refine g_aload_n 88 gq152 rfl rfl rfl ?_
      refine g_getA 91 308 gq152 rfl rfl rfl rfl rfl rfl rfl ?_
      refine g_aload_n 92 gq152 rfl rfl rfl ?_
      refine g_getA 95 308 gq152 rfl rfl rfl rfl rfl rfl rfl ?_
      refine g_iconst 96 gq152 rfl rfl ?_
      refine g_iald 97 gq152 rfl rfl rfl (by omega) ?_
      refine g_iconst 98 gq152 rfl rfl ?_
      refine g_iload 100 gq152 rfl rfl rfl ?_
      refine g_imul 101 gq152 rfl rfl ?_
      refine g_iload 103 gq152 rfl rfl rfl ?_
      refine g_if_eq 110 106 gq152 rfl rfl rfl (by omega) (fun c => ?_) (fun c => ?_)
      · exact absurd c (by decide)
      refine g_iconst 107 gq152 rfl rfl ?_
      refine g_goto 111 gq152 rfl rfl ?_
      refine g_iadd 112 gq152 rfl rfl ?_
      refine g_static 149 _ (i := 242) gq152 rfl rfl gq149 rfl rfl rfl rfl ?_
      refine kGo.mono h (fun r W4 hr => ?_)
      obtain ⟨rfl, h⟩ := hr
      refine g_iload_n 116 gq152 rfl rfl rfl ?_
      refine g_iload 118 gq152 rfl rfl rfl ?_
      refine g_if_eq 125 121 gq152 rfl rfl rfl (by omega) (fun c => ?_) (fun c => ?_)
      · exact absurd c (by decide)
      refine g_iconst 122 gq152 rfl rfl ?_
      refine g_goto 126 gq152 rfl rfl ?_
      refine g_iadd 127 gq152 rfl rfl ?_
      refine g_istore_n 128 gq152 rfl rfl rfl ?_
      exact kGo.weak (km_Le.s (km_Le.n (km_Le.s (km_Le.s (km_Le.s (km_Le.n (km_Le.n km_Le.nil))))))) h
set_option maxRecDepth 10000 in
theorem b152_128 {xs : Nat → Int32} {Lx d : Nat} {V : km_V} {Q : Option Value → km_V → Prop} {x2 x3 x4 : Int} 
    (h : kGo xs Lx (d + 1) 152 5 [some (.ref 299), none, some (kI x2), some (kI x3), some (kI (x4 + 1)), none, none] [] V Q) :
    kGo xs Lx (d + 1) 152 128 [some (.ref 299), none, some (kI x2), some (kI x3), some (kI x4), none, none] [] V Q := by
  refine g_iinc 131 gq152 rfl rfl rfl rfl ?_
  refine g_goto 5 gq152 rfl rfl ?_
  exact kGo.weak (km_Le.s (km_Le.n (km_Le.s (km_Le.s (km_Le.s (km_Le.n (km_Le.n km_Le.nil))))))) h
set_option maxRecDepth 10000 in
theorem b155_0 {xs : Nat → Int32} {Lx d : Nat} {V : km_V} {Q : Option Value → km_V → Prop} {a0 : Int} 
    (h : kGo xs Lx (d + 0) 155 4 [none, some (kI 0), some (kI a0)] [] V Q) :
    kGo xs Lx (d + 0) 155 0 [some (kI a0), none, none] [] V Q := by
  refine g_iconst 1 gq155 rfl rfl ?_
  refine g_istore_n 2 gq155 rfl rfl rfl ?_
  refine g_iload_n 3 gq155 rfl rfl rfl ?_
  refine g_istore_n 4 gq155 rfl rfl rfl ?_
  exact kGo.weak (km_Le.n (km_Le.s (km_Le.s km_Le.nil))) h
set_option maxRecDepth 10000 in
theorem b155_4 {xs : Nat → Int32} {Lx d : Nat} {V : km_V} {Q : Option Value → km_V → Prop} {x1 x2 : Int} 
    (h : (kR x2) ∧ ((x2 ≤ 0 →
    Q (some (kI x1)) V) ∧
   (0 < x2 →
    (∀ z1 : Int, z1 = (x1 + (x2 % 2)) → kGo xs Lx (d + 0) 155 4 [none, some (kI z1), some (kI (x2 / 2))] [] V Q)))) :
    kGo xs Lx (d + 0) 155 4 [none, some (kI x1), some (kI x2)] [] V Q := by
  refine g_iload_n 5 gq155 rfl rfl rfl ?_
  have c1 := h.1
  replace h := h.2
  refine g_if_le 21 8 gq155 rfl rfl rfl c1 (fun c => ?_) (fun c => ?_)
  · replace h := h.1 c
    refine g_iload_n 22 gq155 rfl rfl rfl ?_
    exact g_iret gq155 rfl rfl h
  · replace h := h.2 c
    refine g_iload_n 9 gq155 rfl rfl rfl ?_
    refine g_iload_n 10 gq155 rfl rfl rfl ?_
    refine g_iconst 11 gq155 rfl rfl ?_
    refine g_iandM 12 1 gq155 rfl rfl (by decide) rfl ?_
    refine g_iadd 13 gq155 rfl rfl ?_
    refine g_istore_n 14 gq155 rfl rfl rfl ?_
    replace h := h _ rfl
    refine g_iload_n 15 gq155 rfl rfl rfl ?_
    refine g_iconst 16 gq155 rfl rfl ?_
    refine g_ishr 17 gq155 rfl rfl c1 (by omega) ?_
    refine g_istore_n 18 gq155 rfl rfl rfl ?_
    refine g_goto 4 gq155 rfl rfl ?_
    exact kGo.weak (km_Le.n (km_Le.s (km_Le.s km_Le.nil))) h
set_option maxRecDepth 10000 in
theorem b156_0 {xs : Nat → Int32} {Lx d : Nat} {V : km_V} {Q : Option Value → km_V → Prop} {r0 : Nat} (hr0 : km_sh[r0]? = some (11, 78)) {r1 : Nat} (hr1 : km_sh[r1]? = some (11, 78))
    (h : kGo xs Lx (d + 0) 156 2 [some (.ref r0), some (.ref r1), some (kI 0)] [] V Q) :
    kGo xs Lx (d + 0) 156 0 [some (.ref r0), some (.ref r1), none] [] V Q := by
  refine g_iconst 1 gq156 rfl rfl ?_
  refine g_istore_n 2 gq156 rfl rfl rfl ?_
  exact kGo.weak (km_Le.s (km_Le.s (km_Le.s km_Le.nil))) h
set_option maxRecDepth 10000 in
theorem b156_2 {xs : Nat → Int32} {Lx d : Nat} {V : km_V} {Q : Option Value → km_V → Prop} {x2 : Int} {q0 : Nat} (hq0 : km_sh[q0]? = some (11, 78)) {q1 : Nat} (hq1 : km_sh[q1]? = some (11, 78))
    (h : (kR x2) ∧ ((78 ≤ x2 →
    Q none V) ∧
   (x2 < 78 →
    (0 ≤ x2 ∧ x2 < (78 : Nat)) ∧ kGo xs Lx (d + 0) 156 2 [some (.ref q0), some (.ref q1), some (kI (x2 + 1))] [] (up V q1 (Int.toNat x2) (V q0 (Int.toNat x2))) Q))) :
    kGo xs Lx (d + 0) 156 2 [some (.ref q0), some (.ref q1), some (kI x2)] [] V Q := by
  refine g_iload_n 3 gq156 rfl rfl rfl ?_
  refine g_bipush 5 gq156 rfl rfl rfl ?_
  have c2 := h.1
  replace h := h.2
  refine g_icmp_ge 20 8 gq156 rfl rfl rfl c2 (by omega) (fun c => ?_) (fun c => ?_)
  · replace h := h.1 c
    exact g_vret gq156 rfl rfl h
  · replace h := h.2 c
    refine g_aload_n 9 gq156 rfl rfl rfl ?_
    refine g_iload_n 10 gq156 rfl rfl rfl ?_
    refine g_aload_n 11 gq156 rfl rfl rfl ?_
    refine g_iload_n 12 gq156 rfl rfl rfl ?_
    have c12 := h.1
    replace h := h.2
    refine g_iald 13 gq156 rfl rfl hq0 c12 ?_
    refine g_iast 14 gq156 rfl rfl hq1 c12 ?_
    refine g_iinc 17 gq156 rfl rfl rfl rfl ?_
    refine g_goto 2 gq156 rfl rfl ?_
    exact kGo.weak (km_Le.s (km_Le.s (km_Le.s km_Le.nil))) h
set_option maxRecDepth 10000 in
theorem b157_0 {xs : Nat → Int32} {Lx d : Nat} {V : km_V} {Q : Option Value → km_V → Prop} {r1 : Nat} (hr1 : km_sh[r1]? = some (11, 78))
    (h : kGo xs Lx (d + 1) 157 7 [some (.ref 299), some (.ref r1), some (kI 0), none, none, none] [] (up V 299 25 0) Q) :
    kGo xs Lx (d + 1) 157 0 [some (.ref 299), some (.ref r1), none, none, none, none] [] V Q := by
  refine g_aload_n 1 gq157 rfl rfl rfl ?_
  refine g_iconst 2 gq157 rfl rfl ?_
  refine g_putI 5 gq157 rfl rfl rfl rfl rfl rfl rfl rfl ?_
  refine g_iconst 6 gq157 rfl rfl ?_
  refine g_istore_n 7 gq157 rfl rfl rfl ?_
  exact kGo.weak (km_Le.s (km_Le.s (km_Le.s (km_Le.n (km_Le.n (km_Le.n km_Le.nil)))))) h
set_option maxRecDepth 10000 in
theorem b157_7 {xs : Nat → Int32} {Lx d : Nat} {V : km_V} {Q : Option Value → km_V → Prop} {x2 : Int} {q1 : Nat} (hq1 : km_sh[q1]? = some (11, 78))
    (h : (kR x2) ∧ (kR (V q1 (Int.toNat 0))) ∧ (((V q1 (Int.toNat 0)) ≤ x2 →
    kGo xs Lx (d + 1) 157 130 [some (.ref 299), some (.ref q1), some (kI 0), none, none, none] [] V Q) ∧
   (x2 < (V q1 (Int.toNat 0)) →
    (0 ≤ (2 + x2) ∧ (2 + x2) < (78 : Nat)) ∧ (∀ z1 : Int, z1 = (V q1 (Int.toNat (2 + x2))) → kGo xs Lx (d + 1) 157 29 [some (.ref 299), some (.ref q1), some (kI x2), some (kI (V 299 25)), some (kI z1), some (kI 0)] [] V Q)))) :
    kGo xs Lx (d + 1) 157 7 [some (.ref 299), some (.ref q1), some (kI x2), none, none, none] [] V Q := by
  refine g_iload_n 8 gq157 rfl rfl rfl ?_
  refine g_aload_n 9 gq157 rfl rfl rfl ?_
  refine g_iconst 10 gq157 rfl rfl ?_
  refine g_iald 11 gq157 rfl rfl hq1 (by omega) ?_
  have c4 := h.1
  replace h := h.2
  have c6 := h.1
  replace h := h.2
  refine g_icmp_ge 128 14 gq157 rfl rfl rfl c4 c6 (fun c => ?_) (fun c => ?_)
  · replace h := h.1 c
    refine g_iconst 129 gq157 rfl rfl ?_
    refine g_istore_n 130 gq157 rfl rfl rfl ?_
    exact kGo.weak (km_Le.s (km_Le.s (km_Le.s (km_Le.n (km_Le.n (km_Le.n km_Le.nil)))))) h
  · replace h := h.2 c
    refine g_aload_n 15 gq157 rfl rfl rfl ?_
    refine g_getI 18 gq157 rfl rfl rfl rfl rfl rfl ?_
    refine g_istore_n 19 gq157 rfl rfl rfl ?_
    refine g_aload_n 20 gq157 rfl rfl rfl ?_
    refine g_iconst 21 gq157 rfl rfl ?_
    refine g_iload_n 22 gq157 rfl rfl rfl ?_
    refine g_iadd 23 gq157 rfl rfl ?_
    have c21 := h.1
    replace h := h.2
    refine g_iald 24 gq157 rfl rfl hq1 c21 ?_
    refine g_istore 26 gq157 rfl rfl rfl ?_
    replace h := h _ rfl
    refine g_iconst 27 gq157 rfl rfl ?_
    refine g_istore 29 gq157 rfl rfl rfl ?_
    exact kGo.weak (km_Le.s (km_Le.s (km_Le.s (km_Le.s (km_Le.s (km_Le.s km_Le.nil)))))) h
set_option maxRecDepth 10000 in
theorem b157_130 {xs : Nat → Int32} {Lx d : Nat} {V : km_V} {Q : Option Value → km_V → Prop} {x2 : Int} {q1 : Nat} (hq1 : km_sh[q1]? = some (11, 78))
    (h : (kR x2) ∧ (kR (V 299 25)) ∧ (((V 299 25) ≤ x2 →
    Q none V) ∧
   (x2 < (V 299 25) →
    (0 ≤ x2 ∧ x2 < (16 : Nat)) ∧ (0 ≤ (V 313 (Int.toNat x2)) ∧ (V 313 (Int.toNat x2)) ≤ 2147483647) ∧ (∀ z1 : Int, z1 = ((V 313 (Int.toNat x2)) / 2) → (keinC V q1 x2) ∧ (∀ z2 : Int, z2 = (kein V q1 x2) → (0 ≤ ((4 * z1) + z2) ∧ ((4 * z1) + z2) < (32 : Nat)) ∧ (0 ≤ (z2 + 2) ∧ (z2 + 2) ≤ 2147483647) ∧ (0 ≤ ((4 * z1) + ((z2 + 2) % 4)) ∧ ((4 * z1) + ((z2 + 2) % 4)) < (32 : Nat)) ∧ kGo xs Lx (d + 1) 157 130 [some (.ref 299), some (.ref q1), some (kI (x2 + 1)), none, none, none] [] (up (up (up (up V 317 (Int.toNat ((4 * z1) + z2)) (V 316 (Int.toNat x2))) 318 (Int.toNat ((4 * z1) + z2)) 1) 317 (Int.toNat ((4 * z1) + ((z2 + 2) % 4))) x2) 318 (Int.toNat ((4 * z1) + ((z2 + 2) % 4))) 0) Q))))) :
    kGo xs Lx (d + 1) 157 130 [some (.ref 299), some (.ref q1), some (kI x2), none, none, none] [] V Q := by
  refine g_iload_n 131 gq157 rfl rfl rfl ?_
  refine g_aload_n 132 gq157 rfl rfl rfl ?_
  refine g_getI 135 gq157 rfl rfl rfl rfl rfl rfl ?_
  have c3 := h.1
  replace h := h.2
  have c5 := h.1
  replace h := h.2
  refine g_icmp_ge 222 138 gq157 rfl rfl rfl c3 c5 (fun c => ?_) (fun c => ?_)
  · replace h := h.1 c
    exact g_vret gq157 rfl rfl h
  · replace h := h.2 c
    refine g_aload_n 139 gq157 rfl rfl rfl ?_
    refine g_getA 142 313 gq157 rfl rfl rfl rfl rfl rfl rfl ?_
    refine g_iload_n 143 gq157 rfl rfl rfl ?_
    have c14 := h.1
    replace h := h.2
    refine g_iald 144 gq157 rfl rfl rfl c14 ?_
    refine g_iconst 145 gq157 rfl rfl ?_
    have c18 := h.1
    replace h := h.2
    refine g_idiv 146 gq157 rfl rfl c18 (by omega) ?_
    refine g_istore_n 147 gq157 rfl rfl rfl ?_
    replace h := h _ rfl
    refine g_aload_n 148 gq157 rfl rfl rfl ?_
    refine g_aload_n 149 gq157 rfl rfl rfl ?_
    refine g_iload_n 150 gq157 rfl rfl rfl ?_
    have c26 := h.1
    replace h := h.2
    refine g_virt 158 _ (i := 260) gq157 rfl rfl gq158 rfl rfl rfl rfl rfl rfl ?_
    refine sp_endIn hq1 c26 ?_
    refine g_istore 155 gq157 rfl rfl rfl ?_
    replace h := h _ rfl
    refine g_aload_n 156 gq157 rfl rfl rfl ?_
    refine g_getA 159 317 gq157 rfl rfl rfl rfl rfl rfl rfl ?_
    refine g_iconst 160 gq157 rfl rfl ?_
    refine g_iload_n 161 gq157 rfl rfl rfl ?_
    refine g_imul 162 gq157 rfl rfl ?_
    refine g_iload 164 gq157 rfl rfl rfl ?_
    refine g_iadd 165 gq157 rfl rfl ?_
    refine g_aload_n 166 gq157 rfl rfl rfl ?_
    refine g_getA 169 316 gq157 rfl rfl rfl rfl rfl rfl rfl ?_
    refine g_iload_n 170 gq157 rfl rfl rfl ?_
    refine g_iald 171 gq157 rfl rfl rfl c14 ?_
    have c43 := h.1
    replace h := h.2
    refine g_iast 172 gq157 rfl rfl rfl c43 ?_
    refine g_aload_n 173 gq157 rfl rfl rfl ?_
    refine g_getA 176 318 gq157 rfl rfl rfl rfl rfl rfl rfl ?_
    refine g_iconst 177 gq157 rfl rfl ?_
    refine g_iload_n 178 gq157 rfl rfl rfl ?_
    refine g_imul 179 gq157 rfl rfl ?_
    refine g_iload 181 gq157 rfl rfl rfl ?_
    refine g_iadd 182 gq157 rfl rfl ?_
    refine g_iconst 183 gq157 rfl rfl ?_
    refine g_zast 184 gq157 rfl rfl rfl c43 (by omega) ?_
    refine g_aload_n 185 gq157 rfl rfl rfl ?_
    refine g_getA 188 317 gq157 rfl rfl rfl rfl rfl rfl rfl ?_
    refine g_iconst 189 gq157 rfl rfl ?_
    refine g_iload_n 190 gq157 rfl rfl rfl ?_
    refine g_imul 191 gq157 rfl rfl ?_
    refine g_iload 193 gq157 rfl rfl rfl ?_
    refine g_iconst 194 gq157 rfl rfl ?_
    refine g_iadd 195 gq157 rfl rfl ?_
    refine g_iconst 196 gq157 rfl rfl ?_
    have c64 := h.1
    replace h := h.2
    refine g_irem 197 gq157 rfl rfl c64 (by omega) ?_
    refine g_iadd 198 gq157 rfl rfl ?_
    refine g_iload_n 199 gq157 rfl rfl rfl ?_
    have c69 := h.1
    replace h := h.2
    refine g_iast 200 gq157 rfl rfl rfl c69 ?_
    refine g_aload_n 201 gq157 rfl rfl rfl ?_
    refine g_getA 204 318 gq157 rfl rfl rfl rfl rfl rfl rfl ?_
    refine g_iconst 205 gq157 rfl rfl ?_
    refine g_iload_n 206 gq157 rfl rfl rfl ?_
    refine g_imul 207 gq157 rfl rfl ?_
    refine g_iload 209 gq157 rfl rfl rfl ?_
    refine g_iconst 210 gq157 rfl rfl ?_
    refine g_iadd 211 gq157 rfl rfl ?_
    refine g_iconst 212 gq157 rfl rfl ?_
    refine g_irem 213 gq157 rfl rfl c64 (by omega) ?_
    refine g_iadd 214 gq157 rfl rfl ?_
    refine g_iconst 215 gq157 rfl rfl ?_
    refine g_zast 216 gq157 rfl rfl rfl c69 (by omega) ?_
    refine g_iinc 219 gq157 rfl rfl rfl rfl ?_
    refine g_goto 130 gq157 rfl rfl ?_
    exact kGo.weak (km_Le.s (km_Le.s (km_Le.s (km_Le.n (km_Le.n (km_Le.n km_Le.nil)))))) h
set_option maxRecDepth 10000 in
theorem b157_29 {xs : Nat → Int32} {Lx d : Nat} {V : km_V} {Q : Option Value → km_V → Prop} {x2 x3 x4 x5 : Int} {q1 : Nat} (hq1 : km_sh[q1]? = some (11, 78))
    (h : (kR x5) ∧ (kR x4) ∧ ((x4 ≤ x5 →
    kGo xs Lx (d + 1) 157 7 [some (.ref 299), some (.ref q1), some (kI (x2 + 1)), none, none, none] [] V Q) ∧
   (x5 < x4 →
    (0 ≤ ((6 + (16 * x2)) + x5) ∧ ((6 + (16 * x2)) + x5) < (78 : Nat)) ∧ (0 ≤ (V 299 25) ∧ (V 299 25) < (16 : Nat)) ∧ (0 ≤ ((up V 313 (Int.toNat (V 299 25)) (V q1 (Int.toNat ((6 + (16 * x2)) + x5)))) 299 25) ∧ ((up V 313 (Int.toNat (V 299 25)) (V q1 (Int.toNat ((6 + (16 * x2)) + x5)))) 299 25) < (16 : Nat)) ∧ (0 ≤ (x5 + 1) ∧ (x5 + 1) ≤ 2147483647) ∧ (0 < x4 ∧ x4 ≤ 2147483647) ∧ (0 ≤ ((up (up V 313 (Int.toNat (V 299 25)) (V q1 (Int.toNat ((6 + (16 * x2)) + x5)))) 314 (Int.toNat ((up V 313 (Int.toNat (V 299 25)) (V q1 (Int.toNat ((6 + (16 * x2)) + x5)))) 299 25)) x2) 299 25) ∧ ((up (up V 313 (Int.toNat (V 299 25)) (V q1 (Int.toNat ((6 + (16 * x2)) + x5)))) 314 (Int.toNat ((up V 313 (Int.toNat (V 299 25)) (V q1 (Int.toNat ((6 + (16 * x2)) + x5)))) 299 25)) x2) 299 25) < (16 : Nat)) ∧ (0 ≤ ((x5 + x4) - 1) ∧ ((x5 + x4) - 1) ≤ 2147483647) ∧ (0 ≤ ((up (up (up V 313 (Int.toNat (V 299 25)) (V q1 (Int.toNat ((6 + (16 * x2)) + x5)))) 314 (Int.toNat ((up V 313 (Int.toNat (V 299 25)) (V q1 (Int.toNat ((6 + (16 * x2)) + x5)))) 299 25)) x2) 315 (Int.toNat ((up (up V 313 (Int.toNat (V 299 25)) (V q1 (Int.toNat ((6 + (16 * x2)) + x5)))) 314 (Int.toNat ((up V 313 (Int.toNat (V 299 25)) (V q1 (Int.toNat ((6 + (16 * x2)) + x5)))) 299 25)) x2) 299 25)) (x3 + ((x5 + 1) % x4))) 299 25) ∧ ((up (up (up V 313 (Int.toNat (V 299 25)) (V q1 (Int.toNat ((6 + (16 * x2)) + x5)))) 314 (Int.toNat ((up V 313 (Int.toNat (V 299 25)) (V q1 (Int.toNat ((6 + (16 * x2)) + x5)))) 299 25)) x2) 315 (Int.toNat ((up (up V 313 (Int.toNat (V 299 25)) (V q1 (Int.toNat ((6 + (16 * x2)) + x5)))) 314 (Int.toNat ((up V 313 (Int.toNat (V 299 25)) (V q1 (Int.toNat ((6 + (16 * x2)) + x5)))) 299 25)) x2) 299 25)) (x3 + ((x5 + 1) % x4))) 299 25) < (16 : Nat)) ∧ kGo xs Lx (d + 1) 157 29 [some (.ref 299), some (.ref q1), some (kI x2), some (kI x3), some (kI x4), some (kI (x5 + 1))] [] (up (up (up (up (up V 313 (Int.toNat (V 299 25)) (V q1 (Int.toNat ((6 + (16 * x2)) + x5)))) 314 (Int.toNat ((up V 313 (Int.toNat (V 299 25)) (V q1 (Int.toNat ((6 + (16 * x2)) + x5)))) 299 25)) x2) 315 (Int.toNat ((up (up V 313 (Int.toNat (V 299 25)) (V q1 (Int.toNat ((6 + (16 * x2)) + x5)))) 314 (Int.toNat ((up V 313 (Int.toNat (V 299 25)) (V q1 (Int.toNat ((6 + (16 * x2)) + x5)))) 299 25)) x2) 299 25)) (x3 + ((x5 + 1) % x4))) 316 (Int.toNat ((up (up (up V 313 (Int.toNat (V 299 25)) (V q1 (Int.toNat ((6 + (16 * x2)) + x5)))) 314 (Int.toNat ((up V 313 (Int.toNat (V 299 25)) (V q1 (Int.toNat ((6 + (16 * x2)) + x5)))) 299 25)) x2) 315 (Int.toNat ((up (up V 313 (Int.toNat (V 299 25)) (V q1 (Int.toNat ((6 + (16 * x2)) + x5)))) 314 (Int.toNat ((up V 313 (Int.toNat (V 299 25)) (V q1 (Int.toNat ((6 + (16 * x2)) + x5)))) 299 25)) x2) 299 25)) (x3 + ((x5 + 1) % x4))) 299 25)) (x3 + (((x5 + x4) - 1) % x4))) 299 25 (((up (up (up (up V 313 (Int.toNat (V 299 25)) (V q1 (Int.toNat ((6 + (16 * x2)) + x5)))) 314 (Int.toNat ((up V 313 (Int.toNat (V 299 25)) (V q1 (Int.toNat ((6 + (16 * x2)) + x5)))) 299 25)) x2) 315 (Int.toNat ((up (up V 313 (Int.toNat (V 299 25)) (V q1 (Int.toNat ((6 + (16 * x2)) + x5)))) 314 (Int.toNat ((up V 313 (Int.toNat (V 299 25)) (V q1 (Int.toNat ((6 + (16 * x2)) + x5)))) 299 25)) x2) 299 25)) (x3 + ((x5 + 1) % x4))) 316 (Int.toNat ((up (up (up V 313 (Int.toNat (V 299 25)) (V q1 (Int.toNat ((6 + (16 * x2)) + x5)))) 314 (Int.toNat ((up V 313 (Int.toNat (V 299 25)) (V q1 (Int.toNat ((6 + (16 * x2)) + x5)))) 299 25)) x2) 315 (Int.toNat ((up (up V 313 (Int.toNat (V 299 25)) (V q1 (Int.toNat ((6 + (16 * x2)) + x5)))) 314 (Int.toNat ((up V 313 (Int.toNat (V 299 25)) (V q1 (Int.toNat ((6 + (16 * x2)) + x5)))) 299 25)) x2) 299 25)) (x3 + ((x5 + 1) % x4))) 299 25)) (x3 + (((x5 + x4) - 1) % x4))) 299 25) + 1)) Q))) :
    kGo xs Lx (d + 1) 157 29 [some (.ref 299), some (.ref q1), some (kI x2), some (kI x3), some (kI x4), some (kI x5)] [] V Q := by
  refine g_iload 31 gq157 rfl rfl rfl ?_
  refine g_iload 33 gq157 rfl rfl rfl ?_
  have c2 := h.1
  replace h := h.2
  have c4 := h.1
  replace h := h.2
  refine g_icmp_ge 122 36 gq157 rfl rfl rfl c2 c4 (fun c => ?_) (fun c => ?_)
  · replace h := h.1 c
    refine g_iinc 125 gq157 rfl rfl rfl rfl ?_
    refine g_goto 7 gq157 rfl rfl ?_
    exact kGo.weak (km_Le.s (km_Le.s (km_Le.s (km_Le.n (km_Le.n (km_Le.n km_Le.nil)))))) h
  · replace h := h.2 c
    refine g_aload_n 37 gq157 rfl rfl rfl ?_
    refine g_getA 40 313 gq157 rfl rfl rfl rfl rfl rfl rfl ?_
    refine g_aload_n 41 gq157 rfl rfl rfl ?_
    refine g_getI 44 gq157 rfl rfl rfl rfl rfl rfl ?_
    refine g_aload_n 45 gq157 rfl rfl rfl ?_
    refine g_bipush 47 gq157 rfl rfl rfl ?_
    refine g_bipush 49 gq157 rfl rfl rfl ?_
    refine g_iload_n 50 gq157 rfl rfl rfl ?_
    refine g_imul 51 gq157 rfl rfl ?_
    refine g_iadd 52 gq157 rfl rfl ?_
    refine g_iload 54 gq157 rfl rfl rfl ?_
    refine g_iadd 55 gq157 rfl rfl ?_
    have c24 := h.1
    replace h := h.2
    refine g_iald 56 gq157 rfl rfl hq1 c24 ?_
    have c27 := h.1
    replace h := h.2
    refine g_iast 57 gq157 rfl rfl rfl c27 ?_
    refine g_aload_n 58 gq157 rfl rfl rfl ?_
    refine g_getA 61 314 gq157 rfl rfl rfl rfl rfl rfl rfl ?_
    refine g_aload_n 62 gq157 rfl rfl rfl ?_
    refine g_getI 65 gq157 rfl rfl rfl rfl rfl rfl ?_
    refine g_iload_n 66 gq157 rfl rfl rfl ?_
    have c35 := h.1
    replace h := h.2
    refine g_iast 67 gq157 rfl rfl rfl c35 ?_
    refine g_aload_n 68 gq157 rfl rfl rfl ?_
    refine g_getA 71 315 gq157 rfl rfl rfl rfl rfl rfl rfl ?_
    refine g_aload_n 72 gq157 rfl rfl rfl ?_
    refine g_getI 75 gq157 rfl rfl rfl rfl rfl rfl ?_
    refine g_iload_n 76 gq157 rfl rfl rfl ?_
    refine g_iload 78 gq157 rfl rfl rfl ?_
    refine g_iconst 79 gq157 rfl rfl ?_
    refine g_iadd 80 gq157 rfl rfl ?_
    refine g_iload 82 gq157 rfl rfl rfl ?_
    have c47 := h.1
    replace h := h.2
    have c49 := h.1
    replace h := h.2
    refine g_irem 83 gq157 rfl rfl c47 c49 ?_
    refine g_iadd 84 gq157 rfl rfl ?_
    have c53 := h.1
    replace h := h.2
    refine g_iast 85 gq157 rfl rfl rfl c53 ?_
    refine g_aload_n 86 gq157 rfl rfl rfl ?_
    refine g_getA 89 316 gq157 rfl rfl rfl rfl rfl rfl rfl ?_
    refine g_aload_n 90 gq157 rfl rfl rfl ?_
    refine g_getI 93 gq157 rfl rfl rfl rfl rfl rfl ?_
    refine g_iload_n 94 gq157 rfl rfl rfl ?_
    refine g_iload 96 gq157 rfl rfl rfl ?_
    refine g_iload 98 gq157 rfl rfl rfl ?_
    refine g_iadd 99 gq157 rfl rfl ?_
    refine g_iconst 100 gq157 rfl rfl ?_
    refine g_isub 101 gq157 rfl rfl ?_
    refine g_iload 103 gq157 rfl rfl rfl ?_
    have c67 := h.1
    replace h := h.2
    refine g_irem 104 gq157 rfl rfl c67 c49 ?_
    refine g_iadd 105 gq157 rfl rfl ?_
    have c71 := h.1
    replace h := h.2
    refine g_iast 106 gq157 rfl rfl rfl c71 ?_
    refine g_aload_n 107 gq157 rfl rfl rfl ?_
    refine g_dup 108 gq157 rfl rfl rfl ?_
    refine g_getI 111 gq157 rfl rfl rfl rfl rfl rfl ?_
    refine g_iconst 112 gq157 rfl rfl ?_
    refine g_iadd 113 gq157 rfl rfl ?_
    refine g_putI 116 gq157 rfl rfl rfl rfl rfl rfl rfl rfl ?_
    refine g_iinc 119 gq157 rfl rfl rfl rfl ?_
    refine g_goto 29 gq157 rfl rfl ?_
    exact kGo.weak (km_Le.s (km_Le.s (km_Le.s (km_Le.s (km_Le.s (km_Le.s km_Le.nil)))))) h
set_option maxRecDepth 10000 in
theorem b161_0 {xs : Nat → Int32} {Lx d : Nat} {V : km_V} {Q : Option Value → km_V → Prop} {r1 : Nat} (hr1 : km_sh[r1]? = some (11, 78))
    (h : kCV xs Lx (d + 1) 157 6 [.ref 299, .ref r1] V (fun W1 =>
  kGo xs Lx (d + 2) 161 7 [some (.ref 299), some (.ref r1), some (kI 0), none] [] W1 Q)) :
    kGo xs Lx (d + 2) 161 0 [some (.ref 299), some (.ref r1), none, none] [] V Q := by
  refine g_aload_n 1 gq161 rfl rfl rfl ?_
  refine g_aload_n 2 gq161 rfl rfl rfl ?_
  refine g_virt 157 _ (i := 263) gq161 rfl rfl gq157 rfl rfl rfl rfl rfl rfl ?_
  refine kGo.mono h (fun r W1 hr => ?_)
  obtain ⟨rfl, h⟩ := hr
  refine g_iconst 6 gq161 rfl rfl ?_
  refine g_istore_n 7 gq161 rfl rfl rfl ?_
  exact kGo.weak (km_Le.s (km_Le.s (km_Le.s (km_Le.n km_Le.nil)))) h
set_option maxRecDepth 10000 in
theorem b161_7 {xs : Nat → Int32} {Lx d : Nat} {V : km_V} {Q : Option Value → km_V → Prop} {x2 : Int} {q1 : Nat} (hq1 : km_sh[q1]? = some (11, 78))
    (h : (kR x2) ∧ (kR (2 * (V 299 25))) ∧ (((2 * (V 299 25)) ≤ x2 →
    kGo xs Lx (d + 2) 161 37 [some (.ref 299), some (.ref q1), some (kI 0), none] [] (up V 299 32 0) Q) ∧
   (x2 < (2 * (V 299 25)) →
    (0 ≤ x2 ∧ x2 < (32 : Nat)) ∧ kGo xs Lx (d + 2) 161 7 [some (.ref 299), some (.ref q1), some (kI (x2 + 1)), none] [] (up V 321 (Int.toNat x2) 0) Q))) :
    kGo xs Lx (d + 2) 161 7 [some (.ref 299), some (.ref q1), some (kI x2), none] [] V Q := by
  refine g_iload_n 8 gq161 rfl rfl rfl ?_
  refine g_iconst 9 gq161 rfl rfl ?_
  refine g_aload_n 10 gq161 rfl rfl rfl ?_
  refine g_getI 13 gq161 rfl rfl rfl rfl rfl rfl ?_
  refine g_imul 14 gq161 rfl rfl ?_
  have c5 := h.1
  replace h := h.2
  have c7 := h.1
  replace h := h.2
  refine g_icmp_ge 30 17 gq161 rfl rfl rfl c5 c7 (fun c => ?_) (fun c => ?_)
  · replace h := h.1 c
    refine g_aload_n 31 gq161 rfl rfl rfl ?_
    refine g_iconst 32 gq161 rfl rfl ?_
    refine g_putI 35 gq161 rfl rfl rfl rfl rfl rfl rfl rfl ?_
    refine g_iconst 36 gq161 rfl rfl ?_
    refine g_istore_n 37 gq161 rfl rfl rfl ?_
    exact kGo.weak (km_Le.s (km_Le.s (km_Le.s (km_Le.n km_Le.nil)))) h
  · replace h := h.2 c
    refine g_aload_n 18 gq161 rfl rfl rfl ?_
    refine g_getA 21 321 gq161 rfl rfl rfl rfl rfl rfl rfl ?_
    refine g_iload_n 22 gq161 rfl rfl rfl ?_
    refine g_iconst 23 gq161 rfl rfl ?_
    have c22 := h.1
    replace h := h.2
    refine g_zast 24 gq161 rfl rfl rfl c22 (by omega) ?_
    refine g_iinc 27 gq161 rfl rfl rfl rfl ?_
    refine g_goto 7 gq161 rfl rfl ?_
    exact kGo.weak (km_Le.s (km_Le.s (km_Le.s (km_Le.n km_Le.nil)))) h
set_option maxRecDepth 10000 in
theorem b161_37 {xs : Nat → Int32} {Lx d : Nat} {V : km_V} {Q : Option Value → km_V → Prop} {x2 : Int} {q1 : Nat} (hq1 : km_sh[q1]? = some (11, 78))
    (h : (kR x2) ∧ (kR (2 * (V 299 25))) ∧ (((2 * (V 299 25)) ≤ x2 →
    Q (some (kI (V 299 32))) V) ∧
   (x2 < (2 * (V 299 25)) →
    (0 ≤ x2 ∧ x2 < (32 : Nat)) ∧ (kR (V 321 (Int.toNat x2))) ∧ (((V 321 (Int.toNat x2)) = 0 →
      (0 ≤ (V 299 32) ∧ (V 299 32) < (32 : Nat)) ∧ (0 ≤ ((up V 319 (Int.toNat (V 299 32)) x2) 299 32) ∧ ((up V 319 (Int.toNat (V 299 32)) x2) 299 32) < (32 : Nat)) ∧ kGo xs Lx (d + 2) 161 81 [some (.ref 299), some (.ref q1), some (kI x2), some (kI x2)] [] (up (up V 319 (Int.toNat (V 299 32)) x2) 320 (Int.toNat ((up V 319 (Int.toNat (V 299 32)) x2) 299 32)) 0) Q) ∧
     ((V 321 (Int.toNat x2)) ≠ 0 →
      kGo xs Lx (d + 2) 161 37 [some (.ref 299), some (.ref q1), some (kI (x2 + 1)), none] [] V Q))))) :
    kGo xs Lx (d + 2) 161 37 [some (.ref 299), some (.ref q1), some (kI x2), none] [] V Q := by
  refine g_iload_n 38 gq161 rfl rfl rfl ?_
  refine g_iconst 39 gq161 rfl rfl ?_
  refine g_aload_n 40 gq161 rfl rfl rfl ?_
  refine g_getI 43 gq161 rfl rfl rfl rfl rfl rfl ?_
  refine g_imul 44 gq161 rfl rfl ?_
  have c5 := h.1
  replace h := h.2
  have c7 := h.1
  replace h := h.2
  refine g_icmp_ge 136 47 gq161 rfl rfl rfl c5 c7 (fun c => ?_) (fun c => ?_)
  · replace h := h.1 c
    refine g_aload_n 137 gq161 rfl rfl rfl ?_
    refine g_getI 140 gq161 rfl rfl rfl rfl rfl rfl ?_
    exact g_iret gq161 rfl rfl h
  · replace h := h.2 c
    refine g_aload_n 48 gq161 rfl rfl rfl ?_
    refine g_getA 51 321 gq161 rfl rfl rfl rfl rfl rfl rfl ?_
    refine g_iload_n 52 gq161 rfl rfl rfl ?_
    have c18 := h.1
    replace h := h.2
    refine g_zald 53 gq161 rfl rfl rfl c18 ?_
    have c21 := h.1
    replace h := h.2
    refine g_if_eq 59 56 gq161 rfl rfl rfl c21 (fun c => ?_) (fun c => ?_)
    · replace h := h.1 c
      refine g_aload_n 60 gq161 rfl rfl rfl ?_
      refine g_getA 63 319 gq161 rfl rfl rfl rfl rfl rfl rfl ?_
      refine g_aload_n 64 gq161 rfl rfl rfl ?_
      refine g_getI 67 gq161 rfl rfl rfl rfl rfl rfl ?_
      refine g_iload_n 68 gq161 rfl rfl rfl ?_
      have c30 := h.1
      replace h := h.2
      refine g_iast 69 gq161 rfl rfl rfl c30 ?_
      refine g_aload_n 70 gq161 rfl rfl rfl ?_
      refine g_getA 73 320 gq161 rfl rfl rfl rfl rfl rfl rfl ?_
      refine g_aload_n 74 gq161 rfl rfl rfl ?_
      refine g_getI 77 gq161 rfl rfl rfl rfl rfl rfl ?_
      refine g_iconst 78 gq161 rfl rfl ?_
      have c38 := h.1
      replace h := h.2
      refine g_iast 79 gq161 rfl rfl rfl c38 ?_
      refine g_iload_n 80 gq161 rfl rfl rfl ?_
      refine g_istore_n 81 gq161 rfl rfl rfl ?_
      exact kGo.weak (km_Le.s (km_Le.s (km_Le.s (km_Le.s km_Le.nil)))) h
    · replace h := h.2 c
      refine g_goto 130 gq161 rfl rfl ?_
      refine g_iinc 133 gq161 rfl rfl rfl rfl ?_
      refine g_goto 37 gq161 rfl rfl ?_
      exact kGo.weak (km_Le.s (km_Le.s (km_Le.s (km_Le.n km_Le.nil)))) h
set_option maxRecDepth 10000 in
theorem b161_81 {xs : Nat → Int32} {Lx d : Nat} {V : km_V} {Q : Option Value → km_V → Prop} {x2 x3 : Int} {q1 : Nat} (hq1 : km_sh[q1]? = some (11, 78))
    (h : (0 ≤ x3 ∧ x3 < (32 : Nat)) ∧ (kR (V 321 (Int.toNat x3))) ∧ (((V 321 (Int.toNat x3)) ≠ 0 →
    kGo xs Lx (d + 2) 161 37 [some (.ref 299), some (.ref q1), some (kI (x2 + 1)), none] [] (up V 299 32 ((V 299 32) + 1)) Q) ∧
   ((V 321 (Int.toNat x3)) = 0 →
    (0 ≤ ((up V 321 (Int.toNat x3) 1) 299 32) ∧ ((up V 321 (Int.toNat x3) 1) 299 32) < (32 : Nat)) ∧ (kturnC (up (up V 321 (Int.toNat x3) 1) 320 (Int.toNat ((up V 321 (Int.toNat x3) 1) 299 32)) (((up V 321 (Int.toNat x3) 1) 320 (Int.toNat ((up V 321 (Int.toNat x3) 1) 299 32))) + 1)) q1 x3) ∧ (∀ z1 : Int, z1 = (kturn (up (up V 321 (Int.toNat x3) 1) 320 (Int.toNat ((up V 321 (Int.toNat x3) 1) 299 32)) (((up V 321 (Int.toNat x3) 1) 320 (Int.toNat ((up V 321 (Int.toNat x3) 1) 299 32))) + 1)) q1 x3) → kGo xs Lx (d + 2) 161 81 [some (.ref 299), some (.ref q1), some (kI x2), some (kI z1)] [] (up (up V 321 (Int.toNat x3) 1) 320 (Int.toNat ((up V 321 (Int.toNat x3) 1) 299 32)) (((up V 321 (Int.toNat x3) 1) 320 (Int.toNat ((up V 321 (Int.toNat x3) 1) 299 32))) + 1)) Q)))) :
    kGo xs Lx (d + 2) 161 81 [some (.ref 299), some (.ref q1), some (kI x2), some (kI x3)] [] V Q := by
  refine g_aload_n 82 gq161 rfl rfl rfl ?_
  refine g_getA 85 321 gq161 rfl rfl rfl rfl rfl rfl rfl ?_
  refine g_iload_n 86 gq161 rfl rfl rfl ?_
  have c3 := h.1
  replace h := h.2
  refine g_zald 87 gq161 rfl rfl rfl c3 ?_
  have c6 := h.1
  replace h := h.2
  refine g_if_ne 120 90 gq161 rfl rfl rfl c6 (fun c => ?_) (fun c => ?_)
  · replace h := h.1 c
    refine g_aload_n 121 gq161 rfl rfl rfl ?_
    refine g_dup 122 gq161 rfl rfl rfl ?_
    refine g_getI 125 gq161 rfl rfl rfl rfl rfl rfl ?_
    refine g_iconst 126 gq161 rfl rfl ?_
    refine g_iadd 127 gq161 rfl rfl ?_
    refine g_putI 130 gq161 rfl rfl rfl rfl rfl rfl rfl rfl ?_
    refine g_iinc 133 gq161 rfl rfl rfl rfl ?_
    refine g_goto 37 gq161 rfl rfl ?_
    exact kGo.weak (km_Le.s (km_Le.s (km_Le.s (km_Le.n km_Le.nil)))) h
  · replace h := h.2 c
    refine g_aload_n 91 gq161 rfl rfl rfl ?_
    refine g_getA 94 321 gq161 rfl rfl rfl rfl rfl rfl rfl ?_
    refine g_iload_n 95 gq161 rfl rfl rfl ?_
    refine g_iconst 96 gq161 rfl rfl ?_
    refine g_zast 97 gq161 rfl rfl rfl c3 (by omega) ?_
    refine g_aload_n 98 gq161 rfl rfl rfl ?_
    refine g_getA 101 320 gq161 rfl rfl rfl rfl rfl rfl rfl ?_
    refine g_aload_n 102 gq161 rfl rfl rfl ?_
    refine g_getI 105 gq161 rfl rfl rfl rfl rfl rfl ?_
    refine g_dup2 106 gq161 rfl rfl rfl rfl ?_
    have c30 := h.1
    replace h := h.2
    refine g_iald 107 gq161 rfl rfl rfl c30 ?_
    refine g_iconst 108 gq161 rfl rfl ?_
    refine g_iadd 109 gq161 rfl rfl ?_
    refine g_iast 110 gq161 rfl rfl rfl c30 ?_
    refine g_aload_n 111 gq161 rfl rfl rfl ?_
    refine g_aload_n 112 gq161 rfl rfl rfl ?_
    refine g_iload_n 113 gq161 rfl rfl rfl ?_
    have c39 := h.1
    replace h := h.2
    refine g_virt 159 _ (i := 270) gq161 rfl rfl gq159 rfl rfl rfl rfl rfl rfl ?_
    refine sp_turn hq1 c39 ?_
    refine g_istore_n 117 gq161 rfl rfl rfl ?_
    replace h := h _ rfl
    refine g_goto 81 gq161 rfl rfl ?_
    exact kGo.weak (km_Le.s (km_Le.s (km_Le.s (km_Le.s km_Le.nil)))) h
set_option maxRecDepth 10000 in
theorem b162_0 {xs : Nat → Int32} {Lx d : Nat} {V : km_V} {Q : Option Value → km_V → Prop} {r1 : Nat} (hr1 : km_sh[r1]? = some (11, 78))
    (h : kCV xs Lx (d + 1) 157 6 [.ref 299, .ref r1] V (fun W1 =>
  (∀ z2 : Int, z2 = (W1 r1 (Int.toNat 1)) → kGo xs Lx (d + 2) 162 11 [some (.ref 299), some (.ref r1), some (kI z2), some (kI 0)] [] W1 Q))) :
    kGo xs Lx (d + 2) 162 0 [some (.ref 299), some (.ref r1), none, none] [] V Q := by
  refine g_aload_n 1 gq162 rfl rfl rfl ?_
  refine g_aload_n 2 gq162 rfl rfl rfl ?_
  refine g_virt 157 _ (i := 263) gq162 rfl rfl gq157 rfl rfl rfl rfl rfl rfl ?_
  refine kGo.mono h (fun r W1 hr => ?_)
  obtain ⟨rfl, h⟩ := hr
  refine g_aload_n 6 gq162 rfl rfl rfl ?_
  refine g_iconst 7 gq162 rfl rfl ?_
  refine g_iald 8 gq162 rfl rfl hr1 (by omega) ?_
  refine g_istore_n 9 gq162 rfl rfl rfl ?_
  replace h := h _ rfl
  refine g_iconst 10 gq162 rfl rfl ?_
  refine g_istore_n 11 gq162 rfl rfl rfl ?_
  exact kGo.weak (km_Le.s (km_Le.s (km_Le.s (km_Le.s km_Le.nil)))) h
set_option maxRecDepth 10000 in
theorem b162_11 {xs : Nat → Int32} {Lx d : Nat} {V : km_V} {Q : Option Value → km_V → Prop} {x2 x3 : Int} {q1 : Nat} (hq1 : km_sh[q1]? = some (11, 78))
    (h : (kR x3) ∧ (kR (V q1 (Int.toNat 1))) ∧ (((V q1 (Int.toNat 1)) ≤ x3 →
    kGo xs Lx (d + 2) 162 33 [some (.ref 299), some (.ref q1), some (kI x2), some (kI 0)] [] V Q) ∧
   (x3 < (V q1 (Int.toNat 1)) →
    (0 ≤ x3 ∧ x3 < (16 : Nat)) ∧ kGo xs Lx (d + 2) 162 11 [some (.ref 299), some (.ref q1), some (kI x2), some (kI (x3 + 1))] [] (up V 322 (Int.toNat x3) x3) Q))) :
    kGo xs Lx (d + 2) 162 11 [some (.ref 299), some (.ref q1), some (kI x2), some (kI x3)] [] V Q := by
  refine g_iload_n 12 gq162 rfl rfl rfl ?_
  refine g_aload_n 13 gq162 rfl rfl rfl ?_
  refine g_iconst 14 gq162 rfl rfl ?_
  refine g_iald 15 gq162 rfl rfl hq1 (by omega) ?_
  have c4 := h.1
  replace h := h.2
  have c6 := h.1
  replace h := h.2
  refine g_icmp_ge 31 18 gq162 rfl rfl rfl c4 c6 (fun c => ?_) (fun c => ?_)
  · replace h := h.1 c
    refine g_iconst 32 gq162 rfl rfl ?_
    refine g_istore_n 33 gq162 rfl rfl rfl ?_
    exact kGo.weak (km_Le.s (km_Le.s (km_Le.s (km_Le.s km_Le.nil)))) h
  · replace h := h.2 c
    refine g_aload_n 19 gq162 rfl rfl rfl ?_
    refine g_getA 22 322 gq162 rfl rfl rfl rfl rfl rfl rfl ?_
    refine g_iload_n 23 gq162 rfl rfl rfl ?_
    refine g_iload_n 24 gq162 rfl rfl rfl ?_
    have c18 := h.1
    replace h := h.2
    refine g_iast 25 gq162 rfl rfl rfl c18 ?_
    refine g_iinc 28 gq162 rfl rfl rfl rfl ?_
    refine g_goto 11 gq162 rfl rfl ?_
    exact kGo.weak (km_Le.s (km_Le.s (km_Le.s (km_Le.s km_Le.nil)))) h
set_option maxRecDepth 10000 in
theorem b162_33 {xs : Nat → Int32} {Lx d : Nat} {V : km_V} {Q : Option Value → km_V → Prop} {x2 x3 : Int} {q1 : Nat} (hq1 : km_sh[q1]? = some (11, 78))
    (h : (kR x3) ∧ (kR (V 299 25)) ∧ (((V 299 25) ≤ x3 →
    Q (some (kI x2)) V) ∧
   (x3 < (V 299 25) →
    (0 ≤ x3 ∧ x3 < (16 : Nat)) ∧ (0 ≤ (V 313 (Int.toNat x3)) ∧ (V 313 (Int.toNat x3)) ≤ 2147483647) ∧ (0 ≤ (V 315 (Int.toNat x3)) ∧ (V 315 (Int.toNat x3)) < (16 : Nat)) ∧ (0 ≤ (V 313 (Int.toNat (V 315 (Int.toNat x3)))) ∧ (V 313 (Int.toNat (V 315 (Int.toNat x3)))) ≤ 2147483647) ∧ kCI xs Lx (d + 1) 163 7 [.ref 299, kI ((V 313 (Int.toNat x3)) / 2), kI ((V 313 (Int.toNat (V 315 (Int.toNat x3)))) / 2), kI (V q1 (Int.toNat 1))] V (fun y1 W1 =>
    kGo xs Lx (d + 2) 162 33 [some (.ref 299), some (.ref q1), some (kI (x2 - y1)), some (kI (x3 + 1))] [] W1 Q)))) :
    kGo xs Lx (d + 2) 162 33 [some (.ref 299), some (.ref q1), some (kI x2), some (kI x3)] [] V Q := by
  refine g_iload_n 34 gq162 rfl rfl rfl ?_
  refine g_aload_n 35 gq162 rfl rfl rfl ?_
  refine g_getI 38 gq162 rfl rfl rfl rfl rfl rfl ?_
  have c3 := h.1
  replace h := h.2
  have c5 := h.1
  replace h := h.2
  refine g_icmp_ge 78 41 gq162 rfl rfl rfl c3 c5 (fun c => ?_) (fun c => ?_)
  · replace h := h.1 c
    refine g_iload_n 79 gq162 rfl rfl rfl ?_
    exact g_iret gq162 rfl rfl h
  · replace h := h.2 c
    refine g_iload_n 42 gq162 rfl rfl rfl ?_
    refine g_aload_n 43 gq162 rfl rfl rfl ?_
    refine g_aload_n 44 gq162 rfl rfl rfl ?_
    refine g_getA 47 313 gq162 rfl rfl rfl rfl rfl rfl rfl ?_
    refine g_iload_n 48 gq162 rfl rfl rfl ?_
    have c17 := h.1
    replace h := h.2
    refine g_iald 49 gq162 rfl rfl rfl c17 ?_
    refine g_iconst 50 gq162 rfl rfl ?_
    have c21 := h.1
    replace h := h.2
    refine g_idiv 51 gq162 rfl rfl c21 (by omega) ?_
    refine g_aload_n 52 gq162 rfl rfl rfl ?_
    refine g_getA 55 313 gq162 rfl rfl rfl rfl rfl rfl rfl ?_
    refine g_aload_n 56 gq162 rfl rfl rfl ?_
    refine g_getA 59 315 gq162 rfl rfl rfl rfl rfl rfl rfl ?_
    refine g_iload_n 60 gq162 rfl rfl rfl ?_
    refine g_iald 61 gq162 rfl rfl rfl c17 ?_
    have c30 := h.1
    replace h := h.2
    refine g_iald 62 gq162 rfl rfl rfl c30 ?_
    refine g_iconst 63 gq162 rfl rfl ?_
    have c34 := h.1
    replace h := h.2
    refine g_idiv 64 gq162 rfl rfl c34 (by omega) ?_
    refine g_aload_n 65 gq162 rfl rfl rfl ?_
    refine g_iconst 66 gq162 rfl rfl ?_
    refine g_iald 67 gq162 rfl rfl hq1 (by omega) ?_
    refine g_virt 163 _ (i := 273) gq162 rfl rfl gq163 rfl rfl rfl rfl rfl rfl ?_
    refine kGo.mono h (fun r W1 hr => ?_)
    obtain ⟨y1, rfl, h⟩ := hr
    refine g_isub 71 gq162 rfl rfl ?_
    refine g_istore_n 72 gq162 rfl rfl rfl ?_
    refine g_iinc 75 gq162 rfl rfl rfl rfl ?_
    refine g_goto 33 gq162 rfl rfl ?_
    exact kGo.weak (km_Le.s (km_Le.s (km_Le.s (km_Le.s km_Le.nil)))) h
set_option maxRecDepth 10000 in
theorem b163_0 {xs : Nat → Int32} {Lx d : Nat} {V : km_V} {Q : Option Value → km_V → Prop} {a1 a2 a3 : Int} 
    (h : (0 ≤ a1 ∧ a1 < (16 : Nat)) ∧ (∀ z1 : Int, z1 = (V 322 (Int.toNat a1)) → (0 ≤ a2 ∧ a2 < (16 : Nat)) ∧ (∀ z2 : Int, z2 = (V 322 (Int.toNat a2)) → (kR z1) ∧ (kR z2) ∧ ((z1 ≠ z2 →
    kGo xs Lx (d + 0) 163 28 [some (.ref 299), none, none, some (kI a3), some (kI z1), some (kI z2), some (kI 0)] [] V Q) ∧
   (z1 = z2 →
    Q (some (kI 0)) V))))) :
    kGo xs Lx (d + 0) 163 0 [some (.ref 299), some (kI a1), some (kI a2), some (kI a3), none, none, none] [] V Q := by
  refine g_aload_n 1 gq163 rfl rfl rfl ?_
  refine g_getA 4 322 gq163 rfl rfl rfl rfl rfl rfl rfl ?_
  refine g_iload_n 5 gq163 rfl rfl rfl ?_
  have c3 := h.1
  replace h := h.2
  refine g_iald 6 gq163 rfl rfl rfl c3 ?_
  refine g_istore 8 gq163 rfl rfl rfl ?_
  replace h := h _ rfl
  refine g_aload_n 9 gq163 rfl rfl rfl ?_
  refine g_getA 12 322 gq163 rfl rfl rfl rfl rfl rfl rfl ?_
  refine g_iload_n 13 gq163 rfl rfl rfl ?_
  have c11 := h.1
  replace h := h.2
  refine g_iald 14 gq163 rfl rfl rfl c11 ?_
  refine g_istore 16 gq163 rfl rfl rfl ?_
  replace h := h _ rfl
  refine g_iload 18 gq163 rfl rfl rfl ?_
  refine g_iload 20 gq163 rfl rfl rfl ?_
  have c18 := h.1
  replace h := h.2
  have c20 := h.1
  replace h := h.2
  refine g_icmp_ne 25 23 gq163 rfl rfl rfl c18 c20 (fun c => ?_) (fun c => ?_)
  · replace h := h.1 c
    refine g_iconst 26 gq163 rfl rfl ?_
    refine g_istore 28 gq163 rfl rfl rfl ?_
    exact kGo.weak (km_Le.s (km_Le.n (km_Le.n (km_Le.s (km_Le.s (km_Le.s (km_Le.s km_Le.nil))))))) h
  · replace h := h.2 c
    refine g_iconst 24 gq163 rfl rfl ?_
    exact g_iret gq163 rfl rfl h
set_option maxRecDepth 10000 in
theorem b163_28 {xs : Nat → Int32} {Lx d : Nat} {V : km_V} {Q : Option Value → km_V → Prop} {x3 x4 x5 x6 : Int} 
    (h : (kR x6) ∧ (kR x3) ∧ ((x3 ≤ x6 →
    Q (some (kI 1)) V) ∧
   (x6 < x3 →
    (0 ≤ x6 ∧ x6 < (16 : Nat)) ∧ (kR (V 322 (Int.toNat x6))) ∧ (kR x4) ∧ (((V 322 (Int.toNat x6)) ≠ x4 →
      kGo xs Lx (d + 0) 163 28 [some (.ref 299), none, none, some (kI x3), some (kI x4), some (kI x5), some (kI (x6 + 1))] [] V Q) ∧
     ((V 322 (Int.toNat x6)) = x4 →
      kGo xs Lx (d + 0) 163 28 [some (.ref 299), none, none, some (kI x3), some (kI x4), some (kI x5), some (kI (x6 + 1))] [] (up V 322 (Int.toNat x6) x5) Q))))) :
    kGo xs Lx (d + 0) 163 28 [some (.ref 299), none, none, some (kI x3), some (kI x4), some (kI x5), some (kI x6)] [] V Q := by
  refine g_iload 30 gq163 rfl rfl rfl ?_
  refine g_iload_n 31 gq163 rfl rfl rfl ?_
  have c2 := h.1
  replace h := h.2
  have c4 := h.1
  replace h := h.2
  refine g_icmp_ge 61 34 gq163 rfl rfl rfl c2 c4 (fun c => ?_) (fun c => ?_)
  · replace h := h.1 c
    refine g_iconst 62 gq163 rfl rfl ?_
    exact g_iret gq163 rfl rfl h
  · replace h := h.2 c
    refine g_aload_n 35 gq163 rfl rfl rfl ?_
    refine g_getA 38 322 gq163 rfl rfl rfl rfl rfl rfl rfl ?_
    refine g_iload 40 gq163 rfl rfl rfl ?_
    have c14 := h.1
    replace h := h.2
    refine g_iald 41 gq163 rfl rfl rfl c14 ?_
    refine g_iload 43 gq163 rfl rfl rfl ?_
    have c18 := h.1
    replace h := h.2
    have c20 := h.1
    replace h := h.2
    refine g_icmp_ne 55 46 gq163 rfl rfl rfl c18 c20 (fun c => ?_) (fun c => ?_)
    · replace h := h.1 c
      refine g_iinc 58 gq163 rfl rfl rfl rfl ?_
      refine g_goto 28 gq163 rfl rfl ?_
      exact kGo.weak (km_Le.s (km_Le.n (km_Le.n (km_Le.s (km_Le.s (km_Le.s (km_Le.s km_Le.nil))))))) h
    · replace h := h.2 c
      refine g_aload_n 47 gq163 rfl rfl rfl ?_
      refine g_getA 50 322 gq163 rfl rfl rfl rfl rfl rfl rfl ?_
      refine g_iload 52 gq163 rfl rfl rfl ?_
      refine g_iload 54 gq163 rfl rfl rfl ?_
      refine g_iast 55 gq163 rfl rfl rfl c14 ?_
      refine g_iinc 58 gq163 rfl rfl rfl rfl ?_
      refine g_goto 28 gq163 rfl rfl ?_
      exact kGo.weak (km_Le.s (km_Le.n (km_Le.n (km_Le.s (km_Le.s (km_Le.s (km_Le.s km_Le.nil))))))) h
set_option maxRecDepth 10000 in
theorem b164_0 {xs : Nat → Int32} {Lx d : Nat} {V : km_V} {Q : Option Value → km_V → Prop} {r1 : Nat} (hr1 : km_sh[r1]? = some (11, 78))
    (h : kCI xs Lx (d + 2) 161 4 [.ref 299, .ref r1] V (fun y1 W1 =>
  kCI xs Lx (d + 2) 162 4 [.ref 299, .ref r1] W1 (fun y2 W2 =>
  (kR y1) ∧ (kR ((W1 r1 (Int.toNat 1)) + (2 * y2))) ∧ ((y1 ≠ ((W1 r1 (Int.toNat 1)) + (2 * y2)) →
    Q (some (kI 0)) W2) ∧
   (y1 = ((W1 r1 (Int.toNat 1)) + (2 * y2)) →
    Q (some (kI 1)) W2))))) :
    kGo xs Lx (d + 3) 164 0 [some (.ref 299), some (.ref r1)] [] V Q := by
  refine g_aload_n 1 gq164 rfl rfl rfl ?_
  refine g_aload_n 2 gq164 rfl rfl rfl ?_
  refine g_virt 161 _ (i := 277) gq164 rfl rfl gq161 rfl rfl rfl rfl rfl rfl ?_
  refine kGo.mono h (fun r W1 hr => ?_)
  obtain ⟨y1, rfl, h⟩ := hr
  refine g_aload_n 6 gq164 rfl rfl rfl ?_
  refine g_iconst 7 gq164 rfl rfl ?_
  refine g_iald 8 gq164 rfl rfl hr1 (by omega) ?_
  refine g_iconst 9 gq164 rfl rfl ?_
  refine g_aload_n 10 gq164 rfl rfl rfl ?_
  refine g_aload_n 11 gq164 rfl rfl rfl ?_
  refine g_virt 162 _ (i := 281) gq164 rfl rfl gq162 rfl rfl rfl rfl rfl rfl ?_
  refine kGo.mono h (fun r W2 hr => ?_)
  obtain ⟨y2, rfl, h⟩ := hr
  refine g_imul 15 gq164 rfl rfl ?_
  refine g_iadd 16 gq164 rfl rfl ?_
  have c16 := h.1
  replace h := h.2
  have c18 := h.1
  replace h := h.2
  refine g_icmp_ne 23 19 gq164 rfl rfl rfl c16 c18 (fun c => ?_) (fun c => ?_)
  · replace h := h.1 c
    refine g_iconst 24 gq164 rfl rfl ?_
    exact g_zret gq164 rfl rfl (by omega) h
  · replace h := h.2 c
    refine g_iconst 20 gq164 rfl rfl ?_
    refine g_goto 24 gq164 rfl rfl ?_
    exact g_zret gq164 rfl rfl (by omega) h
set_option maxRecDepth 10000 in
theorem b166_0 {xs : Nat → Int32} {Lx d : Nat} {V : km_V} {Q : Option Value → km_V → Prop} {a2 : Int} {r1 : Nat} (hr1 : km_sh[r1]? = some (11, 78))
    (h : (0 ≤ a2 ∧ a2 < (32 : Nat)) ∧ (∀ z1 : Int, z1 = (V 320 (Int.toNat a2)) → (kR z1) ∧ ((z1 ≠ 1 →
    ((z1 ≤ 3 →
      (∀ z2 : Int, z2 = (V 319 (Int.toNat a2)) → (kturnC V r1 z2) ∧ (∀ z3 : Int, z3 = (kturn V r1 z2) → (kcbC V z2) ∧ (kcbC V z3) ∧ (kR (kcb V z2)) ∧ (kR (kcb V z3)) ∧ (((kcb V z2) ≠ (kcb V z3) →
        ((z1 ≠ 2 →
          (kturnC V r1 z3) ∧ (∀ z4 : Int, z4 = (kturn V r1 z3) → (kcbC V z4) ∧ (kR (kcb V z4)) ∧ (((kcb V z2) = (kcb V z4) →
            Q (some (kI 0)) V) ∧
           ((kcb V z2) ≠ (kcb V z4) →
            (((kcb V z3) ≠ (kcb V z4) →
              (0 ≤ z2 ∧ z2 ≤ 2147483647) ∧ (kovC V (z2 / 2)) ∧ (0 ≤ (kov V (z2 / 2)) ∧ (kov V (z2 / 2)) < 32) ∧ (0 ≤ z3 ∧ z3 ≤ 2147483647) ∧ (kovC V (z3 / 2)) ∧ (0 ≤ (kov V (z3 / 2)) ∧ (kov V (z3 / 2)) < 32) ∧ (0 ≤ (1 * ((2 ^ Int.toNat (kov V (z2 / 2)) : Nat) : Int))) ∧ (0 ≤ (1 * ((2 ^ Int.toNat (kov V (z3 / 2)) : Nat) : Int))) ∧ (0 ≤ z4 ∧ z4 ≤ 2147483647) ∧ (kovC V (z4 / 2)) ∧ (0 ≤ (kov V (z4 / 2)) ∧ (kov V (z4 / 2)) < 32) ∧ (0 ≤ ((Int.toNat (1 * ((2 ^ Int.toNat (kov V (z2 / 2)) : Nat) : Int)) ||| Int.toNat (1 * ((2 ^ Int.toNat (kov V (z3 / 2)) : Nat) : Int)) : Nat) : Int)) ∧ (0 ≤ (1 * ((2 ^ Int.toNat (kov V (z4 / 2)) : Nat) : Int))) ∧ (∀ z5 : Int, z5 = ((Int.toNat ((Int.toNat (1 * ((2 ^ Int.toNat (kov V (z2 / 2)) : Nat) : Int)) ||| Int.toNat (1 * ((2 ^ Int.toNat (kov V (z3 / 2)) : Nat) : Int)) : Nat) : Int) ||| Int.toNat (1 * ((2 ^ Int.toNat (kov V (z4 / 2)) : Nat) : Int)) : Nat) : Int) → (kR z5) ∧ ((z5 ≠ 7 →
                Q (some (kI 0)) V) ∧
               (z5 = 7 →
                Q (some (kI 3)) V)))) ∧
             ((kcb V z3) = (kcb V z4) →
              Q (some (kI 0)) V)))))) ∧
         (z1 = 2 →
          (0 ≤ z2 ∧ z2 ≤ 2147483647) ∧ (kovC V (z2 / 2)) ∧ (0 ≤ z3 ∧ z3 ≤ 2147483647) ∧ (kovC V (z3 / 2)) ∧ (kR ((kov V (z2 / 2)) + (kov V (z3 / 2)))) ∧ ((((kov V (z2 / 2)) + (kov V (z3 / 2))) ≠ 2 →
            Q (some (kI 0)) V) ∧
           (((kov V (z2 / 2)) + (kov V (z3 / 2))) = 2 →
            (kR (kov V (z2 / 2))) ∧ (((kov V (z2 / 2)) = 1 →
              Q (some (kI 0)) V) ∧
             ((kov V (z2 / 2)) ≠ 1 →
              Q (some (kI 2)) V))))))) ∧
       ((kcb V z2) = (kcb V z3) →
        Q (some (kI 0)) V))))) ∧
     (3 < z1 →
      Q (some (kI 0)) V))) ∧
   (z1 = 1 →
    Q (some (kI 1)) V)))) :
    kGo xs Lx (d + 2) 166 0 [some (.ref 299), some (.ref r1), some (kI a2), none, none, none, none, none] [] V Q := by
  refine g_aload_n 1 gq166 rfl rfl rfl ?_
  refine g_getA 4 320 gq166 rfl rfl rfl rfl rfl rfl rfl ?_
  refine g_iload_n 5 gq166 rfl rfl rfl ?_
  have c3 := h.1
  replace h := h.2
  refine g_iald 6 gq166 rfl rfl rfl c3 ?_
  refine g_istore_n 7 gq166 rfl rfl rfl ?_
  replace h := h _ rfl
  refine g_iload_n 8 gq166 rfl rfl rfl ?_
  refine g_iconst 9 gq166 rfl rfl ?_
  have c10 := h.1
  replace h := h.2
  refine g_icmp_ne 14 12 gq166 rfl rfl rfl c10 (by omega) (fun c => ?_) (fun c => ?_)
  · replace h := h.1 c
    refine g_iload_n 15 gq166 rfl rfl rfl ?_
    refine g_iconst 16 gq166 rfl rfl ?_
    refine g_icmp_le 21 19 gq166 rfl rfl rfl c10 (by omega) (fun c => ?_) (fun c => ?_)
    · replace h := h.1 c
      refine g_aload_n 22 gq166 rfl rfl rfl ?_
      refine g_getA 25 319 gq166 rfl rfl rfl rfl rfl rfl rfl ?_
      refine g_iload_n 26 gq166 rfl rfl rfl ?_
      refine g_iald 27 gq166 rfl rfl rfl c3 ?_
      refine g_istore 29 gq166 rfl rfl rfl ?_
      replace h := h _ rfl
      refine g_aload_n 30 gq166 rfl rfl rfl ?_
      refine g_aload_n 31 gq166 rfl rfl rfl ?_
      refine g_iload 33 gq166 rfl rfl rfl ?_
      have c27 := h.1
      replace h := h.2
      refine g_virt 159 _ (i := 270) gq166 rfl rfl gq159 rfl rfl rfl rfl rfl rfl ?_
      refine sp_turn hr1 c27 ?_
      refine g_istore 38 gq166 rfl rfl rfl ?_
      replace h := h _ rfl
      refine g_aload_n 39 gq166 rfl rfl rfl ?_
      refine g_iload 41 gq166 rfl rfl rfl ?_
      have c35 := h.1
      replace h := h.2
      refine g_virt 160 _ (i := 284) gq166 rfl rfl gq160 rfl rfl rfl rfl rfl rfl ?_
      refine sp_cb  c35 ?_
      refine g_aload_n 45 gq166 rfl rfl rfl ?_
      refine g_iload 47 gq166 rfl rfl rfl ?_
      have c41 := h.1
      replace h := h.2
      refine g_virt 160 _ (i := 284) gq166 rfl rfl gq160 rfl rfl rfl rfl rfl rfl ?_
      refine sp_cb  c41 ?_
      have c45 := h.1
      replace h := h.2
      have c47 := h.1
      replace h := h.2
      refine g_icmp_ne 55 53 gq166 rfl rfl rfl c45 c47 (fun c => ?_) (fun c => ?_)
      · replace h := h.1 c
        refine g_iload_n 56 gq166 rfl rfl rfl ?_
        refine g_iconst 57 gq166 rfl rfl ?_
        refine g_icmp_ne 99 60 gq166 rfl rfl rfl c10 (by omega) (fun c => ?_) (fun c => ?_)
        · replace h := h.1 c
          refine g_aload_n 100 gq166 rfl rfl rfl ?_
          refine g_aload_n 101 gq166 rfl rfl rfl ?_
          refine g_iload 103 gq166 rfl rfl rfl ?_
          have c58 := h.1
          replace h := h.2
          refine g_virt 159 _ (i := 270) gq166 rfl rfl gq159 rfl rfl rfl rfl rfl rfl ?_
          refine sp_turn hr1 c58 ?_
          refine g_istore 108 gq166 rfl rfl rfl ?_
          replace h := h _ rfl
          refine g_aload_n 109 gq166 rfl rfl rfl ?_
          refine g_iload 111 gq166 rfl rfl rfl ?_
          refine g_virt 160 _ (i := 284) gq166 rfl rfl gq160 rfl rfl rfl rfl rfl rfl ?_
          refine sp_cb  c35 ?_
          refine g_aload_n 115 gq166 rfl rfl rfl ?_
          refine g_iload 117 gq166 rfl rfl rfl ?_
          have c70 := h.1
          replace h := h.2
          refine g_virt 160 _ (i := 284) gq166 rfl rfl gq160 rfl rfl rfl rfl rfl rfl ?_
          refine sp_cb  c70 ?_
          have c74 := h.1
          replace h := h.2
          refine g_icmp_eq 138 123 gq166 rfl rfl rfl c45 c74 (fun c => ?_) (fun c => ?_)
          · replace h := h.1 c
            refine g_iconst 139 gq166 rfl rfl ?_
            exact g_iret gq166 rfl rfl h
          · replace h := h.2 c
            refine g_aload_n 124 gq166 rfl rfl rfl ?_
            refine g_iload 126 gq166 rfl rfl rfl ?_
            refine g_virt 160 _ (i := 284) gq166 rfl rfl gq160 rfl rfl rfl rfl rfl rfl ?_
            refine sp_cb  c41 ?_
            refine g_aload_n 130 gq166 rfl rfl rfl ?_
            refine g_iload 132 gq166 rfl rfl rfl ?_
            refine g_virt 160 _ (i := 284) gq166 rfl rfl gq160 rfl rfl rfl rfl rfl rfl ?_
            refine sp_cb  c70 ?_
            refine g_icmp_ne 140 138 gq166 rfl rfl rfl c47 c74 (fun c => ?_) (fun c => ?_)
            · replace h := h.1 c
              refine g_iconst 141 gq166 rfl rfl ?_
              refine g_aload_n 142 gq166 rfl rfl rfl ?_
              refine g_iload 144 gq166 rfl rfl rfl ?_
              refine g_iconst 145 gq166 rfl rfl ?_
              have c95 := h.1
              replace h := h.2
              refine g_idiv 146 gq166 rfl rfl c95 (by omega) ?_
              have c98 := h.1
              replace h := h.2
              refine g_virt 165 _ (i := 287) gq166 rfl rfl gq165 rfl rfl rfl rfl rfl rfl ?_
              refine sp_ov  c98 ?_
              have c102 := h.1
              replace h := h.2
              refine g_ishl 150 gq166 rfl rfl c102 ?_
              refine g_iconst 151 gq166 rfl rfl ?_
              refine g_aload_n 152 gq166 rfl rfl rfl ?_
              refine g_iload 154 gq166 rfl rfl rfl ?_
              refine g_iconst 155 gq166 rfl rfl ?_
              have c109 := h.1
              replace h := h.2
              refine g_idiv 156 gq166 rfl rfl c109 (by omega) ?_
              have c112 := h.1
              replace h := h.2
              refine g_virt 165 _ (i := 287) gq166 rfl rfl gq165 rfl rfl rfl rfl rfl rfl ?_
              refine sp_ov  c112 ?_
              have c116 := h.1
              replace h := h.2
              refine g_ishl 160 gq166 rfl rfl c116 ?_
              have c119 := h.1
              replace h := h.2
              have c121 := h.1
              replace h := h.2
              refine g_ior 161 gq166 rfl rfl c119 c121 ?_
              refine g_iconst 162 gq166 rfl rfl ?_
              refine g_aload_n 163 gq166 rfl rfl rfl ?_
              refine g_iload 165 gq166 rfl rfl rfl ?_
              refine g_iconst 166 gq166 rfl rfl ?_
              have c128 := h.1
              replace h := h.2
              refine g_idiv 167 gq166 rfl rfl c128 (by omega) ?_
              have c131 := h.1
              replace h := h.2
              refine g_virt 165 _ (i := 287) gq166 rfl rfl gq165 rfl rfl rfl rfl rfl rfl ?_
              refine sp_ov  c131 ?_
              have c135 := h.1
              replace h := h.2
              refine g_ishl 171 gq166 rfl rfl c135 ?_
              have c138 := h.1
              replace h := h.2
              have c140 := h.1
              replace h := h.2
              refine g_ior 172 gq166 rfl rfl c138 c140 ?_
              refine g_istore 174 gq166 rfl rfl rfl ?_
              replace h := h _ rfl
              refine g_iload 176 gq166 rfl rfl rfl ?_
              refine g_bipush 178 gq166 rfl rfl rfl ?_
              have c147 := h.1
              replace h := h.2
              refine g_icmp_ne 185 181 gq166 rfl rfl rfl c147 (by omega) (fun c => ?_) (fun c => ?_)
              · replace h := h.1 c
                refine g_iconst 186 gq166 rfl rfl ?_
                exact g_iret gq166 rfl rfl h
              · replace h := h.2 c
                refine g_iconst 182 gq166 rfl rfl ?_
                refine g_goto 186 gq166 rfl rfl ?_
                exact g_iret gq166 rfl rfl h
            · replace h := h.2 c
              refine g_iconst 139 gq166 rfl rfl ?_
              exact g_iret gq166 rfl rfl h
        · replace h := h.2 c
          refine g_aload_n 61 gq166 rfl rfl rfl ?_
          refine g_iload 63 gq166 rfl rfl rfl ?_
          refine g_iconst 64 gq166 rfl rfl ?_
          have c164 := h.1
          replace h := h.2
          refine g_idiv 65 gq166 rfl rfl c164 (by omega) ?_
          have c167 := h.1
          replace h := h.2
          refine g_virt 165 _ (i := 287) gq166 rfl rfl gq165 rfl rfl rfl rfl rfl rfl ?_
          refine sp_ov  c167 ?_
          refine g_aload_n 69 gq166 rfl rfl rfl ?_
          refine g_iload 71 gq166 rfl rfl rfl ?_
          refine g_iconst 72 gq166 rfl rfl ?_
          have c174 := h.1
          replace h := h.2
          refine g_idiv 73 gq166 rfl rfl c174 (by omega) ?_
          have c177 := h.1
          replace h := h.2
          refine g_virt 165 _ (i := 287) gq166 rfl rfl gq165 rfl rfl rfl rfl rfl rfl ?_
          refine sp_ov  c177 ?_
          refine g_iadd 77 gq166 rfl rfl ?_
          refine g_iconst 78 gq166 rfl rfl ?_
          have c183 := h.1
          replace h := h.2
          refine g_icmp_ne 97 81 gq166 rfl rfl rfl c183 (by omega) (fun c => ?_) (fun c => ?_)
          · replace h := h.1 c
            refine g_iconst 98 gq166 rfl rfl ?_
            exact g_iret gq166 rfl rfl h
          · replace h := h.2 c
            refine g_aload_n 82 gq166 rfl rfl rfl ?_
            refine g_iload 84 gq166 rfl rfl rfl ?_
            refine g_iconst 85 gq166 rfl rfl ?_
            refine g_idiv 86 gq166 rfl rfl c164 (by omega) ?_
            refine g_virt 165 _ (i := 287) gq166 rfl rfl gq165 rfl rfl rfl rfl rfl rfl ?_
            refine sp_ov  c167 ?_
            refine g_iconst 90 gq166 rfl rfl ?_
            have c197 := h.1
            replace h := h.2
            refine g_icmp_eq 97 93 gq166 rfl rfl rfl c197 (by omega) (fun c => ?_) (fun c => ?_)
            · replace h := h.1 c
              refine g_iconst 98 gq166 rfl rfl ?_
              exact g_iret gq166 rfl rfl h
            · replace h := h.2 c
              refine g_iconst 94 gq166 rfl rfl ?_
              refine g_goto 98 gq166 rfl rfl ?_
              exact g_iret gq166 rfl rfl h
      · replace h := h.2 c
        refine g_iconst 54 gq166 rfl rfl ?_
        exact g_iret gq166 rfl rfl h
    · replace h := h.2 c
      refine g_iconst 20 gq166 rfl rfl ?_
      exact g_iret gq166 rfl rfl h
  · replace h := h.2 c
    refine g_iconst 13 gq166 rfl rfl ?_
    exact g_iret gq166 rfl rfl h
set_option maxRecDepth 10000 in
theorem b167_0 {xs : Nat → Int32} {Lx d : Nat} {V : km_V} {Q : Option Value → km_V → Prop} {a1 : Int} 
    (h : kCI xs Lx (d + 2) 161 4 [.ref 299, .ref 307] V (fun y1 W1 =>
  kGo xs Lx (d + 3) 167 13 [some (.ref 299), some (kI a1), some (kI 0), some (kI 0)] [] W1 Q)) :
    kGo xs Lx (d + 3) 167 0 [some (.ref 299), some (kI a1), none, none] [] V Q := by
  refine g_iconst 1 gq167 rfl rfl ?_
  refine g_istore_n 2 gq167 rfl rfl rfl ?_
  refine g_aload_n 3 gq167 rfl rfl rfl ?_
  refine g_aload_n 4 gq167 rfl rfl rfl ?_
  refine g_getA 7 307 gq167 rfl rfl rfl rfl rfl rfl rfl ?_
  refine g_virt 161 _ (i := 277) gq167 rfl rfl gq161 rfl rfl rfl rfl rfl rfl ?_
  refine kGo.mono h (fun r W1 hr => ?_)
  obtain ⟨y1, rfl, h⟩ := hr
  refine g_pop 11 gq167 rfl rfl rfl ?_
  refine g_iconst 12 gq167 rfl rfl ?_
  refine g_istore_n 13 gq167 rfl rfl rfl ?_
  exact kGo.weak (km_Le.s (km_Le.s (km_Le.s (km_Le.s km_Le.nil)))) h
set_option maxRecDepth 10000 in
theorem b167_13 {xs : Nat → Int32} {Lx d : Nat} {V : km_V} {Q : Option Value → km_V → Prop} {x1 x2 x3 : Int} 
    (h : (kR x3) ∧ (kR (V 299 32)) ∧ (((V 299 32) ≤ x3 →
    Q (some (kI x2)) V) ∧
   (x3 < (V 299 32) →
    kCI xs Lx (d + 2) 166 8 [.ref 299, .ref 307, kI x3] V (fun y1 W1 =>
    (kR y1) ∧ (kR x1) ∧ ((y1 ≠ x1 →
      kGo xs Lx (d + 3) 167 13 [some (.ref 299), some (kI x1), some (kI x2), some (kI (x3 + 1))] [] W1 Q) ∧
     (y1 = x1 →
      kGo xs Lx (d + 3) 167 13 [some (.ref 299), some (kI x1), some (kI (x2 + 1)), some (kI (x3 + 1))] [] W1 Q)))))) :
    kGo xs Lx (d + 3) 167 13 [some (.ref 299), some (kI x1), some (kI x2), some (kI x3)] [] V Q := by
  refine g_iload_n 14 gq167 rfl rfl rfl ?_
  refine g_aload_n 15 gq167 rfl rfl rfl ?_
  refine g_getI 18 gq167 rfl rfl rfl rfl rfl rfl ?_
  have c3 := h.1
  replace h := h.2
  have c5 := h.1
  replace h := h.2
  refine g_icmp_ge 43 21 gq167 rfl rfl rfl c3 c5 (fun c => ?_) (fun c => ?_)
  · replace h := h.1 c
    refine g_iload_n 44 gq167 rfl rfl rfl ?_
    exact g_iret gq167 rfl rfl h
  · replace h := h.2 c
    refine g_aload_n 22 gq167 rfl rfl rfl ?_
    refine g_aload_n 23 gq167 rfl rfl rfl ?_
    refine g_getA 26 307 gq167 rfl rfl rfl rfl rfl rfl rfl ?_
    refine g_iload_n 27 gq167 rfl rfl rfl ?_
    refine g_virt 166 _ (i := 290) gq167 rfl rfl gq166 rfl rfl rfl rfl rfl rfl ?_
    refine kGo.mono h (fun r W1 hr => ?_)
    obtain ⟨y1, rfl, h⟩ := hr
    refine g_iload_n 31 gq167 rfl rfl rfl ?_
    have c20 := h.1
    replace h := h.2
    have c22 := h.1
    replace h := h.2
    refine g_icmp_ne 37 34 gq167 rfl rfl rfl c20 c22 (fun c => ?_) (fun c => ?_)
    · replace h := h.1 c
      refine g_iinc 40 gq167 rfl rfl rfl rfl ?_
      refine g_goto 13 gq167 rfl rfl ?_
      exact kGo.weak (km_Le.s (km_Le.s (km_Le.s (km_Le.s km_Le.nil)))) h
    · replace h := h.2 c
      refine g_iinc 37 gq167 rfl rfl rfl rfl ?_
      refine g_iinc 40 gq167 rfl rfl rfl rfl ?_
      refine g_goto 13 gq167 rfl rfl ?_
      exact kGo.weak (km_Le.s (km_Le.s (km_Le.s (km_Le.s km_Le.nil)))) h
set_option maxRecDepth 10000 in
theorem b168_0 {xs : Nat → Int32} {Lx d : Nat} {V : km_V} {Q : Option Value → km_V → Prop} {a2 : Int} {r1 : Nat} (hr1 : km_sh[r1]? = some (11, 78))
    (h : kCI xs Lx (d + 2) 161 4 [.ref 299, .ref r1] V (fun y1 W1 =>
  kGo xs Lx (d + 3) 168 8 [some (.ref 299), some (.ref r1), some (kI a2), some (kI 0)] [] W1 Q)) :
    kGo xs Lx (d + 3) 168 0 [some (.ref 299), some (.ref r1), some (kI a2), none] [] V Q := by
  refine g_aload_n 1 gq168 rfl rfl rfl ?_
  refine g_aload_n 2 gq168 rfl rfl rfl ?_
  refine g_virt 161 _ (i := 277) gq168 rfl rfl gq161 rfl rfl rfl rfl rfl rfl ?_
  refine kGo.mono h (fun r W1 hr => ?_)
  obtain ⟨y1, rfl, h⟩ := hr
  refine g_pop 6 gq168 rfl rfl rfl ?_
  refine g_iconst 7 gq168 rfl rfl ?_
  refine g_istore_n 8 gq168 rfl rfl rfl ?_
  exact kGo.weak (km_Le.s (km_Le.s (km_Le.s (km_Le.s km_Le.nil)))) h
set_option maxRecDepth 10000 in
theorem b168_8 {xs : Nat → Int32} {Lx d : Nat} {V : km_V} {Q : Option Value → km_V → Prop} {x2 x3 : Int} {q1 : Nat} (hq1 : km_sh[q1]? = some (11, 78))
    (h : (kR x3) ∧ (kR (V 299 32)) ∧ (((V 299 32) ≤ x3 →
    Q (some (kI (-1))) V) ∧
   (x3 < (V 299 32) →
    kCI xs Lx (d + 2) 166 8 [.ref 299, .ref q1, kI x3] V (fun y1 W1 =>
    (kR y1) ∧ (kR x2) ∧ ((y1 ≠ x2 →
      kGo xs Lx (d + 3) 168 8 [some (.ref 299), some (.ref q1), some (kI x2), some (kI (x3 + 1))] [] W1 Q) ∧
     (y1 = x2 →
      Q (some (kI x3)) W1)))))) :
    kGo xs Lx (d + 3) 168 8 [some (.ref 299), some (.ref q1), some (kI x2), some (kI x3)] [] V Q := by
  refine g_iload_n 9 gq168 rfl rfl rfl ?_
  refine g_aload_n 10 gq168 rfl rfl rfl ?_
  refine g_getI 13 gq168 rfl rfl rfl rfl rfl rfl ?_
  have c3 := h.1
  replace h := h.2
  have c5 := h.1
  replace h := h.2
  refine g_icmp_ge 34 16 gq168 rfl rfl rfl c3 c5 (fun c => ?_) (fun c => ?_)
  · replace h := h.1 c
    refine g_iconst 35 gq168 rfl rfl ?_
    exact g_iret gq168 rfl rfl h
  · replace h := h.2 c
    refine g_aload_n 17 gq168 rfl rfl rfl ?_
    refine g_aload_n 18 gq168 rfl rfl rfl ?_
    refine g_iload_n 19 gq168 rfl rfl rfl ?_
    refine g_virt 166 _ (i := 290) gq168 rfl rfl gq166 rfl rfl rfl rfl rfl rfl ?_
    refine kGo.mono h (fun r W1 hr => ?_)
    obtain ⟨y1, rfl, h⟩ := hr
    refine g_iload_n 23 gq168 rfl rfl rfl ?_
    have c19 := h.1
    replace h := h.2
    have c21 := h.1
    replace h := h.2
    refine g_icmp_ne 28 26 gq168 rfl rfl rfl c19 c21 (fun c => ?_) (fun c => ?_)
    · replace h := h.1 c
      refine g_iinc 31 gq168 rfl rfl rfl rfl ?_
      refine g_goto 8 gq168 rfl rfl ?_
      exact kGo.weak (km_Le.s (km_Le.s (km_Le.s (km_Le.s km_Le.nil)))) h
    · replace h := h.2 c
      refine g_iload_n 27 gq168 rfl rfl rfl ?_
      exact g_iret gq168 rfl rfl h
set_option maxRecDepth 10000 in
theorem b169_0 {xs : Nat → Int32} {Lx d : Nat} {V : km_V} {Q : Option Value → km_V → Prop} {a1 : Int} {r0 : Nat} (hr0 : km_sh[r0]? = some (11, 78))
    (h : kGo xs Lx (d + 0) 169 2 [some (.ref r0), some (kI a1), some (kI 0), none, none, none] [] V Q) :
    kGo xs Lx (d + 0) 169 0 [some (.ref r0), some (kI a1), none, none, none, none] [] V Q := by
  refine g_iconst 1 gq169 rfl rfl ?_
  refine g_istore_n 2 gq169 rfl rfl rfl ?_
  exact kGo.weak (km_Le.s (km_Le.s (km_Le.s (km_Le.n (km_Le.n (km_Le.n km_Le.nil)))))) h
set_option maxRecDepth 10000 in
theorem b169_2 {xs : Nat → Int32} {Lx d : Nat} {V : km_V} {Q : Option Value → km_V → Prop} {x1 x2 : Int} {q0 : Nat} (hq0 : km_sh[q0]? = some (11, 78))
    (h : (kR x2) ∧ (kR (V q0 (Int.toNat 0))) ∧ (((V q0 (Int.toNat 0)) ≤ x2 →
    kGo xs Lx (d + 0) 169 100 [some (.ref q0), none, some (kI x1), none, none, none] [] V Q) ∧
   (x2 < (V q0 (Int.toNat 0)) →
    kGo xs Lx (d + 0) 169 14 [some (.ref q0), some (kI x1), some (kI x2), some (kI 0), some (kI 0), none] [] V Q))) :
    kGo xs Lx (d + 0) 169 2 [some (.ref q0), some (kI x1), some (kI x2), none, none, none] [] V Q := by
  refine g_iload_n 3 gq169 rfl rfl rfl ?_
  refine g_aload_n 4 gq169 rfl rfl rfl ?_
  refine g_iconst 5 gq169 rfl rfl ?_
  refine g_iald 6 gq169 rfl rfl hq0 (by omega) ?_
  have c4 := h.1
  replace h := h.2
  have c6 := h.1
  replace h := h.2
  refine g_icmp_ge 98 9 gq169 rfl rfl rfl c4 c6 (fun c => ?_) (fun c => ?_)
  · replace h := h.1 c
    refine g_iload_n 99 gq169 rfl rfl rfl ?_
    refine g_istore_n 100 gq169 rfl rfl rfl ?_
    exact kGo.weak (km_Le.s (km_Le.n (km_Le.s (km_Le.n (km_Le.n (km_Le.n km_Le.nil)))))) h
  · replace h := h.2 c
    refine g_iconst 10 gq169 rfl rfl ?_
    refine g_istore_n 11 gq169 rfl rfl rfl ?_
    refine g_iconst 12 gq169 rfl rfl ?_
    refine g_istore 14 gq169 rfl rfl rfl ?_
    exact kGo.weak (km_Le.s (km_Le.s (km_Le.s (km_Le.s (km_Le.s (km_Le.n km_Le.nil)))))) h
set_option maxRecDepth 10000 in
theorem b169_100 {xs : Nat → Int32} {Lx d : Nat} {V : km_V} {Q : Option Value → km_V → Prop} {x2 : Int} {q0 : Nat} (hq0 : km_sh[q0]? = some (11, 78))
    (h : (kR (x2 + 1)) ∧ (kR (V q0 (Int.toNat 1))) ∧ (((V q0 (Int.toNat 1)) ≤ (x2 + 1) →
    Q none (up V q0 (Int.toNat 1) ((V q0 (Int.toNat 1)) - 1))) ∧
   ((x2 + 1) < (V q0 (Int.toNat 1)) →
    (0 ≤ ((70 + x2) + 1) ∧ ((70 + x2) + 1) < (78 : Nat)) ∧ (0 ≤ (70 + x2) ∧ (70 + x2) < (78 : Nat)) ∧ kGo xs Lx (d + 0) 169 100 [some (.ref q0), none, some (kI (x2 + 1)), none, none, none] [] (up V q0 (Int.toNat (70 + x2)) (V q0 (Int.toNat ((70 + x2) + 1)))) Q))) :
    kGo xs Lx (d + 0) 169 100 [some (.ref q0), none, some (kI x2), none, none, none] [] V Q := by
  refine g_iload_n 101 gq169 rfl rfl rfl ?_
  refine g_iconst 102 gq169 rfl rfl ?_
  refine g_iadd 103 gq169 rfl rfl ?_
  refine g_aload_n 104 gq169 rfl rfl rfl ?_
  refine g_iconst 105 gq169 rfl rfl ?_
  refine g_iald 106 gq169 rfl rfl hq0 (by omega) ?_
  have c6 := h.1
  replace h := h.2
  have c8 := h.1
  replace h := h.2
  refine g_icmp_ge 129 109 gq169 rfl rfl rfl c6 c8 (fun c => ?_) (fun c => ?_)
  · replace h := h.1 c
    refine g_aload_n 130 gq169 rfl rfl rfl ?_
    refine g_iconst 131 gq169 rfl rfl ?_
    refine g_dup2 132 gq169 rfl rfl rfl rfl ?_
    refine g_iald 133 gq169 rfl rfl hq0 (by omega) ?_
    refine g_iconst 134 gq169 rfl rfl ?_
    refine g_isub 135 gq169 rfl rfl ?_
    refine g_iast 136 gq169 rfl rfl hq0 (by omega) ?_
    exact g_vret gq169 rfl rfl h
  · replace h := h.2 c
    refine g_aload_n 110 gq169 rfl rfl rfl ?_
    refine g_bipush 112 gq169 rfl rfl rfl ?_
    refine g_iload_n 113 gq169 rfl rfl rfl ?_
    refine g_iadd 114 gq169 rfl rfl ?_
    refine g_aload_n 115 gq169 rfl rfl rfl ?_
    refine g_bipush 117 gq169 rfl rfl rfl ?_
    refine g_iload_n 118 gq169 rfl rfl rfl ?_
    refine g_iadd 119 gq169 rfl rfl ?_
    refine g_iconst 120 gq169 rfl rfl ?_
    refine g_iadd 121 gq169 rfl rfl ?_
    have c31 := h.1
    replace h := h.2
    refine g_iald 122 gq169 rfl rfl hq0 c31 ?_
    have c34 := h.1
    replace h := h.2
    refine g_iast 123 gq169 rfl rfl hq0 c34 ?_
    refine g_iinc 126 gq169 rfl rfl rfl rfl ?_
    refine g_goto 100 gq169 rfl rfl ?_
    exact kGo.weak (km_Le.s (km_Le.n (km_Le.s (km_Le.n (km_Le.n (km_Le.n km_Le.nil)))))) h
set_option maxRecDepth 10000 in
theorem b169_14 {xs : Nat → Int32} {Lx d : Nat} {V : km_V} {Q : Option Value → km_V → Prop} {x1 x2 x3 x4 : Int} {q0 : Nat} (hq0 : km_sh[q0]? = some (11, 78))
    (h : (0 ≤ (2 + x2) ∧ (2 + x2) < (78 : Nat)) ∧ (kR x4) ∧ (kR (V q0 (Int.toNat (2 + x2)))) ∧ (((V q0 (Int.toNat (2 + x2))) ≤ x4 →
    kGo xs Lx (d + 0) 169 2 [some (.ref q0), some (kI x1), some (kI (x2 + 1)), none, none, none] [] (up V q0 (Int.toNat (2 + x2)) x3) Q) ∧
   (x4 < (V q0 (Int.toNat (2 + x2))) →
    (0 ≤ ((6 + (16 * x2)) + x4) ∧ ((6 + (16 * x2)) + x4) < (78 : Nat)) ∧ (∀ z1 : Int, z1 = (V q0 (Int.toNat ((6 + (16 * x2)) + x4))) → (0 ≤ z1 ∧ z1 ≤ 2147483647) ∧ (kR (z1 / 2)) ∧ (kR x1) ∧ (((z1 / 2) ≠ x1 →
      (((z1 / 2) ≤ x1 →
        (0 ≤ ((6 + (16 * x2)) + x3) ∧ ((6 + (16 * x2)) + x3) < (78 : Nat)) ∧ kGo xs Lx (d + 0) 169 14 [some (.ref q0), some (kI x1), some (kI x2), some (kI (x3 + 1)), some (kI (x4 + 1)), none] [] (up V q0 (Int.toNat ((6 + (16 * x2)) + x3)) z1) Q) ∧
       (x1 < (z1 / 2) →
        (0 ≤ ((6 + (16 * x2)) + x3) ∧ ((6 + (16 * x2)) + x3) < (78 : Nat)) ∧ kGo xs Lx (d + 0) 169 14 [some (.ref q0), some (kI x1), some (kI x2), some (kI (x3 + 1)), some (kI (x4 + 1)), none] [] (up V q0 (Int.toNat ((6 + (16 * x2)) + x3)) (z1 - 2)) Q))) ∧
     ((z1 / 2) = x1 →
      kGo xs Lx (d + 0) 169 14 [some (.ref q0), some (kI x1), some (kI x2), some (kI x3), some (kI (x4 + 1)), none] [] V Q)))))) :
    kGo xs Lx (d + 0) 169 14 [some (.ref q0), some (kI x1), some (kI x2), some (kI x3), some (kI x4), none] [] V Q := by
  refine g_iload 16 gq169 rfl rfl rfl ?_
  refine g_aload_n 17 gq169 rfl rfl rfl ?_
  refine g_iconst 18 gq169 rfl rfl ?_
  refine g_iload_n 19 gq169 rfl rfl rfl ?_
  refine g_iadd 20 gq169 rfl rfl ?_
  have c5 := h.1
  replace h := h.2
  refine g_iald 21 gq169 rfl rfl hq0 c5 ?_
  have c8 := h.1
  replace h := h.2
  have c10 := h.1
  replace h := h.2
  refine g_icmp_ge 86 24 gq169 rfl rfl rfl c8 c10 (fun c => ?_) (fun c => ?_)
  · replace h := h.1 c
    refine g_aload_n 87 gq169 rfl rfl rfl ?_
    refine g_iconst 88 gq169 rfl rfl ?_
    refine g_iload_n 89 gq169 rfl rfl rfl ?_
    refine g_iadd 90 gq169 rfl rfl ?_
    refine g_iload_n 91 gq169 rfl rfl rfl ?_
    refine g_iast 92 gq169 rfl rfl hq0 c5 ?_
    refine g_iinc 95 gq169 rfl rfl rfl rfl ?_
    refine g_goto 2 gq169 rfl rfl ?_
    exact kGo.weak (km_Le.s (km_Le.s (km_Le.s (km_Le.n (km_Le.n (km_Le.n km_Le.nil)))))) h
  · replace h := h.2 c
    refine g_aload_n 25 gq169 rfl rfl rfl ?_
    refine g_bipush 27 gq169 rfl rfl rfl ?_
    refine g_bipush 29 gq169 rfl rfl rfl ?_
    refine g_iload_n 30 gq169 rfl rfl rfl ?_
    refine g_imul 31 gq169 rfl rfl ?_
    refine g_iadd 32 gq169 rfl rfl ?_
    refine g_iload 34 gq169 rfl rfl rfl ?_
    refine g_iadd 35 gq169 rfl rfl ?_
    have c32 := h.1
    replace h := h.2
    refine g_iald 36 gq169 rfl rfl hq0 c32 ?_
    refine g_istore 38 gq169 rfl rfl rfl ?_
    replace h := h _ rfl
    refine g_iload 40 gq169 rfl rfl rfl ?_
    refine g_iconst 41 gq169 rfl rfl ?_
    have c39 := h.1
    replace h := h.2
    refine g_idiv 42 gq169 rfl rfl c39 (by omega) ?_
    refine g_iload_n 43 gq169 rfl rfl rfl ?_
    have c43 := h.1
    replace h := h.2
    have c45 := h.1
    replace h := h.2
    refine g_icmp_ne 49 46 gq169 rfl rfl rfl c43 c45 (fun c => ?_) (fun c => ?_)
    · replace h := h.1 c
      refine g_aload_n 50 gq169 rfl rfl rfl ?_
      refine g_bipush 52 gq169 rfl rfl rfl ?_
      refine g_bipush 54 gq169 rfl rfl rfl ?_
      refine g_iload_n 55 gq169 rfl rfl rfl ?_
      refine g_imul 56 gq169 rfl rfl ?_
      refine g_iadd 57 gq169 rfl rfl ?_
      refine g_iload_n 58 gq169 rfl rfl rfl ?_
      refine g_iadd 59 gq169 rfl rfl ?_
      refine g_iload 61 gq169 rfl rfl rfl ?_
      refine g_iconst 62 gq169 rfl rfl ?_
      refine g_idiv 63 gq169 rfl rfl c39 (by omega) ?_
      refine g_iload_n 64 gq169 rfl rfl rfl ?_
      refine g_icmp_le 74 67 gq169 rfl rfl rfl c43 c45 (fun c => ?_) (fun c => ?_)
      · replace h := h.1 c
        refine g_iload 76 gq169 rfl rfl rfl ?_
        have c64 := h.1
        replace h := h.2
        refine g_iast 77 gq169 rfl rfl hq0 c64 ?_
        refine g_iinc 80 gq169 rfl rfl rfl rfl ?_
        refine g_iinc 83 gq169 rfl rfl rfl rfl ?_
        refine g_goto 14 gq169 rfl rfl ?_
        exact kGo.weak (km_Le.s (km_Le.s (km_Le.s (km_Le.s (km_Le.s (km_Le.n km_Le.nil)))))) h
      · replace h := h.2 c
        refine g_iload 69 gq169 rfl rfl rfl ?_
        refine g_iconst 70 gq169 rfl rfl ?_
        refine g_isub 71 gq169 rfl rfl ?_
        refine g_goto 76 gq169 rfl rfl ?_
        have c76 := h.1
        replace h := h.2
        refine g_iast 77 gq169 rfl rfl hq0 c76 ?_
        refine g_iinc 80 gq169 rfl rfl rfl rfl ?_
        refine g_iinc 83 gq169 rfl rfl rfl rfl ?_
        refine g_goto 14 gq169 rfl rfl ?_
        exact kGo.weak (km_Le.s (km_Le.s (km_Le.s (km_Le.s (km_Le.s (km_Le.n km_Le.nil)))))) h
    · replace h := h.2 c
      refine g_goto 80 gq169 rfl rfl ?_
      refine g_iinc 83 gq169 rfl rfl rfl rfl ?_
      refine g_goto 14 gq169 rfl rfl ?_
      exact kGo.weak (km_Le.s (km_Le.s (km_Le.s (km_Le.s (km_Le.s (km_Le.n km_Le.nil)))))) h
set_option maxRecDepth 10000 in
theorem b170_0 {xs : Nat → Int32} {Lx d : Nat} {V : km_V} {Q : Option Value → km_V → Prop} {a2 : Int} {r1 : Nat} (hr1 : km_sh[r1]? = some (11, 78))
    (h : (0 ≤ a2 ∧ a2 < (32 : Nat)) ∧ (kcbC V (V 319 (Int.toNat a2))) ∧ (∀ z1 : Int, z1 = (kcb V (V 319 (Int.toNat a2))) → (kR (V 320 (Int.toNat a2))) ∧ (((V 320 (Int.toNat a2)) ≠ 2 →
    (kR z1) ∧ ((z1 ≤ z1 →
      kCV xs Lx (d + 1) 169 6 [.ref r1, kI z1] V (fun W2 =>
      ((z1 = z1 →
        Q none W2) ∧
       (z1 ≠ z1 →
        kCV xs Lx (d + 1) 169 6 [.ref r1, kI z1] W2 (fun W3 =>
        Q none W3))))) ∧
     (z1 < z1 →
      kCV xs Lx (d + 1) 169 6 [.ref r1, kI z1] V (fun W4 =>
      ((z1 = z1 →
        Q none W4) ∧
       (z1 ≠ z1 →
        kCV xs Lx (d + 1) 169 6 [.ref r1, kI z1] W4 (fun W5 =>
        Q none W5))))))) ∧
   ((V 320 (Int.toNat a2)) = 2 →
    (kturnC V r1 (V 319 (Int.toNat a2))) ∧ (kcbC V (kturn V r1 (V 319 (Int.toNat a2)))) ∧ (∀ z6 : Int, z6 = (kcb V (kturn V r1 (V 319 (Int.toNat a2)))) → (kR z1) ∧ (kR z6) ∧ ((z1 ≤ z6 →
      kCV xs Lx (d + 1) 169 6 [.ref r1, kI z6] V (fun W7 =>
      ((z1 = z6 →
        Q none W7) ∧
       (z1 ≠ z6 →
        kCV xs Lx (d + 1) 169 6 [.ref r1, kI z1] W7 (fun W8 =>
        Q none W8))))) ∧
     (z6 < z1 →
      kCV xs Lx (d + 1) 169 6 [.ref r1, kI z1] V (fun W9 =>
      ((z1 = z6 →
        Q none W9) ∧
       (z1 ≠ z6 →
        kCV xs Lx (d + 1) 169 6 [.ref r1, kI z6] W9 (fun W10 =>
        Q none W10))))))))))) :
    kGo xs Lx (d + 2) 170 0 [some (.ref 299), some (.ref r1), some (kI a2), none, none] [] V Q := by
  refine g_aload_n 1 gq170 rfl rfl rfl ?_
  refine g_aload_n 2 gq170 rfl rfl rfl ?_
  refine g_getA 5 319 gq170 rfl rfl rfl rfl rfl rfl rfl ?_
  refine g_iload_n 6 gq170 rfl rfl rfl ?_
  have c4 := h.1
  replace h := h.2
  refine g_iald 7 gq170 rfl rfl rfl c4 ?_
  have c7 := h.1
  replace h := h.2
  refine g_virt 160 _ (i := 284) gq170 rfl rfl gq160 rfl rfl rfl rfl rfl rfl ?_
  refine sp_cb  c7 ?_
  refine g_istore_n 11 gq170 rfl rfl rfl ?_
  replace h := h _ rfl
  refine g_aload_n 12 gq170 rfl rfl rfl ?_
  refine g_getA 15 320 gq170 rfl rfl rfl rfl rfl rfl rfl ?_
  refine g_iload_n 16 gq170 rfl rfl rfl ?_
  refine g_iald 17 gq170 rfl rfl rfl c4 ?_
  refine g_iconst 18 gq170 rfl rfl ?_
  have c18 := h.1
  replace h := h.2
  refine g_icmp_ne 39 21 gq170 rfl rfl rfl c18 (by omega) (fun c => ?_) (fun c => ?_)
  · replace h := h.1 c
    refine g_iload_n 40 gq170 rfl rfl rfl ?_
    refine g_istore 42 gq170 rfl rfl rfl ?_
    refine g_aload_n 43 gq170 rfl rfl rfl ?_
    refine g_iload_n 44 gq170 rfl rfl rfl ?_
    refine g_iload 46 gq170 rfl rfl rfl ?_
    have c27 := h.1
    replace h := h.2
    refine g_icmp_le 53 49 gq170 rfl rfl rfl c27 c27 (fun c => ?_) (fun c => ?_)
    · replace h := h.1 c
      refine g_iload 55 gq170 rfl rfl rfl ?_
      refine g_static 169 _ (i := 293) gq170 rfl rfl gq169 rfl rfl rfl rfl ?_
      refine kGo.mono h (fun r W2 hr => ?_)
      obtain ⟨rfl, h⟩ := hr
      refine g_iload_n 59 gq170 rfl rfl rfl ?_
      refine g_iload 61 gq170 rfl rfl rfl ?_
      refine g_icmp_eq 80 64 gq170 rfl rfl rfl c27 c27 (fun c => ?_) (fun c => ?_)
      · replace h := h.1 c
        exact g_vret gq170 rfl rfl h
      · replace h := h.2 c
        refine g_aload_n 65 gq170 rfl rfl rfl ?_
        refine g_iload_n 66 gq170 rfl rfl rfl ?_
        refine g_iload 68 gq170 rfl rfl rfl ?_
        refine g_icmp_le 76 71 gq170 rfl rfl rfl c27 c27 (fun c => ?_) (fun c => ?_)
        rotate_left
        · exfalso; omega
        refine g_iload_n 77 gq170 rfl rfl rfl ?_
        refine g_static 169 _ (i := 293) gq170 rfl rfl gq169 rfl rfl rfl rfl ?_
        refine kGo.mono h (fun r W3 hr => ?_)
        obtain ⟨rfl, h⟩ := hr
        exact g_vret gq170 rfl rfl h
    · replace h := h.2 c
      refine g_iload_n 50 gq170 rfl rfl rfl ?_
      refine g_goto 55 gq170 rfl rfl ?_
      refine g_static 169 _ (i := 293) gq170 rfl rfl gq169 rfl rfl rfl rfl ?_
      refine kGo.mono h (fun r W4 hr => ?_)
      obtain ⟨rfl, h⟩ := hr
      refine g_iload_n 59 gq170 rfl rfl rfl ?_
      refine g_iload 61 gq170 rfl rfl rfl ?_
      refine g_icmp_eq 80 64 gq170 rfl rfl rfl c27 c27 (fun c => ?_) (fun c => ?_)
      · replace h := h.1 c
        exact g_vret gq170 rfl rfl h
      · replace h := h.2 c
        refine g_aload_n 65 gq170 rfl rfl rfl ?_
        refine g_iload_n 66 gq170 rfl rfl rfl ?_
        refine g_iload 68 gq170 rfl rfl rfl ?_
        refine g_icmp_le 76 71 gq170 rfl rfl rfl c27 c27 (fun c => ?_) (fun c => ?_)
        · exfalso; omega
        refine g_iload 73 gq170 rfl rfl rfl ?_
        refine g_goto 77 gq170 rfl rfl ?_
        refine g_static 169 _ (i := 293) gq170 rfl rfl gq169 rfl rfl rfl rfl ?_
        refine kGo.mono h (fun r W5 hr => ?_)
        obtain ⟨rfl, h⟩ := hr
        exact g_vret gq170 rfl rfl h
  · replace h := h.2 c
    refine g_aload_n 22 gq170 rfl rfl rfl ?_
    refine g_aload_n 23 gq170 rfl rfl rfl ?_
    refine g_aload_n 24 gq170 rfl rfl rfl ?_
    refine g_aload_n 25 gq170 rfl rfl rfl ?_
    refine g_getA 28 319 gq170 rfl rfl rfl rfl rfl rfl rfl ?_
    refine g_iload_n 29 gq170 rfl rfl rfl ?_
    refine g_iald 30 gq170 rfl rfl rfl c4 ?_
    have c83 := h.1
    replace h := h.2
    refine g_virt 159 _ (i := 270) gq170 rfl rfl gq159 rfl rfl rfl rfl rfl rfl ?_
    refine sp_turn hr1 c83 ?_
    have c87 := h.1
    replace h := h.2
    refine g_virt 160 _ (i := 284) gq170 rfl rfl gq160 rfl rfl rfl rfl rfl rfl ?_
    refine sp_cb  c87 ?_
    refine g_goto 40 gq170 rfl rfl ?_
    refine g_istore 42 gq170 rfl rfl rfl ?_
    replace h := h _ rfl
    refine g_aload_n 43 gq170 rfl rfl rfl ?_
    refine g_iload_n 44 gq170 rfl rfl rfl ?_
    refine g_iload 46 gq170 rfl rfl rfl ?_
    have c97 := h.1
    replace h := h.2
    have c99 := h.1
    replace h := h.2
    refine g_icmp_le 53 49 gq170 rfl rfl rfl c97 c99 (fun c => ?_) (fun c => ?_)
    · replace h := h.1 c
      refine g_iload 55 gq170 rfl rfl rfl ?_
      refine g_static 169 _ (i := 293) gq170 rfl rfl gq169 rfl rfl rfl rfl ?_
      refine kGo.mono h (fun r W7 hr => ?_)
      obtain ⟨rfl, h⟩ := hr
      refine g_iload_n 59 gq170 rfl rfl rfl ?_
      refine g_iload 61 gq170 rfl rfl rfl ?_
      refine g_icmp_eq 80 64 gq170 rfl rfl rfl c97 c99 (fun c => ?_) (fun c => ?_)
      · replace h := h.1 c
        exact g_vret gq170 rfl rfl h
      · replace h := h.2 c
        refine g_aload_n 65 gq170 rfl rfl rfl ?_
        refine g_iload_n 66 gq170 rfl rfl rfl ?_
        refine g_iload 68 gq170 rfl rfl rfl ?_
        refine g_icmp_le 76 71 gq170 rfl rfl rfl c97 c99 (fun c => ?_) (fun c => ?_)
        rotate_left
        · exfalso; omega
        refine g_iload_n 77 gq170 rfl rfl rfl ?_
        refine g_static 169 _ (i := 293) gq170 rfl rfl gq169 rfl rfl rfl rfl ?_
        refine kGo.mono h (fun r W8 hr => ?_)
        obtain ⟨rfl, h⟩ := hr
        exact g_vret gq170 rfl rfl h
    · replace h := h.2 c
      refine g_iload_n 50 gq170 rfl rfl rfl ?_
      refine g_goto 55 gq170 rfl rfl ?_
      refine g_static 169 _ (i := 293) gq170 rfl rfl gq169 rfl rfl rfl rfl ?_
      refine kGo.mono h (fun r W9 hr => ?_)
      obtain ⟨rfl, h⟩ := hr
      refine g_iload_n 59 gq170 rfl rfl rfl ?_
      refine g_iload 61 gq170 rfl rfl rfl ?_
      refine g_icmp_eq 80 64 gq170 rfl rfl rfl c97 c99 (fun c => ?_) (fun c => ?_)
      · replace h := h.1 c
        exact g_vret gq170 rfl rfl h
      · replace h := h.2 c
        refine g_aload_n 65 gq170 rfl rfl rfl ?_
        refine g_iload_n 66 gq170 rfl rfl rfl ?_
        refine g_iload 68 gq170 rfl rfl rfl ?_
        refine g_icmp_le 76 71 gq170 rfl rfl rfl c97 c99 (fun c => ?_) (fun c => ?_)
        · exfalso; omega
        refine g_iload 73 gq170 rfl rfl rfl ?_
        refine g_goto 77 gq170 rfl rfl ?_
        refine g_static 169 _ (i := 293) gq170 rfl rfl gq169 rfl rfl rfl rfl ?_
        refine kGo.mono h (fun r W10 hr => ?_)
        obtain ⟨rfl, h⟩ := hr
        exact g_vret gq170 rfl rfl h

set_option maxRecDepth 10000 in
theorem b125_0 {xs : Nat → Int32} {Lx d : Nat} {V : km_V} {Q : Option Value → km_V → Prop} {a1 a2 a3 a4 a5 : Int} 
    (h : (kR ((V 299 2) + 20)) ∧ ((((V 299 2) + 20) ≤ 2000 →
    kCV xs Lx (d + 0) 126 3 [.ref 299, kI a1] V (fun W1 =>
    kCV xs Lx (d + 0) 126 3 [.ref 299, kI a2] W1 (fun W2 =>
    kCV xs Lx (d + 0) 126 3 [.ref 299, kI a3] W2 (fun W3 =>
    kCV xs Lx (d + 0) 126 3 [.ref 299, kI a4] W3 (fun W4 =>
    kCV xs Lx (d + 0) 126 3 [.ref 299, kI a5] W4 (fun W5 =>
    Q (some (kI (W5 299 2))) W5)))))) ∧
   (2000 < ((V 299 2) + 20) →
    Q (some (kI (-1))) V))) :
    kGo xs Lx (d + 1) 125 0 [some (.ref 299), some (kI a1), some (kI a2), some (kI a3), some (kI a4), some (kI a5)] [] V Q := by
  refine g_aload_n 1 gq125 rfl rfl rfl ?_
  refine g_getI 4 gq125 rfl rfl rfl rfl rfl rfl ?_
  refine g_bipush 6 gq125 rfl rfl rfl ?_
  refine g_iadd 7 gq125 rfl rfl ?_
  refine g_sipush 10 gq125 rfl rfl rfl ?_
  have c5 := h.1
  replace h := h.2
  refine g_icmp_le 15 13 gq125 rfl rfl rfl c5 (by omega) (fun c => ?_) (fun c => ?_)
  · replace h := h.1 c
    refine g_aload_n 16 gq125 rfl rfl rfl ?_
    refine g_iload_n 17 gq125 rfl rfl rfl ?_
    refine g_virt 126 _ (i := 132) gq125 rfl rfl gq126 rfl rfl rfl rfl rfl rfl ?_
    refine kGo.mono h (fun r W1 hr => ?_)
    obtain ⟨rfl, h⟩ := hr
    refine g_aload_n 21 gq125 rfl rfl rfl ?_
    refine g_iload_n 22 gq125 rfl rfl rfl ?_
    refine g_virt 126 _ (i := 132) gq125 rfl rfl gq126 rfl rfl rfl rfl rfl rfl ?_
    refine kGo.mono h (fun r W2 hr => ?_)
    obtain ⟨rfl, h⟩ := hr
    refine g_aload_n 26 gq125 rfl rfl rfl ?_
    refine g_iload_n 27 gq125 rfl rfl rfl ?_
    refine g_virt 126 _ (i := 132) gq125 rfl rfl gq126 rfl rfl rfl rfl rfl rfl ?_
    refine kGo.mono h (fun r W3 hr => ?_)
    obtain ⟨rfl, h⟩ := hr
    refine g_aload_n 31 gq125 rfl rfl rfl ?_
    refine g_iload 33 gq125 rfl rfl rfl ?_
    refine g_virt 126 _ (i := 132) gq125 rfl rfl gq126 rfl rfl rfl rfl rfl rfl ?_
    refine kGo.mono h (fun r W4 hr => ?_)
    obtain ⟨rfl, h⟩ := hr
    refine g_aload_n 37 gq125 rfl rfl rfl ?_
    refine g_iload 39 gq125 rfl rfl rfl ?_
    refine g_virt 126 _ (i := 132) gq125 rfl rfl gq126 rfl rfl rfl rfl rfl rfl ?_
    refine kGo.mono h (fun r W5 hr => ?_)
    obtain ⟨rfl, h⟩ := hr
    refine g_aload_n 43 gq125 rfl rfl rfl ?_
    refine g_getI 46 gq125 rfl rfl rfl rfl rfl rfl ?_
    exact g_iret gq125 rfl rfl h
  · replace h := h.2 c
    refine g_iconst 14 gq125 rfl rfl ?_
    exact g_iret gq125 rfl rfl h
set_option maxRecDepth 10000 in
theorem b126_0 {xs : Nat → Int32} {Lx d : Nat} {V : km_V} {Q : Option Value → km_V → Prop} {a1 : Int} 
    (h : kGo xs Lx (d + 0) 126 3 [some (.ref 299), some (kI a1), some (kI 24)] [] V Q) :
    kGo xs Lx (d + 0) 126 0 [some (.ref 299), some (kI a1), none] [] V Q := by
  refine g_bipush 2 gq126 rfl rfl rfl ?_
  refine g_istore_n 3 gq126 rfl rfl rfl ?_
  exact kGo.weak (km_Le.s (km_Le.s (km_Le.s km_Le.nil))) h
set_option maxRecDepth 10000 in
theorem b126_3 {xs : Nat → Int32} {Lx d : Nat} {V : km_V} {Q : Option Value → km_V → Prop} {x1 x2 : Int} 
    (h : (kR x2) ∧ ((x2 < 0 →
    Q none V) ∧
   (0 ≤ x2 →
    (kR x1) ∧ (0 ≤ x2 ∧ x2 < 32) ∧ (0 ≤ (V 299 2) ∧ (V 299 2) < (2000 : Nat)) ∧ kGo xs Lx (d + 0) 126 3 [some (.ref 299), some (kI x1), some (kI (x2 + (-8)))] [] (up (up V 300 (Int.toNat (V 299 2)) (k8 (k8 (x1 / ((2 ^ Int.toNat x2 : Nat) : Int))))) 299 2 (((up V 300 (Int.toNat (V 299 2)) (k8 (k8 (x1 / ((2 ^ Int.toNat x2 : Nat) : Int))))) 299 2) + 1)) Q))) :
    kGo xs Lx (d + 0) 126 3 [some (.ref 299), some (kI x1), some (kI x2)] [] V Q := by
  refine g_iload_n 4 gq126 rfl rfl rfl ?_
  have c1 := h.1
  replace h := h.2
  refine g_if_lt 36 7 gq126 rfl rfl rfl c1 (fun c => ?_) (fun c => ?_)
  · replace h := h.1 c
    exact g_vret gq126 rfl rfl h
  · replace h := h.2 c
    refine g_aload_n 8 gq126 rfl rfl rfl ?_
    refine g_getA 11 300 gq126 rfl rfl rfl rfl rfl rfl rfl ?_
    refine g_aload_n 12 gq126 rfl rfl rfl ?_
    refine g_getI 15 gq126 rfl rfl rfl rfl rfl rfl ?_
    refine g_iload_n 16 gq126 rfl rfl rfl ?_
    refine g_iload_n 17 gq126 rfl rfl rfl ?_
    have c13 := h.1
    replace h := h.2
    have c15 := h.1
    replace h := h.2
    refine g_ishr 18 gq126 rfl rfl c13 c15 ?_
    refine g_i2b 19 gq126 rfl rfl ?_
    have c19 := h.1
    replace h := h.2
    refine g_bast 20 gq126 rfl rfl rfl c19 ?_
    refine g_aload_n 21 gq126 rfl rfl rfl ?_
    refine g_dup 22 gq126 rfl rfl rfl ?_
    refine g_getI 25 gq126 rfl rfl rfl rfl rfl rfl ?_
    refine g_iconst 26 gq126 rfl rfl ?_
    refine g_iadd 27 gq126 rfl rfl ?_
    refine g_putI 30 gq126 rfl rfl rfl rfl rfl rfl rfl rfl ?_
    refine g_iinc 33 gq126 rfl rfl rfl rfl ?_
    refine g_goto 3 gq126 rfl rfl ?_
    exact kGo.weak (km_Le.s (km_Le.s (km_Le.s km_Le.nil))) h
set_option maxRecDepth 10000 in
theorem b127_0 {xs : Nat → Int32} {Lx d : Nat} {V : km_V} {Q : Option Value → km_V → Prop} {a1 : Int} 
    (h : (kR a1) ∧ ((a1 < 0 →
    Q (some (kI (-1))) V) ∧
   (0 ≤ a1 →
    (kR (V 299 2)) ∧ ((a1 ≤ (V 299 2) →
      Q (some (kI ((up V 299 2 ((V 299 2) - a1)) 299 2))) (up V 299 2 ((V 299 2) - a1))) ∧
     ((V 299 2) < a1 →
      Q (some (kI (-1))) V))))) :
    kGo xs Lx (d + 0) 127 0 [some (.ref 299), some (kI a1)] [] V Q := by
  refine g_iload_n 1 gq127 rfl rfl rfl ?_
  have c1 := h.1
  replace h := h.2
  refine g_if_lt 12 4 gq127 rfl rfl rfl c1 (fun c => ?_) (fun c => ?_)
  · replace h := h.1 c
    refine g_iconst 13 gq127 rfl rfl ?_
    exact g_iret gq127 rfl rfl h
  · replace h := h.2 c
    refine g_iload_n 5 gq127 rfl rfl rfl ?_
    refine g_aload_n 6 gq127 rfl rfl rfl ?_
    refine g_getI 9 gq127 rfl rfl rfl rfl rfl rfl ?_
    have c11 := h.1
    replace h := h.2
    refine g_icmp_le 14 12 gq127 rfl rfl rfl c1 c11 (fun c => ?_) (fun c => ?_)
    · replace h := h.1 c
      refine g_aload_n 15 gq127 rfl rfl rfl ?_
      refine g_dup 16 gq127 rfl rfl rfl ?_
      refine g_getI 19 gq127 rfl rfl rfl rfl rfl rfl ?_
      refine g_iload_n 20 gq127 rfl rfl rfl ?_
      refine g_isub 21 gq127 rfl rfl ?_
      refine g_putI 24 gq127 rfl rfl rfl rfl rfl rfl rfl rfl ?_
      refine g_aload_n 25 gq127 rfl rfl rfl ?_
      refine g_getI 28 gq127 rfl rfl rfl rfl rfl rfl ?_
      exact g_iret gq127 rfl rfl h
    · replace h := h.2 c
      refine g_iconst 13 gq127 rfl rfl ?_
      exact g_iret gq127 rfl rfl h
set_option maxRecDepth 10000 in
theorem b131_0 {xs : Nat → Int32} {Lx d : Nat} {V : km_V} {Q : Option Value → km_V → Prop} {a0 a2 : Int} 
    (h : (kR a2) ∧ ((a2 ≠ 0 →
    (kR ((a2 - 97) + 1)) ∧ Q (some (kJ ((27 * a0) + ((a2 - 97) + 1)))) V) ∧
   (a2 = 0 →
    Q (some (kJ a0)) V))) :
    kGo xs Lx (d + 0) 131 0 [some (kJ a0), none, some (kI a2)] [] V Q := by
  refine g_iload_n 1 gq131 rfl rfl rfl ?_
  have c1 := h.1
  replace h := h.2
  refine g_if_ne 8 4 gq131 rfl rfl rfl c1 (fun c => ?_) (fun c => ?_)
  · replace h := h.1 c
    refine g_ldc2 11 (27) gq131 rfl rfl rfl rfl ?_
    refine g_lload_n 12 gq131 rfl rfl rfl ?_
    refine g_lmul 13 gq131 rfl rfl ?_
    refine g_iload_n 14 gq131 rfl rfl rfl ?_
    refine g_bipush 16 gq131 rfl rfl rfl ?_
    refine g_isub 17 gq131 rfl rfl ?_
    refine g_iconst 18 gq131 rfl rfl ?_
    refine g_iadd 19 gq131 rfl rfl ?_
    have c13 := h.1
    replace h := h.2
    refine g_i2l 20 gq131 rfl rfl c13 ?_
    refine g_ladd 21 gq131 rfl rfl ?_
    exact g_lret gq131 rfl rfl h
  · replace h := h.2 c
    refine g_lload_n 5 gq131 rfl rfl rfl ?_
    refine g_goto 21 gq131 rfl rfl ?_
    exact g_lret gq131 rfl rfl h
set_option maxRecDepth 10000 in
theorem b132_0 {xs : Nat → Int32} {Lx d : Nat} {V : km_V} {Q : Option Value → km_V → Prop} {a0 a1 a2 a3 a4 a5 a6 : Int} 
    (h : kCJ xs Lx (d + 0) 131 3 [kJ 0, kI a0] V (fun y1 W1 =>
  kCJ xs Lx (d + 0) 131 3 [kJ y1, kI a1] W1 (fun y2 W2 =>
  kCJ xs Lx (d + 0) 131 3 [kJ y2, kI a2] W2 (fun y3 W3 =>
  kCJ xs Lx (d + 0) 131 3 [kJ y3, kI a3] W3 (fun y4 W4 =>
  kCJ xs Lx (d + 0) 131 3 [kJ y4, kI a4] W4 (fun y5 W5 =>
  kCJ xs Lx (d + 0) 131 3 [kJ y5, kI a5] W5 (fun y6 W6 =>
  kCJ xs Lx (d + 0) 131 3 [kJ y6, kI a6] W6 (fun y7 W7 =>
  Q (some (kJ y7)) W7)))))))) :
    kGo xs Lx (d + 1) 132 0 [some (kI a0), some (kI a1), some (kI a2), some (kI a3), some (kI a4), some (kI a5), some (kI a6)] [] V Q := by
  refine g_lconst 1 0 gq132 rfl rfl rfl ?_
  refine g_iload_n 2 gq132 rfl rfl rfl ?_
  refine g_static 131 _ (i := 141) gq132 rfl rfl gq131 rfl rfl rfl rfl ?_
  refine kGo.mono h (fun r W1 hr => ?_)
  obtain ⟨y1, rfl, h⟩ := hr
  refine g_iload_n 6 gq132 rfl rfl rfl ?_
  refine g_static 131 _ (i := 141) gq132 rfl rfl gq131 rfl rfl rfl rfl ?_
  refine kGo.mono h (fun r W2 hr => ?_)
  obtain ⟨y2, rfl, h⟩ := hr
  refine g_iload_n 10 gq132 rfl rfl rfl ?_
  refine g_static 131 _ (i := 141) gq132 rfl rfl gq131 rfl rfl rfl rfl ?_
  refine kGo.mono h (fun r W3 hr => ?_)
  obtain ⟨y3, rfl, h⟩ := hr
  refine g_iload_n 14 gq132 rfl rfl rfl ?_
  refine g_static 131 _ (i := 141) gq132 rfl rfl gq131 rfl rfl rfl rfl ?_
  refine kGo.mono h (fun r W4 hr => ?_)
  obtain ⟨y4, rfl, h⟩ := hr
  refine g_iload 19 gq132 rfl rfl rfl ?_
  refine g_static 131 _ (i := 141) gq132 rfl rfl gq131 rfl rfl rfl rfl ?_
  refine kGo.mono h (fun r W5 hr => ?_)
  obtain ⟨y5, rfl, h⟩ := hr
  refine g_iload 24 gq132 rfl rfl rfl ?_
  refine g_static 131 _ (i := 141) gq132 rfl rfl gq131 rfl rfl rfl rfl ?_
  refine kGo.mono h (fun r W6 hr => ?_)
  obtain ⟨y6, rfl, h⟩ := hr
  refine g_iload 29 gq132 rfl rfl rfl ?_
  refine g_static 131 _ (i := 141) gq132 rfl rfl gq131 rfl rfl rfl rfl ?_
  refine kGo.mono h (fun r W7 hr => ?_)
  obtain ⟨y7, rfl, h⟩ := hr
  exact g_lret gq132 rfl rfl h
set_option maxRecDepth 10000 in
theorem b133_0 {xs : Nat → Int32} {Lx d : Nat} {V : km_V} {Q : Option Value → km_V → Prop} {a1 a2 a3 a4 : Int} 
    (h : (0 ≤ (V 299 10) ∧ (V 299 10) < (403 : Nat)) ∧ (0 ≤ ((up V 302 (Int.toNat (V 299 10)) a1) 299 10) ∧ ((up V 302 (Int.toNat (V 299 10)) a1) 299 10) < (403 : Nat)) ∧ (0 ≤ ((up (up V 302 (Int.toNat (V 299 10)) a1) 303 (Int.toNat ((up V 302 (Int.toNat (V 299 10)) a1) 299 10)) a2) 299 10) ∧ ((up (up V 302 (Int.toNat (V 299 10)) a1) 303 (Int.toNat ((up V 302 (Int.toNat (V 299 10)) a1) 299 10)) a2) 299 10) < (403 : Nat)) ∧ (0 ≤ ((up (up (up V 302 (Int.toNat (V 299 10)) a1) 303 (Int.toNat ((up V 302 (Int.toNat (V 299 10)) a1) 299 10)) a2) 304 (Int.toNat ((up (up V 302 (Int.toNat (V 299 10)) a1) 303 (Int.toNat ((up V 302 (Int.toNat (V 299 10)) a1) 299 10)) a2) 299 10)) a3) 299 10) ∧ ((up (up (up V 302 (Int.toNat (V 299 10)) a1) 303 (Int.toNat ((up V 302 (Int.toNat (V 299 10)) a1) 299 10)) a2) 304 (Int.toNat ((up (up V 302 (Int.toNat (V 299 10)) a1) 303 (Int.toNat ((up V 302 (Int.toNat (V 299 10)) a1) 299 10)) a2) 299 10)) a3) 299 10) < (403 : Nat)) ∧ Q none (up (up (up (up (up V 302 (Int.toNat (V 299 10)) a1) 303 (Int.toNat ((up V 302 (Int.toNat (V 299 10)) a1) 299 10)) a2) 304 (Int.toNat ((up (up V 302 (Int.toNat (V 299 10)) a1) 303 (Int.toNat ((up V 302 (Int.toNat (V 299 10)) a1) 299 10)) a2) 299 10)) a3) 305 (Int.toNat ((up (up (up V 302 (Int.toNat (V 299 10)) a1) 303 (Int.toNat ((up V 302 (Int.toNat (V 299 10)) a1) 299 10)) a2) 304 (Int.toNat ((up (up V 302 (Int.toNat (V 299 10)) a1) 303 (Int.toNat ((up V 302 (Int.toNat (V 299 10)) a1) 299 10)) a2) 299 10)) a3) 299 10)) a4) 299 10 (((up (up (up (up V 302 (Int.toNat (V 299 10)) a1) 303 (Int.toNat ((up V 302 (Int.toNat (V 299 10)) a1) 299 10)) a2) 304 (Int.toNat ((up (up V 302 (Int.toNat (V 299 10)) a1) 303 (Int.toNat ((up V 302 (Int.toNat (V 299 10)) a1) 299 10)) a2) 299 10)) a3) 305 (Int.toNat ((up (up (up V 302 (Int.toNat (V 299 10)) a1) 303 (Int.toNat ((up V 302 (Int.toNat (V 299 10)) a1) 299 10)) a2) 304 (Int.toNat ((up (up V 302 (Int.toNat (V 299 10)) a1) 303 (Int.toNat ((up V 302 (Int.toNat (V 299 10)) a1) 299 10)) a2) 299 10)) a3) 299 10)) a4) 299 10) + 1))) :
    kGo xs Lx (d + 0) 133 0 [some (.ref 299), some (kI a1), some (kI a2), some (kI a3), some (kJ a4), none] [] V Q := by
  refine g_aload_n 1 gq133 rfl rfl rfl ?_
  refine g_getA 4 302 gq133 rfl rfl rfl rfl rfl rfl rfl ?_
  refine g_aload_n 5 gq133 rfl rfl rfl ?_
  refine g_getI 8 gq133 rfl rfl rfl rfl rfl rfl ?_
  refine g_iload_n 9 gq133 rfl rfl rfl ?_
  have c5 := h.1
  replace h := h.2
  refine g_iast 10 gq133 rfl rfl rfl c5 ?_
  refine g_aload_n 11 gq133 rfl rfl rfl ?_
  refine g_getA 14 303 gq133 rfl rfl rfl rfl rfl rfl rfl ?_
  refine g_aload_n 15 gq133 rfl rfl rfl ?_
  refine g_getI 18 gq133 rfl rfl rfl rfl rfl rfl ?_
  refine g_iload_n 19 gq133 rfl rfl rfl ?_
  have c13 := h.1
  replace h := h.2
  refine g_iast 20 gq133 rfl rfl rfl c13 ?_
  refine g_aload_n 21 gq133 rfl rfl rfl ?_
  refine g_getA 24 304 gq133 rfl rfl rfl rfl rfl rfl rfl ?_
  refine g_aload_n 25 gq133 rfl rfl rfl ?_
  refine g_getI 28 gq133 rfl rfl rfl rfl rfl rfl ?_
  refine g_iload_n 29 gq133 rfl rfl rfl ?_
  have c21 := h.1
  replace h := h.2
  refine g_iast 30 gq133 rfl rfl rfl c21 ?_
  refine g_aload_n 31 gq133 rfl rfl rfl ?_
  refine g_getA 34 305 gq133 rfl rfl rfl rfl rfl rfl rfl ?_
  refine g_aload_n 35 gq133 rfl rfl rfl ?_
  refine g_getI 38 gq133 rfl rfl rfl rfl rfl rfl ?_
  refine g_lload 40 gq133 rfl rfl rfl ?_
  have c29 := h.1
  replace h := h.2
  refine g_last 41 gq133 rfl rfl rfl c29 ?_
  refine g_aload_n 42 gq133 rfl rfl rfl ?_
  refine g_dup 43 gq133 rfl rfl rfl ?_
  refine g_getI 46 gq133 rfl rfl rfl rfl rfl rfl ?_
  refine g_iconst 47 gq133 rfl rfl ?_
  refine g_iadd 48 gq133 rfl rfl ?_
  refine g_putI 51 gq133 rfl rfl rfl rfl rfl rfl rfl rfl ?_
  exact g_vret gq133 rfl rfl h
set_option maxRecDepth 10000 in
theorem b134_0 {xs : Nat → Int32} {Lx d : Nat} {V : km_V} {Q : Option Value → km_V → Prop} 
    (h : kGo xs Lx (d + 2) 134 7 [some (.ref 299), some (kI 0), none, none, none, none, none, none] [] (up V 299 10 0) Q) :
    kGo xs Lx (d + 2) 134 0 [some (.ref 299), none, none, none, none, none, none, none] [] V Q := by
  refine g_aload_n 1 gq134 rfl rfl rfl ?_
  refine g_iconst 2 gq134 rfl rfl ?_
  refine g_putI 5 gq134 rfl rfl rfl rfl rfl rfl rfl rfl ?_
  refine g_iconst 6 gq134 rfl rfl ?_
  refine g_istore_n 7 gq134 rfl rfl rfl ?_
  exact kGo.weak (km_Le.s (km_Le.s (km_Le.n (km_Le.n (km_Le.n (km_Le.n (km_Le.n (km_Le.n km_Le.nil)))))))) h
set_option maxRecDepth 10000 in
theorem b134_7 {xs : Nat → Int32} {Lx d : Nat} {V : km_V} {Q : Option Value → km_V → Prop} {x1 : Int} 
    (h : (kR (V 299 10)) ∧ ((400 < (V 299 10) →
    Q none V) ∧
   ((V 299 10) ≤ 400 →
    (kmbyC V x1) ∧ (kR x1) ∧ (kR (V 299 4)) ∧ ((x1 < (V 299 4) →
      (kR (kmby V x1)) ∧ (((kmby V x1) = 9 →
        kGo xs Lx (d + 2) 134 67 [some (.ref 299), some (kI x1), none, none, none, none, none, none] [] V Q) ∧
       ((kmby V x1) ≠ 9 →
        (((kmby V x1) = 10 →
          kGo xs Lx (d + 2) 134 67 [some (.ref 299), some (kI x1), none, none, none, none, none, none] [] V Q) ∧
         ((kmby V x1) ≠ 10 →
          (((kmby V x1) = 13 →
            kGo xs Lx (d + 2) 134 67 [some (.ref 299), some (kI x1), none, none, none, none, none, none] [] V Q) ∧
           ((kmby V x1) ≠ 13 →
            (((kmby V x1) ≠ 32 →
              (kR (klet (kmby V x1))) ∧ (((klet (kmby V x1)) = 0 →
                (kR (kdig (kmby V x1))) ∧ (((kdig (kmby V x1)) = 0 →
                  (((kmby V x1) ≠ 59 →
                    (((kmby V x1) ≠ 43 →
                      (((kmby V x1) ≠ 45 →
                        (0 ≤ (V 299 10) ∧ (V 299 10) < (403 : Nat)) ∧ (0 ≤ ((up V 302 (Int.toNat (V 299 10)) 3) 299 10) ∧ ((up V 302 (Int.toNat (V 299 10)) 3) 299 10) < (403 : Nat)) ∧ (0 ≤ ((up (up V 302 (Int.toNat (V 299 10)) 3) 303 (Int.toNat ((up V 302 (Int.toNat (V 299 10)) 3) 299 10)) x1) 299 10) ∧ ((up (up V 302 (Int.toNat (V 299 10)) 3) 303 (Int.toNat ((up V 302 (Int.toNat (V 299 10)) 3) 299 10)) x1) 299 10) < (403 : Nat)) ∧ (0 ≤ ((up (up (up V 302 (Int.toNat (V 299 10)) 3) 303 (Int.toNat ((up V 302 (Int.toNat (V 299 10)) 3) 299 10)) x1) 304 (Int.toNat ((up (up V 302 (Int.toNat (V 299 10)) 3) 303 (Int.toNat ((up V 302 (Int.toNat (V 299 10)) 3) 299 10)) x1) 299 10)) 0) 299 10) ∧ ((up (up (up V 302 (Int.toNat (V 299 10)) 3) 303 (Int.toNat ((up V 302 (Int.toNat (V 299 10)) 3) 299 10)) x1) 304 (Int.toNat ((up (up V 302 (Int.toNat (V 299 10)) 3) 303 (Int.toNat ((up V 302 (Int.toNat (V 299 10)) 3) 299 10)) x1) 299 10)) 0) 299 10) < (403 : Nat)) ∧ kGo xs Lx (d + 2) 134 283 [some (.ref 299), some (kI (x1 + 1)), none, none, none, none, none, none] [] (up (up (up (up (up V 302 (Int.toNat (V 299 10)) 3) 303 (Int.toNat ((up V 302 (Int.toNat (V 299 10)) 3) 299 10)) x1) 304 (Int.toNat ((up (up V 302 (Int.toNat (V 299 10)) 3) 303 (Int.toNat ((up V 302 (Int.toNat (V 299 10)) 3) 299 10)) x1) 299 10)) 0) 305 (Int.toNat ((up (up (up V 302 (Int.toNat (V 299 10)) 3) 303 (Int.toNat ((up V 302 (Int.toNat (V 299 10)) 3) 299 10)) x1) 304 (Int.toNat ((up (up V 302 (Int.toNat (V 299 10)) 3) 303 (Int.toNat ((up V 302 (Int.toNat (V 299 10)) 3) 299 10)) x1) 299 10)) 0) 299 10)) 0) 299 10 (((up (up (up (up V 302 (Int.toNat (V 299 10)) 3) 303 (Int.toNat ((up V 302 (Int.toNat (V 299 10)) 3) 299 10)) x1) 304 (Int.toNat ((up (up V 302 (Int.toNat (V 299 10)) 3) 303 (Int.toNat ((up V 302 (Int.toNat (V 299 10)) 3) 299 10)) x1) 299 10)) 0) 305 (Int.toNat ((up (up (up V 302 (Int.toNat (V 299 10)) 3) 303 (Int.toNat ((up V 302 (Int.toNat (V 299 10)) 3) 299 10)) x1) 304 (Int.toNat ((up (up V 302 (Int.toNat (V 299 10)) 3) 303 (Int.toNat ((up V 302 (Int.toNat (V 299 10)) 3) 299 10)) x1) 299 10)) 0) 299 10)) 0) 299 10) + 1)) Q) ∧
                       ((kmby V x1) = 45 →
                        (0 ≤ (V 299 10) ∧ (V 299 10) < (403 : Nat)) ∧ (0 ≤ ((up V 302 (Int.toNat (V 299 10)) 6) 299 10) ∧ ((up V 302 (Int.toNat (V 299 10)) 6) 299 10) < (403 : Nat)) ∧ (0 ≤ ((up (up V 302 (Int.toNat (V 299 10)) 6) 303 (Int.toNat ((up V 302 (Int.toNat (V 299 10)) 6) 299 10)) x1) 299 10) ∧ ((up (up V 302 (Int.toNat (V 299 10)) 6) 303 (Int.toNat ((up V 302 (Int.toNat (V 299 10)) 6) 299 10)) x1) 299 10) < (403 : Nat)) ∧ (0 ≤ ((up (up (up V 302 (Int.toNat (V 299 10)) 6) 303 (Int.toNat ((up V 302 (Int.toNat (V 299 10)) 6) 299 10)) x1) 304 (Int.toNat ((up (up V 302 (Int.toNat (V 299 10)) 6) 303 (Int.toNat ((up V 302 (Int.toNat (V 299 10)) 6) 299 10)) x1) 299 10)) 0) 299 10) ∧ ((up (up (up V 302 (Int.toNat (V 299 10)) 6) 303 (Int.toNat ((up V 302 (Int.toNat (V 299 10)) 6) 299 10)) x1) 304 (Int.toNat ((up (up V 302 (Int.toNat (V 299 10)) 6) 303 (Int.toNat ((up V 302 (Int.toNat (V 299 10)) 6) 299 10)) x1) 299 10)) 0) 299 10) < (403 : Nat)) ∧ kGo xs Lx (d + 2) 134 283 [some (.ref 299), some (kI (x1 + 1)), none, none, none, none, none, none] [] (up (up (up (up (up V 302 (Int.toNat (V 299 10)) 6) 303 (Int.toNat ((up V 302 (Int.toNat (V 299 10)) 6) 299 10)) x1) 304 (Int.toNat ((up (up V 302 (Int.toNat (V 299 10)) 6) 303 (Int.toNat ((up V 302 (Int.toNat (V 299 10)) 6) 299 10)) x1) 299 10)) 0) 305 (Int.toNat ((up (up (up V 302 (Int.toNat (V 299 10)) 6) 303 (Int.toNat ((up V 302 (Int.toNat (V 299 10)) 6) 299 10)) x1) 304 (Int.toNat ((up (up V 302 (Int.toNat (V 299 10)) 6) 303 (Int.toNat ((up V 302 (Int.toNat (V 299 10)) 6) 299 10)) x1) 299 10)) 0) 299 10)) 0) 299 10 (((up (up (up (up V 302 (Int.toNat (V 299 10)) 6) 303 (Int.toNat ((up V 302 (Int.toNat (V 299 10)) 6) 299 10)) x1) 304 (Int.toNat ((up (up V 302 (Int.toNat (V 299 10)) 6) 303 (Int.toNat ((up V 302 (Int.toNat (V 299 10)) 6) 299 10)) x1) 299 10)) 0) 305 (Int.toNat ((up (up (up V 302 (Int.toNat (V 299 10)) 6) 303 (Int.toNat ((up V 302 (Int.toNat (V 299 10)) 6) 299 10)) x1) 304 (Int.toNat ((up (up V 302 (Int.toNat (V 299 10)) 6) 303 (Int.toNat ((up V 302 (Int.toNat (V 299 10)) 6) 299 10)) x1) 299 10)) 0) 299 10)) 0) 299 10) + 1)) Q))) ∧
                     ((kmby V x1) = 43 →
                      (0 ≤ (V 299 10) ∧ (V 299 10) < (403 : Nat)) ∧ (0 ≤ ((up V 302 (Int.toNat (V 299 10)) 5) 299 10) ∧ ((up V 302 (Int.toNat (V 299 10)) 5) 299 10) < (403 : Nat)) ∧ (0 ≤ ((up (up V 302 (Int.toNat (V 299 10)) 5) 303 (Int.toNat ((up V 302 (Int.toNat (V 299 10)) 5) 299 10)) x1) 299 10) ∧ ((up (up V 302 (Int.toNat (V 299 10)) 5) 303 (Int.toNat ((up V 302 (Int.toNat (V 299 10)) 5) 299 10)) x1) 299 10) < (403 : Nat)) ∧ (0 ≤ ((up (up (up V 302 (Int.toNat (V 299 10)) 5) 303 (Int.toNat ((up V 302 (Int.toNat (V 299 10)) 5) 299 10)) x1) 304 (Int.toNat ((up (up V 302 (Int.toNat (V 299 10)) 5) 303 (Int.toNat ((up V 302 (Int.toNat (V 299 10)) 5) 299 10)) x1) 299 10)) 0) 299 10) ∧ ((up (up (up V 302 (Int.toNat (V 299 10)) 5) 303 (Int.toNat ((up V 302 (Int.toNat (V 299 10)) 5) 299 10)) x1) 304 (Int.toNat ((up (up V 302 (Int.toNat (V 299 10)) 5) 303 (Int.toNat ((up V 302 (Int.toNat (V 299 10)) 5) 299 10)) x1) 299 10)) 0) 299 10) < (403 : Nat)) ∧ kGo xs Lx (d + 2) 134 283 [some (.ref 299), some (kI (x1 + 1)), none, none, none, none, none, none] [] (up (up (up (up (up V 302 (Int.toNat (V 299 10)) 5) 303 (Int.toNat ((up V 302 (Int.toNat (V 299 10)) 5) 299 10)) x1) 304 (Int.toNat ((up (up V 302 (Int.toNat (V 299 10)) 5) 303 (Int.toNat ((up V 302 (Int.toNat (V 299 10)) 5) 299 10)) x1) 299 10)) 0) 305 (Int.toNat ((up (up (up V 302 (Int.toNat (V 299 10)) 5) 303 (Int.toNat ((up V 302 (Int.toNat (V 299 10)) 5) 299 10)) x1) 304 (Int.toNat ((up (up V 302 (Int.toNat (V 299 10)) 5) 303 (Int.toNat ((up V 302 (Int.toNat (V 299 10)) 5) 299 10)) x1) 299 10)) 0) 299 10)) 0) 299 10 (((up (up (up (up V 302 (Int.toNat (V 299 10)) 5) 303 (Int.toNat ((up V 302 (Int.toNat (V 299 10)) 5) 299 10)) x1) 304 (Int.toNat ((up (up V 302 (Int.toNat (V 299 10)) 5) 303 (Int.toNat ((up V 302 (Int.toNat (V 299 10)) 5) 299 10)) x1) 299 10)) 0) 305 (Int.toNat ((up (up (up V 302 (Int.toNat (V 299 10)) 5) 303 (Int.toNat ((up V 302 (Int.toNat (V 299 10)) 5) 299 10)) x1) 304 (Int.toNat ((up (up V 302 (Int.toNat (V 299 10)) 5) 303 (Int.toNat ((up V 302 (Int.toNat (V 299 10)) 5) 299 10)) x1) 299 10)) 0) 299 10)) 0) 299 10) + 1)) Q))) ∧
                   ((kmby V x1) = 59 →
                    (0 ≤ (V 299 10) ∧ (V 299 10) < (403 : Nat)) ∧ (0 ≤ ((up V 302 (Int.toNat (V 299 10)) 4) 299 10) ∧ ((up V 302 (Int.toNat (V 299 10)) 4) 299 10) < (403 : Nat)) ∧ (0 ≤ ((up (up V 302 (Int.toNat (V 299 10)) 4) 303 (Int.toNat ((up V 302 (Int.toNat (V 299 10)) 4) 299 10)) x1) 299 10) ∧ ((up (up V 302 (Int.toNat (V 299 10)) 4) 303 (Int.toNat ((up V 302 (Int.toNat (V 299 10)) 4) 299 10)) x1) 299 10) < (403 : Nat)) ∧ (0 ≤ ((up (up (up V 302 (Int.toNat (V 299 10)) 4) 303 (Int.toNat ((up V 302 (Int.toNat (V 299 10)) 4) 299 10)) x1) 304 (Int.toNat ((up (up V 302 (Int.toNat (V 299 10)) 4) 303 (Int.toNat ((up V 302 (Int.toNat (V 299 10)) 4) 299 10)) x1) 299 10)) 0) 299 10) ∧ ((up (up (up V 302 (Int.toNat (V 299 10)) 4) 303 (Int.toNat ((up V 302 (Int.toNat (V 299 10)) 4) 299 10)) x1) 304 (Int.toNat ((up (up V 302 (Int.toNat (V 299 10)) 4) 303 (Int.toNat ((up V 302 (Int.toNat (V 299 10)) 4) 299 10)) x1) 299 10)) 0) 299 10) < (403 : Nat)) ∧ kGo xs Lx (d + 2) 134 283 [some (.ref 299), some (kI (x1 + 1)), none, none, none, none, none, none] [] (up (up (up (up (up V 302 (Int.toNat (V 299 10)) 4) 303 (Int.toNat ((up V 302 (Int.toNat (V 299 10)) 4) 299 10)) x1) 304 (Int.toNat ((up (up V 302 (Int.toNat (V 299 10)) 4) 303 (Int.toNat ((up V 302 (Int.toNat (V 299 10)) 4) 299 10)) x1) 299 10)) 0) 305 (Int.toNat ((up (up (up V 302 (Int.toNat (V 299 10)) 4) 303 (Int.toNat ((up V 302 (Int.toNat (V 299 10)) 4) 299 10)) x1) 304 (Int.toNat ((up (up V 302 (Int.toNat (V 299 10)) 4) 303 (Int.toNat ((up V 302 (Int.toNat (V 299 10)) 4) 299 10)) x1) 299 10)) 0) 299 10)) 0) 299 10 (((up (up (up (up V 302 (Int.toNat (V 299 10)) 4) 303 (Int.toNat ((up V 302 (Int.toNat (V 299 10)) 4) 299 10)) x1) 304 (Int.toNat ((up (up V 302 (Int.toNat (V 299 10)) 4) 303 (Int.toNat ((up V 302 (Int.toNat (V 299 10)) 4) 299 10)) x1) 299 10)) 0) 305 (Int.toNat ((up (up (up V 302 (Int.toNat (V 299 10)) 4) 303 (Int.toNat ((up V 302 (Int.toNat (V 299 10)) 4) 299 10)) x1) 304 (Int.toNat ((up (up V 302 (Int.toNat (V 299 10)) 4) 303 (Int.toNat ((up V 302 (Int.toNat (V 299 10)) 4) 299 10)) x1) 299 10)) 0) 299 10)) 0) 299 10) + 1)) Q))) ∧
                 ((kdig (kmby V x1)) ≠ 0 →
                  kGo xs Lx (d + 2) 134 207 [some (.ref 299), some (kI x1), none, some (kI 0), some (kI 0), none, none, none] [] V Q))) ∧
               ((klet (kmby V x1)) ≠ 0 →
                kGo xs Lx (d + 2) 134 85 [some (.ref 299), some (kI x1), none, some (kI 0), some (kJ 0), none, none, none] [] V Q))) ∧
             ((kmby V x1) = 32 →
              kGo xs Lx (d + 2) 134 67 [some (.ref 299), some (kI x1), none, none, none, none, none, none] [] V Q))))))))) ∧
     ((V 299 4) ≤ x1 →
      (0 ≤ (V 299 10) ∧ (V 299 10) < (403 : Nat)) ∧ (0 ≤ ((up V 302 (Int.toNat (V 299 10)) 0) 299 10) ∧ ((up V 302 (Int.toNat (V 299 10)) 0) 299 10) < (403 : Nat)) ∧ (0 ≤ ((up (up V 302 (Int.toNat (V 299 10)) 0) 303 (Int.toNat ((up V 302 (Int.toNat (V 299 10)) 0) 299 10)) (V 299 4)) 299 10) ∧ ((up (up V 302 (Int.toNat (V 299 10)) 0) 303 (Int.toNat ((up V 302 (Int.toNat (V 299 10)) 0) 299 10)) (V 299 4)) 299 10) < (403 : Nat)) ∧ (0 ≤ ((up (up (up V 302 (Int.toNat (V 299 10)) 0) 303 (Int.toNat ((up V 302 (Int.toNat (V 299 10)) 0) 299 10)) (V 299 4)) 304 (Int.toNat ((up (up V 302 (Int.toNat (V 299 10)) 0) 303 (Int.toNat ((up V 302 (Int.toNat (V 299 10)) 0) 299 10)) (V 299 4)) 299 10)) 0) 299 10) ∧ ((up (up (up V 302 (Int.toNat (V 299 10)) 0) 303 (Int.toNat ((up V 302 (Int.toNat (V 299 10)) 0) 299 10)) (V 299 4)) 304 (Int.toNat ((up (up V 302 (Int.toNat (V 299 10)) 0) 303 (Int.toNat ((up V 302 (Int.toNat (V 299 10)) 0) 299 10)) (V 299 4)) 299 10)) 0) 299 10) < (403 : Nat)) ∧ Q none (up (up (up (up (up V 302 (Int.toNat (V 299 10)) 0) 303 (Int.toNat ((up V 302 (Int.toNat (V 299 10)) 0) 299 10)) (V 299 4)) 304 (Int.toNat ((up (up V 302 (Int.toNat (V 299 10)) 0) 303 (Int.toNat ((up V 302 (Int.toNat (V 299 10)) 0) 299 10)) (V 299 4)) 299 10)) 0) 305 (Int.toNat ((up (up (up V 302 (Int.toNat (V 299 10)) 0) 303 (Int.toNat ((up V 302 (Int.toNat (V 299 10)) 0) 299 10)) (V 299 4)) 304 (Int.toNat ((up (up V 302 (Int.toNat (V 299 10)) 0) 303 (Int.toNat ((up V 302 (Int.toNat (V 299 10)) 0) 299 10)) (V 299 4)) 299 10)) 0) 299 10)) 0) 299 10 (((up (up (up (up V 302 (Int.toNat (V 299 10)) 0) 303 (Int.toNat ((up V 302 (Int.toNat (V 299 10)) 0) 299 10)) (V 299 4)) 304 (Int.toNat ((up (up V 302 (Int.toNat (V 299 10)) 0) 303 (Int.toNat ((up V 302 (Int.toNat (V 299 10)) 0) 299 10)) (V 299 4)) 299 10)) 0) 305 (Int.toNat ((up (up (up V 302 (Int.toNat (V 299 10)) 0) 303 (Int.toNat ((up V 302 (Int.toNat (V 299 10)) 0) 299 10)) (V 299 4)) 304 (Int.toNat ((up (up V 302 (Int.toNat (V 299 10)) 0) 303 (Int.toNat ((up V 302 (Int.toNat (V 299 10)) 0) 299 10)) (V 299 4)) 299 10)) 0) 299 10)) 0) 299 10) + 1))))))) :
    kGo xs Lx (d + 2) 134 7 [some (.ref 299), some (kI x1), none, none, none, none, none, none] [] V Q := by
  refine g_aload_n 8 gq134 rfl rfl rfl ?_
  refine g_getI 11 gq134 rfl rfl rfl rfl rfl rfl ?_
  refine g_sipush 14 gq134 rfl rfl rfl ?_
  have c3 := h.1
  replace h := h.2
  refine g_icmp_gt 286 17 gq134 rfl rfl rfl c3 (by omega) (fun c => ?_) (fun c => ?_)
  · replace h := h.1 c
    exact g_vret gq134 rfl rfl h
  · replace h := h.2 c
    refine g_aload_n 18 gq134 rfl rfl rfl ?_
    refine g_iload_n 19 gq134 rfl rfl rfl ?_
    have c11 := h.1
    replace h := h.2
    refine g_virt 128 _ (i := 148) gq134 rfl rfl gq128 rfl rfl rfl rfl rfl rfl ?_
    refine sp_mby  c11 ?_
    refine g_istore_n 23 gq134 rfl rfl rfl ?_
    refine g_iload_n 24 gq134 rfl rfl rfl ?_
    refine g_aload_n 25 gq134 rfl rfl rfl ?_
    refine g_getI 28 gq134 rfl rfl rfl rfl rfl rfl ?_
    have c19 := h.1
    replace h := h.2
    have c21 := h.1
    replace h := h.2
    refine g_icmp_lt 43 31 gq134 rfl rfl rfl c19 c21 (fun c => ?_) (fun c => ?_)
    · replace h := h.1 c
      refine g_iload_n 44 gq134 rfl rfl rfl ?_
      refine g_bipush 46 gq134 rfl rfl rfl ?_
      have c27 := h.1
      replace h := h.2
      refine g_icmp_eq 67 49 gq134 rfl rfl rfl c27 (by omega) (fun c => ?_) (fun c => ?_)
      · replace h := h.1 c
        exact kGo.weak (km_Le.s (km_Le.s (km_Le.n (km_Le.n (km_Le.n (km_Le.n (km_Le.n (km_Le.n km_Le.nil)))))))) h
      · replace h := h.2 c
        refine g_iload_n 50 gq134 rfl rfl rfl ?_
        refine g_bipush 52 gq134 rfl rfl rfl ?_
        refine g_icmp_eq 67 55 gq134 rfl rfl rfl c27 (by omega) (fun c => ?_) (fun c => ?_)
        · replace h := h.1 c
          exact kGo.weak (km_Le.s (km_Le.s (km_Le.n (km_Le.n (km_Le.n (km_Le.n (km_Le.n (km_Le.n km_Le.nil)))))))) h
        · replace h := h.2 c
          refine g_iload_n 56 gq134 rfl rfl rfl ?_
          refine g_bipush 58 gq134 rfl rfl rfl ?_
          refine g_icmp_eq 67 61 gq134 rfl rfl rfl c27 (by omega) (fun c => ?_) (fun c => ?_)
          · replace h := h.1 c
            exact kGo.weak (km_Le.s (km_Le.s (km_Le.n (km_Le.n (km_Le.n (km_Le.n (km_Le.n (km_Le.n km_Le.nil)))))))) h
          · replace h := h.2 c
            refine g_iload_n 62 gq134 rfl rfl rfl ?_
            refine g_bipush 64 gq134 rfl rfl rfl ?_
            refine g_icmp_ne 73 67 gq134 rfl rfl rfl c27 (by omega) (fun c => ?_) (fun c => ?_)
            · replace h := h.1 c
              refine g_iload_n 74 gq134 rfl rfl rfl ?_
              refine g_static 130 _ (i := 156) gq134 rfl rfl gq130 rfl rfl rfl rfl ?_
              refine sp_mlet c27 ?_
              have c52 := h.1
              replace h := h.2
              refine g_if_eq 195 80 gq134 rfl rfl rfl c52 (fun c => ?_) (fun c => ?_)
              · replace h := h.1 c
                refine g_iload_n 196 gq134 rfl rfl rfl ?_
                refine g_static 129 _ (i := 160) gq134 rfl rfl gq129 rfl rfl rfl rfl ?_
                refine sp_mdig c27 ?_
                have c59 := h.1
                replace h := h.2
                refine g_if_eq 274 202 gq134 rfl rfl rfl c59 (fun c => ?_) (fun c => ?_)
                · replace h := h.1 c
                  refine g_iload_n 275 gq134 rfl rfl rfl ?_
                  refine g_aload_n 276 gq134 rfl rfl rfl ?_
                  refine g_iload_n 277 gq134 rfl rfl rfl ?_
                  refine g_iload_n 278 gq134 rfl rfl rfl ?_
                  refine g_virt 135 _ (i := 163) gq134 rfl rfl gq135 rfl rfl rfl rfl rfl rfl ?_
                  refine g_aload_n 1 gq135 rfl rfl rfl ?_
                  refine g_iload_n 2 gq135 rfl rfl rfl ?_
                  refine g_bipush 4 gq135 rfl rfl rfl ?_
                  refine g_icmp_ne 11 7 gq135 rfl rfl rfl c27 (by omega) (fun c => ?_) (fun c => ?_)
                  · replace h := h.1 c
                    refine g_iload_n 12 gq135 rfl rfl rfl ?_
                    refine g_bipush 14 gq135 rfl rfl rfl ?_
                    refine g_icmp_ne 21 17 gq135 rfl rfl rfl c27 (by omega) (fun c => ?_) (fun c => ?_)
                    · replace h := h.1 c
                      refine g_iload_n 22 gq135 rfl rfl rfl ?_
                      refine g_bipush 24 gq135 rfl rfl rfl ?_
                      refine g_icmp_ne 32 27 gq135 rfl rfl rfl c27 (by omega) (fun c => ?_) (fun c => ?_)
                      · replace h := h.1 c
                        refine g_iconst 33 gq135 rfl rfl ?_
                        refine g_iload_n 34 gq135 rfl rfl rfl ?_
                        refine g_iconst 35 gq135 rfl rfl ?_
                        refine g_lconst 36 0 gq135 rfl rfl rfl ?_
                        refine g_virt 133 _ (i := 152) gq135 rfl rfl gq133 rfl rfl rfl rfl rfl rfl ?_
                        refine g_aload_n 1 gq133 rfl rfl rfl ?_
                        refine g_getA 4 302 gq133 rfl rfl rfl rfl rfl rfl rfl ?_
                        refine g_aload_n 5 gq133 rfl rfl rfl ?_
                        refine g_getI 8 gq133 rfl rfl rfl rfl rfl rfl ?_
                        refine g_iload_n 9 gq133 rfl rfl rfl ?_
                        have c91 := h.1
                        replace h := h.2
                        refine g_iast 10 gq133 rfl rfl rfl c91 ?_
                        refine g_aload_n 11 gq133 rfl rfl rfl ?_
                        refine g_getA 14 303 gq133 rfl rfl rfl rfl rfl rfl rfl ?_
                        refine g_aload_n 15 gq133 rfl rfl rfl ?_
                        refine g_getI 18 gq133 rfl rfl rfl rfl rfl rfl ?_
                        refine g_iload_n 19 gq133 rfl rfl rfl ?_
                        have c99 := h.1
                        replace h := h.2
                        refine g_iast 20 gq133 rfl rfl rfl c99 ?_
                        refine g_aload_n 21 gq133 rfl rfl rfl ?_
                        refine g_getA 24 304 gq133 rfl rfl rfl rfl rfl rfl rfl ?_
                        refine g_aload_n 25 gq133 rfl rfl rfl ?_
                        refine g_getI 28 gq133 rfl rfl rfl rfl rfl rfl ?_
                        refine g_iload_n 29 gq133 rfl rfl rfl ?_
                        have c107 := h.1
                        replace h := h.2
                        refine g_iast 30 gq133 rfl rfl rfl c107 ?_
                        refine g_aload_n 31 gq133 rfl rfl rfl ?_
                        refine g_getA 34 305 gq133 rfl rfl rfl rfl rfl rfl rfl ?_
                        refine g_aload_n 35 gq133 rfl rfl rfl ?_
                        refine g_getI 38 gq133 rfl rfl rfl rfl rfl rfl ?_
                        refine g_lload 40 gq133 rfl rfl rfl ?_
                        have c115 := h.1
                        replace h := h.2
                        refine g_last 41 gq133 rfl rfl rfl c115 ?_
                        refine g_aload_n 42 gq133 rfl rfl rfl ?_
                        refine g_dup 43 gq133 rfl rfl rfl ?_
                        refine g_getI 46 gq133 rfl rfl rfl rfl rfl rfl ?_
                        refine g_iconst 47 gq133 rfl rfl ?_
                        refine g_iadd 48 gq133 rfl rfl ?_
                        refine g_putI 51 gq133 rfl rfl rfl rfl rfl rfl rfl rfl ?_
                        refine g_vret gq133 rfl rfl ?_
                        refine g_iconst 40 gq135 rfl rfl ?_
                        refine g_iret gq135 rfl rfl ?_
                        refine g_iadd 282 gq134 rfl rfl ?_
                        refine g_istore_n 283 gq134 rfl rfl rfl ?_
                        exact kGo.weak (km_Le.s (km_Le.s (km_Le.n (km_Le.n (km_Le.n (km_Le.n (km_Le.n (km_Le.n km_Le.nil)))))))) h
                      · replace h := h.2 c
                        refine g_bipush 29 gq135 rfl rfl rfl ?_
                        refine g_goto 33 gq135 rfl rfl ?_
                        refine g_iload_n 34 gq135 rfl rfl rfl ?_
                        refine g_iconst 35 gq135 rfl rfl ?_
                        refine g_lconst 36 0 gq135 rfl rfl rfl ?_
                        refine g_virt 133 _ (i := 152) gq135 rfl rfl gq133 rfl rfl rfl rfl rfl rfl ?_
                        refine g_aload_n 1 gq133 rfl rfl rfl ?_
                        refine g_getA 4 302 gq133 rfl rfl rfl rfl rfl rfl rfl ?_
                        refine g_aload_n 5 gq133 rfl rfl rfl ?_
                        refine g_getI 8 gq133 rfl rfl rfl rfl rfl rfl ?_
                        refine g_iload_n 9 gq133 rfl rfl rfl ?_
                        have c142 := h.1
                        replace h := h.2
                        refine g_iast 10 gq133 rfl rfl rfl c142 ?_
                        refine g_aload_n 11 gq133 rfl rfl rfl ?_
                        refine g_getA 14 303 gq133 rfl rfl rfl rfl rfl rfl rfl ?_
                        refine g_aload_n 15 gq133 rfl rfl rfl ?_
                        refine g_getI 18 gq133 rfl rfl rfl rfl rfl rfl ?_
                        refine g_iload_n 19 gq133 rfl rfl rfl ?_
                        have c150 := h.1
                        replace h := h.2
                        refine g_iast 20 gq133 rfl rfl rfl c150 ?_
                        refine g_aload_n 21 gq133 rfl rfl rfl ?_
                        refine g_getA 24 304 gq133 rfl rfl rfl rfl rfl rfl rfl ?_
                        refine g_aload_n 25 gq133 rfl rfl rfl ?_
                        refine g_getI 28 gq133 rfl rfl rfl rfl rfl rfl ?_
                        refine g_iload_n 29 gq133 rfl rfl rfl ?_
                        have c158 := h.1
                        replace h := h.2
                        refine g_iast 30 gq133 rfl rfl rfl c158 ?_
                        refine g_aload_n 31 gq133 rfl rfl rfl ?_
                        refine g_getA 34 305 gq133 rfl rfl rfl rfl rfl rfl rfl ?_
                        refine g_aload_n 35 gq133 rfl rfl rfl ?_
                        refine g_getI 38 gq133 rfl rfl rfl rfl rfl rfl ?_
                        refine g_lload 40 gq133 rfl rfl rfl ?_
                        have c166 := h.1
                        replace h := h.2
                        refine g_last 41 gq133 rfl rfl rfl c166 ?_
                        refine g_aload_n 42 gq133 rfl rfl rfl ?_
                        refine g_dup 43 gq133 rfl rfl rfl ?_
                        refine g_getI 46 gq133 rfl rfl rfl rfl rfl rfl ?_
                        refine g_iconst 47 gq133 rfl rfl ?_
                        refine g_iadd 48 gq133 rfl rfl ?_
                        refine g_putI 51 gq133 rfl rfl rfl rfl rfl rfl rfl rfl ?_
                        refine g_vret gq133 rfl rfl ?_
                        refine g_iconst 40 gq135 rfl rfl ?_
                        refine g_iret gq135 rfl rfl ?_
                        refine g_iadd 282 gq134 rfl rfl ?_
                        refine g_istore_n 283 gq134 rfl rfl rfl ?_
                        exact kGo.weak (km_Le.s (km_Le.s (km_Le.n (km_Le.n (km_Le.n (km_Le.n (km_Le.n (km_Le.n km_Le.nil)))))))) h
                    · replace h := h.2 c
                      refine g_iconst 18 gq135 rfl rfl ?_
                      refine g_goto 33 gq135 rfl rfl ?_
                      refine g_iload_n 34 gq135 rfl rfl rfl ?_
                      refine g_iconst 35 gq135 rfl rfl ?_
                      refine g_lconst 36 0 gq135 rfl rfl rfl ?_
                      refine g_virt 133 _ (i := 152) gq135 rfl rfl gq133 rfl rfl rfl rfl rfl rfl ?_
                      refine g_aload_n 1 gq133 rfl rfl rfl ?_
                      refine g_getA 4 302 gq133 rfl rfl rfl rfl rfl rfl rfl ?_
                      refine g_aload_n 5 gq133 rfl rfl rfl ?_
                      refine g_getI 8 gq133 rfl rfl rfl rfl rfl rfl ?_
                      refine g_iload_n 9 gq133 rfl rfl rfl ?_
                      have c193 := h.1
                      replace h := h.2
                      refine g_iast 10 gq133 rfl rfl rfl c193 ?_
                      refine g_aload_n 11 gq133 rfl rfl rfl ?_
                      refine g_getA 14 303 gq133 rfl rfl rfl rfl rfl rfl rfl ?_
                      refine g_aload_n 15 gq133 rfl rfl rfl ?_
                      refine g_getI 18 gq133 rfl rfl rfl rfl rfl rfl ?_
                      refine g_iload_n 19 gq133 rfl rfl rfl ?_
                      have c201 := h.1
                      replace h := h.2
                      refine g_iast 20 gq133 rfl rfl rfl c201 ?_
                      refine g_aload_n 21 gq133 rfl rfl rfl ?_
                      refine g_getA 24 304 gq133 rfl rfl rfl rfl rfl rfl rfl ?_
                      refine g_aload_n 25 gq133 rfl rfl rfl ?_
                      refine g_getI 28 gq133 rfl rfl rfl rfl rfl rfl ?_
                      refine g_iload_n 29 gq133 rfl rfl rfl ?_
                      have c209 := h.1
                      replace h := h.2
                      refine g_iast 30 gq133 rfl rfl rfl c209 ?_
                      refine g_aload_n 31 gq133 rfl rfl rfl ?_
                      refine g_getA 34 305 gq133 rfl rfl rfl rfl rfl rfl rfl ?_
                      refine g_aload_n 35 gq133 rfl rfl rfl ?_
                      refine g_getI 38 gq133 rfl rfl rfl rfl rfl rfl ?_
                      refine g_lload 40 gq133 rfl rfl rfl ?_
                      have c217 := h.1
                      replace h := h.2
                      refine g_last 41 gq133 rfl rfl rfl c217 ?_
                      refine g_aload_n 42 gq133 rfl rfl rfl ?_
                      refine g_dup 43 gq133 rfl rfl rfl ?_
                      refine g_getI 46 gq133 rfl rfl rfl rfl rfl rfl ?_
                      refine g_iconst 47 gq133 rfl rfl ?_
                      refine g_iadd 48 gq133 rfl rfl ?_
                      refine g_putI 51 gq133 rfl rfl rfl rfl rfl rfl rfl rfl ?_
                      refine g_vret gq133 rfl rfl ?_
                      refine g_iconst 40 gq135 rfl rfl ?_
                      refine g_iret gq135 rfl rfl ?_
                      refine g_iadd 282 gq134 rfl rfl ?_
                      refine g_istore_n 283 gq134 rfl rfl rfl ?_
                      exact kGo.weak (km_Le.s (km_Le.s (km_Le.n (km_Le.n (km_Le.n (km_Le.n (km_Le.n (km_Le.n km_Le.nil)))))))) h
                  · replace h := h.2 c
                    refine g_iconst 8 gq135 rfl rfl ?_
                    refine g_goto 33 gq135 rfl rfl ?_
                    refine g_iload_n 34 gq135 rfl rfl rfl ?_
                    refine g_iconst 35 gq135 rfl rfl ?_
                    refine g_lconst 36 0 gq135 rfl rfl rfl ?_
                    refine g_virt 133 _ (i := 152) gq135 rfl rfl gq133 rfl rfl rfl rfl rfl rfl ?_
                    refine g_aload_n 1 gq133 rfl rfl rfl ?_
                    refine g_getA 4 302 gq133 rfl rfl rfl rfl rfl rfl rfl ?_
                    refine g_aload_n 5 gq133 rfl rfl rfl ?_
                    refine g_getI 8 gq133 rfl rfl rfl rfl rfl rfl ?_
                    refine g_iload_n 9 gq133 rfl rfl rfl ?_
                    have c244 := h.1
                    replace h := h.2
                    refine g_iast 10 gq133 rfl rfl rfl c244 ?_
                    refine g_aload_n 11 gq133 rfl rfl rfl ?_
                    refine g_getA 14 303 gq133 rfl rfl rfl rfl rfl rfl rfl ?_
                    refine g_aload_n 15 gq133 rfl rfl rfl ?_
                    refine g_getI 18 gq133 rfl rfl rfl rfl rfl rfl ?_
                    refine g_iload_n 19 gq133 rfl rfl rfl ?_
                    have c252 := h.1
                    replace h := h.2
                    refine g_iast 20 gq133 rfl rfl rfl c252 ?_
                    refine g_aload_n 21 gq133 rfl rfl rfl ?_
                    refine g_getA 24 304 gq133 rfl rfl rfl rfl rfl rfl rfl ?_
                    refine g_aload_n 25 gq133 rfl rfl rfl ?_
                    refine g_getI 28 gq133 rfl rfl rfl rfl rfl rfl ?_
                    refine g_iload_n 29 gq133 rfl rfl rfl ?_
                    have c260 := h.1
                    replace h := h.2
                    refine g_iast 30 gq133 rfl rfl rfl c260 ?_
                    refine g_aload_n 31 gq133 rfl rfl rfl ?_
                    refine g_getA 34 305 gq133 rfl rfl rfl rfl rfl rfl rfl ?_
                    refine g_aload_n 35 gq133 rfl rfl rfl ?_
                    refine g_getI 38 gq133 rfl rfl rfl rfl rfl rfl ?_
                    refine g_lload 40 gq133 rfl rfl rfl ?_
                    have c268 := h.1
                    replace h := h.2
                    refine g_last 41 gq133 rfl rfl rfl c268 ?_
                    refine g_aload_n 42 gq133 rfl rfl rfl ?_
                    refine g_dup 43 gq133 rfl rfl rfl ?_
                    refine g_getI 46 gq133 rfl rfl rfl rfl rfl rfl ?_
                    refine g_iconst 47 gq133 rfl rfl ?_
                    refine g_iadd 48 gq133 rfl rfl ?_
                    refine g_putI 51 gq133 rfl rfl rfl rfl rfl rfl rfl rfl ?_
                    refine g_vret gq133 rfl rfl ?_
                    refine g_iconst 40 gq135 rfl rfl ?_
                    refine g_iret gq135 rfl rfl ?_
                    refine g_iadd 282 gq134 rfl rfl ?_
                    refine g_istore_n 283 gq134 rfl rfl rfl ?_
                    exact kGo.weak (km_Le.s (km_Le.s (km_Le.n (km_Le.n (km_Le.n (km_Le.n (km_Le.n (km_Le.n km_Le.nil)))))))) h
                · replace h := h.2 c
                  refine g_iconst 203 gq134 rfl rfl ?_
                  refine g_istore_n 204 gq134 rfl rfl rfl ?_
                  refine g_iconst 205 gq134 rfl rfl ?_
                  refine g_istore 207 gq134 rfl rfl rfl ?_
                  exact kGo.weak (km_Le.s (km_Le.s (km_Le.n (km_Le.s (km_Le.s (km_Le.n (km_Le.n (km_Le.n km_Le.nil)))))))) h
              · replace h := h.2 c
                refine g_iconst 81 gq134 rfl rfl ?_
                refine g_istore_n 82 gq134 rfl rfl rfl ?_
                refine g_lconst 83 0 gq134 rfl rfl rfl ?_
                refine g_lstore 85 gq134 rfl rfl rfl ?_
                exact kGo.weak (km_Le.s (km_Le.s (km_Le.n (km_Le.s (km_Le.s (km_Le.n (km_Le.n (km_Le.n km_Le.nil)))))))) h
            · replace h := h.2 c
              exact kGo.weak (km_Le.s (km_Le.s (km_Le.n (km_Le.n (km_Le.n (km_Le.n (km_Le.n (km_Le.n km_Le.nil)))))))) h
    · replace h := h.2 c
      refine g_aload_n 32 gq134 rfl rfl rfl ?_
      refine g_iconst 33 gq134 rfl rfl ?_
      refine g_aload_n 34 gq134 rfl rfl rfl ?_
      refine g_getI 37 gq134 rfl rfl rfl rfl rfl rfl ?_
      refine g_iconst 38 gq134 rfl rfl ?_
      refine g_lconst 39 0 gq134 rfl rfl rfl ?_
      refine g_virt 133 _ (i := 152) gq134 rfl rfl gq133 rfl rfl rfl rfl rfl rfl ?_
      refine g_aload_n 1 gq133 rfl rfl rfl ?_
      refine g_getA 4 302 gq133 rfl rfl rfl rfl rfl rfl rfl ?_
      refine g_aload_n 5 gq133 rfl rfl rfl ?_
      refine g_getI 8 gq133 rfl rfl rfl rfl rfl rfl ?_
      refine g_iload_n 9 gq133 rfl rfl rfl ?_
      have c310 := h.1
      replace h := h.2
      refine g_iast 10 gq133 rfl rfl rfl c310 ?_
      refine g_aload_n 11 gq133 rfl rfl rfl ?_
      refine g_getA 14 303 gq133 rfl rfl rfl rfl rfl rfl rfl ?_
      refine g_aload_n 15 gq133 rfl rfl rfl ?_
      refine g_getI 18 gq133 rfl rfl rfl rfl rfl rfl ?_
      refine g_iload_n 19 gq133 rfl rfl rfl ?_
      have c318 := h.1
      replace h := h.2
      refine g_iast 20 gq133 rfl rfl rfl c318 ?_
      refine g_aload_n 21 gq133 rfl rfl rfl ?_
      refine g_getA 24 304 gq133 rfl rfl rfl rfl rfl rfl rfl ?_
      refine g_aload_n 25 gq133 rfl rfl rfl ?_
      refine g_getI 28 gq133 rfl rfl rfl rfl rfl rfl ?_
      refine g_iload_n 29 gq133 rfl rfl rfl ?_
      have c326 := h.1
      replace h := h.2
      refine g_iast 30 gq133 rfl rfl rfl c326 ?_
      refine g_aload_n 31 gq133 rfl rfl rfl ?_
      refine g_getA 34 305 gq133 rfl rfl rfl rfl rfl rfl rfl ?_
      refine g_aload_n 35 gq133 rfl rfl rfl ?_
      refine g_getI 38 gq133 rfl rfl rfl rfl rfl rfl ?_
      refine g_lload 40 gq133 rfl rfl rfl ?_
      have c334 := h.1
      replace h := h.2
      refine g_last 41 gq133 rfl rfl rfl c334 ?_
      refine g_aload_n 42 gq133 rfl rfl rfl ?_
      refine g_dup 43 gq133 rfl rfl rfl ?_
      refine g_getI 46 gq133 rfl rfl rfl rfl rfl rfl ?_
      refine g_iconst 47 gq133 rfl rfl ?_
      refine g_iadd 48 gq133 rfl rfl ?_
      refine g_putI 51 gq133 rfl rfl rfl rfl rfl rfl rfl rfl ?_
      refine g_vret gq133 rfl rfl ?_
      exact g_vret gq134 rfl rfl h
set_option maxRecDepth 10000 in
theorem b134_67 {xs : Nat → Int32} {Lx d : Nat} {V : km_V} {Q : Option Value → km_V → Prop} {x1 : Int} 
    (h : kGo xs Lx (d + 2) 134 283 [some (.ref 299), some (kI (x1 + 1)), none, none, none, none, none, none] [] V Q) :
    kGo xs Lx (d + 2) 134 67 [some (.ref 299), some (kI x1), none, none, none, none, none, none] [] V Q := by
  refine g_iinc 70 gq134 rfl rfl rfl rfl ?_
  refine g_goto 283 gq134 rfl rfl ?_
  exact kGo.weak (km_Le.s (km_Le.s (km_Le.n (km_Le.n (km_Le.n (km_Le.n (km_Le.n (km_Le.n km_Le.nil)))))))) h
set_option maxRecDepth 10000 in
theorem b134_283 {xs : Nat → Int32} {Lx d : Nat} {V : km_V} {Q : Option Value → km_V → Prop} {x1 : Int} 
    (h : kGo xs Lx (d + 2) 134 7 [some (.ref 299), some (kI x1), none, none, none, none, none, none] [] V Q) :
    kGo xs Lx (d + 2) 134 283 [some (.ref 299), some (kI x1), none, none, none, none, none, none] [] V Q := by
  refine g_goto 7 gq134 rfl rfl ?_
  exact kGo.weak (km_Le.s (km_Le.s (km_Le.n (km_Le.n (km_Le.n (km_Le.n (km_Le.n (km_Le.n km_Le.nil)))))))) h
set_option maxRecDepth 10000 in
theorem b134_207 {xs : Nat → Int32} {Lx d : Nat} {V : km_V} {Q : Option Value → km_V → Prop} {x1 x3 x4 : Int} 
    (h : (kmbyC V (x1 + x3)) ∧ (kR (kmby V (x1 + x3))) ∧ (kR (kdig (kmby V (x1 + x3)))) ∧ (((kdig (kmby V (x1 + x3))) = 0 →
    (kR x3) ∧ ((x3 ≤ 4 →
      (0 ≤ (V 299 10) ∧ (V 299 10) < (403 : Nat)) ∧ (0 ≤ ((up V 302 (Int.toNat (V 299 10)) 2) 299 10) ∧ ((up V 302 (Int.toNat (V 299 10)) 2) 299 10) < (403 : Nat)) ∧ (0 ≤ ((up (up V 302 (Int.toNat (V 299 10)) 2) 303 (Int.toNat ((up V 302 (Int.toNat (V 299 10)) 2) 299 10)) x1) 299 10) ∧ ((up (up V 302 (Int.toNat (V 299 10)) 2) 303 (Int.toNat ((up V 302 (Int.toNat (V 299 10)) 2) 299 10)) x1) 299 10) < (403 : Nat)) ∧ (0 ≤ ((up (up (up V 302 (Int.toNat (V 299 10)) 2) 303 (Int.toNat ((up V 302 (Int.toNat (V 299 10)) 2) 299 10)) x1) 304 (Int.toNat ((up (up V 302 (Int.toNat (V 299 10)) 2) 303 (Int.toNat ((up V 302 (Int.toNat (V 299 10)) 2) 299 10)) x1) 299 10)) x4) 299 10) ∧ ((up (up (up V 302 (Int.toNat (V 299 10)) 2) 303 (Int.toNat ((up V 302 (Int.toNat (V 299 10)) 2) 299 10)) x1) 304 (Int.toNat ((up (up V 302 (Int.toNat (V 299 10)) 2) 303 (Int.toNat ((up V 302 (Int.toNat (V 299 10)) 2) 299 10)) x1) 299 10)) x4) 299 10) < (403 : Nat)) ∧ kGo xs Lx (d + 2) 134 283 [some (.ref 299), some (kI (x1 + x3)), none, none, none, none, none, none] [] (up (up (up (up (up V 302 (Int.toNat (V 299 10)) 2) 303 (Int.toNat ((up V 302 (Int.toNat (V 299 10)) 2) 299 10)) x1) 304 (Int.toNat ((up (up V 302 (Int.toNat (V 299 10)) 2) 303 (Int.toNat ((up V 302 (Int.toNat (V 299 10)) 2) 299 10)) x1) 299 10)) x4) 305 (Int.toNat ((up (up (up V 302 (Int.toNat (V 299 10)) 2) 303 (Int.toNat ((up V 302 (Int.toNat (V 299 10)) 2) 299 10)) x1) 304 (Int.toNat ((up (up V 302 (Int.toNat (V 299 10)) 2) 303 (Int.toNat ((up V 302 (Int.toNat (V 299 10)) 2) 299 10)) x1) 299 10)) x4) 299 10)) 0) 299 10 (((up (up (up (up V 302 (Int.toNat (V 299 10)) 2) 303 (Int.toNat ((up V 302 (Int.toNat (V 299 10)) 2) 299 10)) x1) 304 (Int.toNat ((up (up V 302 (Int.toNat (V 299 10)) 2) 303 (Int.toNat ((up V 302 (Int.toNat (V 299 10)) 2) 299 10)) x1) 299 10)) x4) 305 (Int.toNat ((up (up (up V 302 (Int.toNat (V 299 10)) 2) 303 (Int.toNat ((up V 302 (Int.toNat (V 299 10)) 2) 299 10)) x1) 304 (Int.toNat ((up (up V 302 (Int.toNat (V 299 10)) 2) 303 (Int.toNat ((up V 302 (Int.toNat (V 299 10)) 2) 299 10)) x1) 299 10)) x4) 299 10)) 0) 299 10) + 1)) Q) ∧
     (4 < x3 →
      (0 ≤ (V 299 10) ∧ (V 299 10) < (403 : Nat)) ∧ (0 ≤ ((up V 302 (Int.toNat (V 299 10)) 3) 299 10) ∧ ((up V 302 (Int.toNat (V 299 10)) 3) 299 10) < (403 : Nat)) ∧ (0 ≤ ((up (up V 302 (Int.toNat (V 299 10)) 3) 303 (Int.toNat ((up V 302 (Int.toNat (V 299 10)) 3) 299 10)) x1) 299 10) ∧ ((up (up V 302 (Int.toNat (V 299 10)) 3) 303 (Int.toNat ((up V 302 (Int.toNat (V 299 10)) 3) 299 10)) x1) 299 10) < (403 : Nat)) ∧ (0 ≤ ((up (up (up V 302 (Int.toNat (V 299 10)) 3) 303 (Int.toNat ((up V 302 (Int.toNat (V 299 10)) 3) 299 10)) x1) 304 (Int.toNat ((up (up V 302 (Int.toNat (V 299 10)) 3) 303 (Int.toNat ((up V 302 (Int.toNat (V 299 10)) 3) 299 10)) x1) 299 10)) x4) 299 10) ∧ ((up (up (up V 302 (Int.toNat (V 299 10)) 3) 303 (Int.toNat ((up V 302 (Int.toNat (V 299 10)) 3) 299 10)) x1) 304 (Int.toNat ((up (up V 302 (Int.toNat (V 299 10)) 3) 303 (Int.toNat ((up V 302 (Int.toNat (V 299 10)) 3) 299 10)) x1) 299 10)) x4) 299 10) < (403 : Nat)) ∧ kGo xs Lx (d + 2) 134 283 [some (.ref 299), some (kI (x1 + x3)), none, none, none, none, none, none] [] (up (up (up (up (up V 302 (Int.toNat (V 299 10)) 3) 303 (Int.toNat ((up V 302 (Int.toNat (V 299 10)) 3) 299 10)) x1) 304 (Int.toNat ((up (up V 302 (Int.toNat (V 299 10)) 3) 303 (Int.toNat ((up V 302 (Int.toNat (V 299 10)) 3) 299 10)) x1) 299 10)) x4) 305 (Int.toNat ((up (up (up V 302 (Int.toNat (V 299 10)) 3) 303 (Int.toNat ((up V 302 (Int.toNat (V 299 10)) 3) 299 10)) x1) 304 (Int.toNat ((up (up V 302 (Int.toNat (V 299 10)) 3) 303 (Int.toNat ((up V 302 (Int.toNat (V 299 10)) 3) 299 10)) x1) 299 10)) x4) 299 10)) 0) 299 10 (((up (up (up (up V 302 (Int.toNat (V 299 10)) 3) 303 (Int.toNat ((up V 302 (Int.toNat (V 299 10)) 3) 299 10)) x1) 304 (Int.toNat ((up (up V 302 (Int.toNat (V 299 10)) 3) 303 (Int.toNat ((up V 302 (Int.toNat (V 299 10)) 3) 299 10)) x1) 299 10)) x4) 305 (Int.toNat ((up (up (up V 302 (Int.toNat (V 299 10)) 3) 303 (Int.toNat ((up V 302 (Int.toNat (V 299 10)) 3) 299 10)) x1) 304 (Int.toNat ((up (up V 302 (Int.toNat (V 299 10)) 3) 303 (Int.toNat ((up V 302 (Int.toNat (V 299 10)) 3) 299 10)) x1) 299 10)) x4) 299 10)) 0) 299 10) + 1)) Q))) ∧
   ((kdig (kmby V (x1 + x3))) ≠ 0 →
    (kR x3) ∧ ((4 ≤ x3 →
      kGo xs Lx (d + 2) 134 243 [some (.ref 299), some (kI x1), none, some (kI x3), some (kI x4), none, none, none] [] V Q) ∧
     (x3 < 4 →
      (∀ z1 : Int, z1 = (((10 * x4) + (kmby V (x1 + x3))) - 48) → kGo xs Lx (d + 2) 134 243 [some (.ref 299), some (kI x1), none, some (kI x3), some (kI z1), none, none, none] [] V Q)))))) :
    kGo xs Lx (d + 2) 134 207 [some (.ref 299), some (kI x1), none, some (kI x3), some (kI x4), none, none, none] [] V Q := by
  refine g_aload_n 208 gq134 rfl rfl rfl ?_
  refine g_iload_n 209 gq134 rfl rfl rfl ?_
  refine g_iload_n 210 gq134 rfl rfl rfl ?_
  refine g_iadd 211 gq134 rfl rfl ?_
  have c4 := h.1
  replace h := h.2
  refine g_virt 128 _ (i := 148) gq134 rfl rfl gq128 rfl rfl rfl rfl rfl rfl ?_
  refine sp_mby  c4 ?_
  have c8 := h.1
  replace h := h.2
  refine g_static 129 _ (i := 160) gq134 rfl rfl gq129 rfl rfl rfl rfl ?_
  refine sp_mdig c8 ?_
  have c12 := h.1
  replace h := h.2
  refine g_if_eq 249 220 gq134 rfl rfl rfl c12 (fun c => ?_) (fun c => ?_)
  · replace h := h.1 c
    refine g_aload_n 250 gq134 rfl rfl rfl ?_
    refine g_iload_n 251 gq134 rfl rfl rfl ?_
    refine g_iconst 252 gq134 rfl rfl ?_
    have c19 := h.1
    replace h := h.2
    refine g_icmp_le 259 255 gq134 rfl rfl rfl c19 (by omega) (fun c => ?_) (fun c => ?_)
    · replace h := h.1 c
      refine g_iconst 260 gq134 rfl rfl ?_
      refine g_iload_n 261 gq134 rfl rfl rfl ?_
      refine g_iload 263 gq134 rfl rfl rfl ?_
      refine g_lconst 264 0 gq134 rfl rfl rfl ?_
      refine g_virt 133 _ (i := 152) gq134 rfl rfl gq133 rfl rfl rfl rfl rfl rfl ?_
      refine g_aload_n 1 gq133 rfl rfl rfl ?_
      refine g_getA 4 302 gq133 rfl rfl rfl rfl rfl rfl rfl ?_
      refine g_aload_n 5 gq133 rfl rfl rfl ?_
      refine g_getI 8 gq133 rfl rfl rfl rfl rfl rfl ?_
      refine g_iload_n 9 gq133 rfl rfl rfl ?_
      have c33 := h.1
      replace h := h.2
      refine g_iast 10 gq133 rfl rfl rfl c33 ?_
      refine g_aload_n 11 gq133 rfl rfl rfl ?_
      refine g_getA 14 303 gq133 rfl rfl rfl rfl rfl rfl rfl ?_
      refine g_aload_n 15 gq133 rfl rfl rfl ?_
      refine g_getI 18 gq133 rfl rfl rfl rfl rfl rfl ?_
      refine g_iload_n 19 gq133 rfl rfl rfl ?_
      have c41 := h.1
      replace h := h.2
      refine g_iast 20 gq133 rfl rfl rfl c41 ?_
      refine g_aload_n 21 gq133 rfl rfl rfl ?_
      refine g_getA 24 304 gq133 rfl rfl rfl rfl rfl rfl rfl ?_
      refine g_aload_n 25 gq133 rfl rfl rfl ?_
      refine g_getI 28 gq133 rfl rfl rfl rfl rfl rfl ?_
      refine g_iload_n 29 gq133 rfl rfl rfl ?_
      have c49 := h.1
      replace h := h.2
      refine g_iast 30 gq133 rfl rfl rfl c49 ?_
      refine g_aload_n 31 gq133 rfl rfl rfl ?_
      refine g_getA 34 305 gq133 rfl rfl rfl rfl rfl rfl rfl ?_
      refine g_aload_n 35 gq133 rfl rfl rfl ?_
      refine g_getI 38 gq133 rfl rfl rfl rfl rfl rfl ?_
      refine g_lload 40 gq133 rfl rfl rfl ?_
      have c57 := h.1
      replace h := h.2
      refine g_last 41 gq133 rfl rfl rfl c57 ?_
      refine g_aload_n 42 gq133 rfl rfl rfl ?_
      refine g_dup 43 gq133 rfl rfl rfl ?_
      refine g_getI 46 gq133 rfl rfl rfl rfl rfl rfl ?_
      refine g_iconst 47 gq133 rfl rfl ?_
      refine g_iadd 48 gq133 rfl rfl ?_
      refine g_putI 51 gq133 rfl rfl rfl rfl rfl rfl rfl rfl ?_
      refine g_vret gq133 rfl rfl ?_
      refine g_iload_n 268 gq134 rfl rfl rfl ?_
      refine g_iload_n 269 gq134 rfl rfl rfl ?_
      refine g_iadd 270 gq134 rfl rfl ?_
      refine g_istore_n 271 gq134 rfl rfl rfl ?_
      refine g_goto 283 gq134 rfl rfl ?_
      exact kGo.weak (km_Le.s (km_Le.s (km_Le.n (km_Le.n (km_Le.n (km_Le.n (km_Le.n (km_Le.n km_Le.nil)))))))) h
    · replace h := h.2 c
      refine g_iconst 256 gq134 rfl rfl ?_
      refine g_goto 260 gq134 rfl rfl ?_
      refine g_iload_n 261 gq134 rfl rfl rfl ?_
      refine g_iload 263 gq134 rfl rfl rfl ?_
      refine g_lconst 264 0 gq134 rfl rfl rfl ?_
      refine g_virt 133 _ (i := 152) gq134 rfl rfl gq133 rfl rfl rfl rfl rfl rfl ?_
      refine g_aload_n 1 gq133 rfl rfl rfl ?_
      refine g_getA 4 302 gq133 rfl rfl rfl rfl rfl rfl rfl ?_
      refine g_aload_n 5 gq133 rfl rfl rfl ?_
      refine g_getI 8 gq133 rfl rfl rfl rfl rfl rfl ?_
      refine g_iload_n 9 gq133 rfl rfl rfl ?_
      have c85 := h.1
      replace h := h.2
      refine g_iast 10 gq133 rfl rfl rfl c85 ?_
      refine g_aload_n 11 gq133 rfl rfl rfl ?_
      refine g_getA 14 303 gq133 rfl rfl rfl rfl rfl rfl rfl ?_
      refine g_aload_n 15 gq133 rfl rfl rfl ?_
      refine g_getI 18 gq133 rfl rfl rfl rfl rfl rfl ?_
      refine g_iload_n 19 gq133 rfl rfl rfl ?_
      have c93 := h.1
      replace h := h.2
      refine g_iast 20 gq133 rfl rfl rfl c93 ?_
      refine g_aload_n 21 gq133 rfl rfl rfl ?_
      refine g_getA 24 304 gq133 rfl rfl rfl rfl rfl rfl rfl ?_
      refine g_aload_n 25 gq133 rfl rfl rfl ?_
      refine g_getI 28 gq133 rfl rfl rfl rfl rfl rfl ?_
      refine g_iload_n 29 gq133 rfl rfl rfl ?_
      have c101 := h.1
      replace h := h.2
      refine g_iast 30 gq133 rfl rfl rfl c101 ?_
      refine g_aload_n 31 gq133 rfl rfl rfl ?_
      refine g_getA 34 305 gq133 rfl rfl rfl rfl rfl rfl rfl ?_
      refine g_aload_n 35 gq133 rfl rfl rfl ?_
      refine g_getI 38 gq133 rfl rfl rfl rfl rfl rfl ?_
      refine g_lload 40 gq133 rfl rfl rfl ?_
      have c109 := h.1
      replace h := h.2
      refine g_last 41 gq133 rfl rfl rfl c109 ?_
      refine g_aload_n 42 gq133 rfl rfl rfl ?_
      refine g_dup 43 gq133 rfl rfl rfl ?_
      refine g_getI 46 gq133 rfl rfl rfl rfl rfl rfl ?_
      refine g_iconst 47 gq133 rfl rfl ?_
      refine g_iadd 48 gq133 rfl rfl ?_
      refine g_putI 51 gq133 rfl rfl rfl rfl rfl rfl rfl rfl ?_
      refine g_vret gq133 rfl rfl ?_
      refine g_iload_n 268 gq134 rfl rfl rfl ?_
      refine g_iload_n 269 gq134 rfl rfl rfl ?_
      refine g_iadd 270 gq134 rfl rfl ?_
      refine g_istore_n 271 gq134 rfl rfl rfl ?_
      refine g_goto 283 gq134 rfl rfl ?_
      exact kGo.weak (km_Le.s (km_Le.s (km_Le.n (km_Le.n (km_Le.n (km_Le.n (km_Le.n (km_Le.n km_Le.nil)))))))) h
  · replace h := h.2 c
    refine g_iload_n 221 gq134 rfl rfl rfl ?_
    refine g_iconst 222 gq134 rfl rfl ?_
    have c128 := h.1
    replace h := h.2
    refine g_icmp_ge 243 225 gq134 rfl rfl rfl c128 (by omega) (fun c => ?_) (fun c => ?_)
    · replace h := h.1 c
      exact kGo.weak (km_Le.s (km_Le.s (km_Le.n (km_Le.s (km_Le.s (km_Le.n (km_Le.n (km_Le.n km_Le.nil)))))))) h
    · replace h := h.2 c
      refine g_bipush 227 gq134 rfl rfl rfl ?_
      refine g_iload 229 gq134 rfl rfl rfl ?_
      refine g_imul 230 gq134 rfl rfl ?_
      refine g_aload_n 231 gq134 rfl rfl rfl ?_
      refine g_iload_n 232 gq134 rfl rfl rfl ?_
      refine g_iload_n 233 gq134 rfl rfl rfl ?_
      refine g_iadd 234 gq134 rfl rfl ?_
      refine g_virt 128 _ (i := 148) gq134 rfl rfl gq128 rfl rfl rfl rfl rfl rfl ?_
      refine sp_mby  c4 ?_
      refine g_iadd 238 gq134 rfl rfl ?_
      refine g_bipush 240 gq134 rfl rfl rfl ?_
      refine g_isub 241 gq134 rfl rfl ?_
      refine g_istore 243 gq134 rfl rfl rfl ?_
      replace h := h _ rfl
      exact kGo.weak (km_Le.s (km_Le.s (km_Le.n (km_Le.s (km_Le.s (km_Le.n (km_Le.n (km_Le.n km_Le.nil)))))))) h
set_option maxRecDepth 10000 in
theorem b134_85 {xs : Nat → Int32} {Lx d : Nat} {V : km_V} {Q : Option Value → km_V → Prop} {x1 x3 x4 : Int} 
    (h : (kmbyC V (x1 + x3)) ∧ (kR (kmby V (x1 + x3))) ∧ (kR (klet (kmby V (x1 + x3)))) ∧ (((klet (kmby V (x1 + x3))) = 0 →
    (kR x3) ∧ ((x3 ≤ 8 →
      kGo xs Lx (d + 2) 134 146 [some (.ref 299), some (kI x1), none, some (kI x3), some (kJ x4), none, some (kI 1), some (kI 0)] [] V Q) ∧
     (8 < x3 →
      kGo xs Lx (d + 2) 134 178 [some (.ref 299), some (kI x1), none, some (kI x3), some (kJ x4), none, some (kI 3), none] [] V Q))) ∧
   ((klet (kmby V (x1 + x3))) ≠ 0 →
    (kR x3) ∧ ((8 ≤ x3 →
      kGo xs Lx (d + 2) 134 118 [some (.ref 299), some (kI x1), none, some (kI x3), some (kJ x4), none, none, none] [] V Q) ∧
     (x3 < 8 →
      kCJ xs Lx (d + 1) 131 3 [kJ x4, kI (kmby V (x1 + x3))] V (fun y1 W1 =>
      kGo xs Lx (d + 2) 134 118 [some (.ref 299), some (kI x1), none, some (kI x3), some (kJ y1), none, none, none] [] W1 Q)))))) :
    kGo xs Lx (d + 2) 134 85 [some (.ref 299), some (kI x1), none, some (kI x3), some (kJ x4), none, none, none] [] V Q := by
  refine g_aload_n 86 gq134 rfl rfl rfl ?_
  refine g_iload_n 87 gq134 rfl rfl rfl ?_
  refine g_iload_n 88 gq134 rfl rfl rfl ?_
  refine g_iadd 89 gq134 rfl rfl ?_
  have c4 := h.1
  replace h := h.2
  refine g_virt 128 _ (i := 148) gq134 rfl rfl gq128 rfl rfl rfl rfl rfl rfl ?_
  refine sp_mby  c4 ?_
  have c8 := h.1
  replace h := h.2
  refine g_static 130 _ (i := 156) gq134 rfl rfl gq130 rfl rfl rfl rfl ?_
  refine sp_mlet c8 ?_
  have c12 := h.1
  replace h := h.2
  refine g_if_eq 124 98 gq134 rfl rfl rfl c12 (fun c => ?_) (fun c => ?_)
  · replace h := h.1 c
    refine g_iload_n 125 gq134 rfl rfl rfl ?_
    refine g_bipush 127 gq134 rfl rfl rfl ?_
    have c18 := h.1
    replace h := h.2
    refine g_icmp_le 134 130 gq134 rfl rfl rfl c18 (by omega) (fun c => ?_) (fun c => ?_)
    · replace h := h.1 c
      refine g_iconst 135 gq134 rfl rfl ?_
      refine g_istore 137 gq134 rfl rfl rfl ?_
      refine g_iload_n 138 gq134 rfl rfl rfl ?_
      refine g_bipush 140 gq134 rfl rfl rfl ?_
      refine g_icmp_gt 178 143 gq134 rfl rfl rfl c18 (by omega) (fun c => ?_) (fun c => ?_)
      · exfalso; omega
      refine g_iconst 144 gq134 rfl rfl ?_
      refine g_istore 146 gq134 rfl rfl rfl ?_
      exact kGo.weak (km_Le.s (km_Le.s (km_Le.n (km_Le.s (km_Le.s (km_Le.n (km_Le.s (km_Le.s km_Le.nil)))))))) h
    · replace h := h.2 c
      refine g_iconst 131 gq134 rfl rfl ?_
      refine g_goto 135 gq134 rfl rfl ?_
      refine g_istore 137 gq134 rfl rfl rfl ?_
      refine g_iload_n 138 gq134 rfl rfl rfl ?_
      refine g_bipush 140 gq134 rfl rfl rfl ?_
      refine g_icmp_gt 178 143 gq134 rfl rfl rfl c18 (by omega) (fun c => ?_) (fun c => ?_)
      rotate_left
      · exfalso; omega
      exact kGo.weak (km_Le.s (km_Le.s (km_Le.n (km_Le.s (km_Le.s (km_Le.n (km_Le.s (km_Le.n km_Le.nil)))))))) h
  · replace h := h.2 c
    refine g_iload_n 99 gq134 rfl rfl rfl ?_
    refine g_bipush 101 gq134 rfl rfl rfl ?_
    have c44 := h.1
    replace h := h.2
    refine g_icmp_ge 118 104 gq134 rfl rfl rfl c44 (by omega) (fun c => ?_) (fun c => ?_)
    · replace h := h.1 c
      exact kGo.weak (km_Le.s (km_Le.s (km_Le.n (km_Le.s (km_Le.s (km_Le.n (km_Le.n (km_Le.n km_Le.nil)))))))) h
    · replace h := h.2 c
      refine g_lload 106 gq134 rfl rfl rfl ?_
      refine g_aload_n 107 gq134 rfl rfl rfl ?_
      refine g_iload_n 108 gq134 rfl rfl rfl ?_
      refine g_iload_n 109 gq134 rfl rfl rfl ?_
      refine g_iadd 110 gq134 rfl rfl ?_
      refine g_virt 128 _ (i := 148) gq134 rfl rfl gq128 rfl rfl rfl rfl rfl rfl ?_
      refine sp_mby  c4 ?_
      refine g_static 131 _ (i := 141) gq134 rfl rfl gq131 rfl rfl rfl rfl ?_
      refine kGo.mono h (fun r W1 hr => ?_)
      obtain ⟨y1, rfl, h⟩ := hr
      refine g_lstore 118 gq134 rfl rfl rfl ?_
      exact kGo.weak (km_Le.s (km_Le.s (km_Le.n (km_Le.s (km_Le.s (km_Le.n (km_Le.n (km_Le.n km_Le.nil)))))))) h
set_option maxRecDepth 10000 in
theorem b134_243 {xs : Nat → Int32} {Lx d : Nat} {V : km_V} {Q : Option Value → km_V → Prop} {x1 x3 x4 : Int} 
    (h : kGo xs Lx (d + 2) 134 207 [some (.ref 299), some (kI x1), none, some (kI (x3 + 1)), some (kI x4), none, none, none] [] V Q) :
    kGo xs Lx (d + 2) 134 243 [some (.ref 299), some (kI x1), none, some (kI x3), some (kI x4), none, none, none] [] V Q := by
  refine g_iinc 246 gq134 rfl rfl rfl rfl ?_
  refine g_goto 207 gq134 rfl rfl ?_
  exact kGo.weak (km_Le.s (km_Le.s (km_Le.n (km_Le.s (km_Le.s (km_Le.n (km_Le.n (km_Le.n km_Le.nil)))))))) h
set_option maxRecDepth 10000 in
theorem b134_146 {xs : Nat → Int32} {Lx d : Nat} {V : km_V} {Q : Option Value → km_V → Prop} {x1 x3 x4 x6 x7 : Int} 
    (h : (kR x7) ∧ ((4 ≤ x7 →
    kGo xs Lx (d + 2) 134 178 [some (.ref 299), some (kI x1), none, some (kI x3), some (kJ x4), none, some (kI x6), none] [] V Q) ∧
   (x7 < 4 →
    (0 ≤ x7 ∧ x7 < (4 : Nat)) ∧ (kR64 (V 306 (Int.toNat x7))) ∧ (kR64 x4) ∧ (kR (kcmp (V 306 (Int.toNat x7)) x4)) ∧ (((kcmp (V 306 (Int.toNat x7)) x4) ≠ 0 →
      kGo xs Lx (d + 2) 134 172 [some (.ref 299), some (kI x1), none, some (kI x3), some (kJ x4), none, some (kI x6), some (kI x7)] [] V Q) ∧
     ((kcmp (V 306 (Int.toNat x7)) x4) = 0 →
      kGo xs Lx (d + 2) 134 172 [some (.ref 299), some (kI x1), none, some (kI x3), some (kJ x4), none, some (kI (20 + x7)), some (kI x7)] [] V Q))))) :
    kGo xs Lx (d + 2) 134 146 [some (.ref 299), some (kI x1), none, some (kI x3), some (kJ x4), none, some (kI x6), some (kI x7)] [] V Q := by
  refine g_iload 148 gq134 rfl rfl rfl ?_
  refine g_iconst 149 gq134 rfl rfl ?_
  have c2 := h.1
  replace h := h.2
  refine g_icmp_ge 178 152 gq134 rfl rfl rfl c2 (by omega) (fun c => ?_) (fun c => ?_)
  · replace h := h.1 c
    exact kGo.weak (km_Le.s (km_Le.s (km_Le.n (km_Le.s (km_Le.s (km_Le.n (km_Le.s (km_Le.n km_Le.nil)))))))) h
  · replace h := h.2 c
    refine g_aload_n 153 gq134 rfl rfl rfl ?_
    refine g_getA 156 306 gq134 rfl rfl rfl rfl rfl rfl rfl ?_
    refine g_iload 158 gq134 rfl rfl rfl ?_
    have c11 := h.1
    replace h := h.2
    refine g_lald 159 gq134 rfl rfl rfl c11 ?_
    refine g_lload 161 gq134 rfl rfl rfl ?_
    have c15 := h.1
    replace h := h.2
    have c17 := h.1
    replace h := h.2
    refine g_lcmp 162 gq134 rfl rfl c15 c17 ?_
    have c20 := h.1
    replace h := h.2
    refine g_if_ne 172 165 gq134 rfl rfl rfl c20 (fun c => ?_) (fun c => ?_)
    · replace h := h.1 c
      exact kGo.weak (km_Le.s (km_Le.s (km_Le.n (km_Le.s (km_Le.s (km_Le.n (km_Le.s (km_Le.s km_Le.nil)))))))) h
    · replace h := h.2 c
      refine g_bipush 167 gq134 rfl rfl rfl ?_
      refine g_iload 169 gq134 rfl rfl rfl ?_
      refine g_iadd 170 gq134 rfl rfl ?_
      refine g_istore 172 gq134 rfl rfl rfl ?_
      exact kGo.weak (km_Le.s (km_Le.s (km_Le.n (km_Le.s (km_Le.s (km_Le.n (km_Le.s (km_Le.s km_Le.nil)))))))) h
set_option maxRecDepth 10000 in
theorem b134_178 {xs : Nat → Int32} {Lx d : Nat} {V : km_V} {Q : Option Value → km_V → Prop} {x1 x3 x4 x6 : Int} 
    (h : (0 ≤ (V 299 10) ∧ (V 299 10) < (403 : Nat)) ∧ (0 ≤ ((up V 302 (Int.toNat (V 299 10)) x6) 299 10) ∧ ((up V 302 (Int.toNat (V 299 10)) x6) 299 10) < (403 : Nat)) ∧ (0 ≤ ((up (up V 302 (Int.toNat (V 299 10)) x6) 303 (Int.toNat ((up V 302 (Int.toNat (V 299 10)) x6) 299 10)) x1) 299 10) ∧ ((up (up V 302 (Int.toNat (V 299 10)) x6) 303 (Int.toNat ((up V 302 (Int.toNat (V 299 10)) x6) 299 10)) x1) 299 10) < (403 : Nat)) ∧ (0 ≤ ((up (up (up V 302 (Int.toNat (V 299 10)) x6) 303 (Int.toNat ((up V 302 (Int.toNat (V 299 10)) x6) 299 10)) x1) 304 (Int.toNat ((up (up V 302 (Int.toNat (V 299 10)) x6) 303 (Int.toNat ((up V 302 (Int.toNat (V 299 10)) x6) 299 10)) x1) 299 10)) 0) 299 10) ∧ ((up (up (up V 302 (Int.toNat (V 299 10)) x6) 303 (Int.toNat ((up V 302 (Int.toNat (V 299 10)) x6) 299 10)) x1) 304 (Int.toNat ((up (up V 302 (Int.toNat (V 299 10)) x6) 303 (Int.toNat ((up V 302 (Int.toNat (V 299 10)) x6) 299 10)) x1) 299 10)) 0) 299 10) < (403 : Nat)) ∧ kGo xs Lx (d + 2) 134 283 [some (.ref 299), some (kI (x1 + x3)), none, none, none, none, none, none] [] (up (up (up (up (up V 302 (Int.toNat (V 299 10)) x6) 303 (Int.toNat ((up V 302 (Int.toNat (V 299 10)) x6) 299 10)) x1) 304 (Int.toNat ((up (up V 302 (Int.toNat (V 299 10)) x6) 303 (Int.toNat ((up V 302 (Int.toNat (V 299 10)) x6) 299 10)) x1) 299 10)) 0) 305 (Int.toNat ((up (up (up V 302 (Int.toNat (V 299 10)) x6) 303 (Int.toNat ((up V 302 (Int.toNat (V 299 10)) x6) 299 10)) x1) 304 (Int.toNat ((up (up V 302 (Int.toNat (V 299 10)) x6) 303 (Int.toNat ((up V 302 (Int.toNat (V 299 10)) x6) 299 10)) x1) 299 10)) 0) 299 10)) x4) 299 10 (((up (up (up (up V 302 (Int.toNat (V 299 10)) x6) 303 (Int.toNat ((up V 302 (Int.toNat (V 299 10)) x6) 299 10)) x1) 304 (Int.toNat ((up (up V 302 (Int.toNat (V 299 10)) x6) 303 (Int.toNat ((up V 302 (Int.toNat (V 299 10)) x6) 299 10)) x1) 299 10)) 0) 305 (Int.toNat ((up (up (up V 302 (Int.toNat (V 299 10)) x6) 303 (Int.toNat ((up V 302 (Int.toNat (V 299 10)) x6) 299 10)) x1) 304 (Int.toNat ((up (up V 302 (Int.toNat (V 299 10)) x6) 303 (Int.toNat ((up V 302 (Int.toNat (V 299 10)) x6) 299 10)) x1) 299 10)) 0) 299 10)) x4) 299 10) + 1)) Q) :
    kGo xs Lx (d + 2) 134 178 [some (.ref 299), some (kI x1), none, some (kI x3), some (kJ x4), none, some (kI x6), none] [] V Q := by
  refine g_aload_n 179 gq134 rfl rfl rfl ?_
  refine g_iload 181 gq134 rfl rfl rfl ?_
  refine g_iload_n 182 gq134 rfl rfl rfl ?_
  refine g_iconst 183 gq134 rfl rfl ?_
  refine g_lload 185 gq134 rfl rfl rfl ?_
  refine g_virt 133 _ (i := 152) gq134 rfl rfl gq133 rfl rfl rfl rfl rfl rfl ?_
  refine g_aload_n 1 gq133 rfl rfl rfl ?_
  refine g_getA 4 302 gq133 rfl rfl rfl rfl rfl rfl rfl ?_
  refine g_aload_n 5 gq133 rfl rfl rfl ?_
  refine g_getI 8 gq133 rfl rfl rfl rfl rfl rfl ?_
  refine g_iload_n 9 gq133 rfl rfl rfl ?_
  have c11 := h.1
  replace h := h.2
  refine g_iast 10 gq133 rfl rfl rfl c11 ?_
  refine g_aload_n 11 gq133 rfl rfl rfl ?_
  refine g_getA 14 303 gq133 rfl rfl rfl rfl rfl rfl rfl ?_
  refine g_aload_n 15 gq133 rfl rfl rfl ?_
  refine g_getI 18 gq133 rfl rfl rfl rfl rfl rfl ?_
  refine g_iload_n 19 gq133 rfl rfl rfl ?_
  have c19 := h.1
  replace h := h.2
  refine g_iast 20 gq133 rfl rfl rfl c19 ?_
  refine g_aload_n 21 gq133 rfl rfl rfl ?_
  refine g_getA 24 304 gq133 rfl rfl rfl rfl rfl rfl rfl ?_
  refine g_aload_n 25 gq133 rfl rfl rfl ?_
  refine g_getI 28 gq133 rfl rfl rfl rfl rfl rfl ?_
  refine g_iload_n 29 gq133 rfl rfl rfl ?_
  have c27 := h.1
  replace h := h.2
  refine g_iast 30 gq133 rfl rfl rfl c27 ?_
  refine g_aload_n 31 gq133 rfl rfl rfl ?_
  refine g_getA 34 305 gq133 rfl rfl rfl rfl rfl rfl rfl ?_
  refine g_aload_n 35 gq133 rfl rfl rfl ?_
  refine g_getI 38 gq133 rfl rfl rfl rfl rfl rfl ?_
  refine g_lload 40 gq133 rfl rfl rfl ?_
  have c35 := h.1
  replace h := h.2
  refine g_last 41 gq133 rfl rfl rfl c35 ?_
  refine g_aload_n 42 gq133 rfl rfl rfl ?_
  refine g_dup 43 gq133 rfl rfl rfl ?_
  refine g_getI 46 gq133 rfl rfl rfl rfl rfl rfl ?_
  refine g_iconst 47 gq133 rfl rfl ?_
  refine g_iadd 48 gq133 rfl rfl ?_
  refine g_putI 51 gq133 rfl rfl rfl rfl rfl rfl rfl rfl ?_
  refine g_vret gq133 rfl rfl ?_
  refine g_iload_n 189 gq134 rfl rfl rfl ?_
  refine g_iload_n 190 gq134 rfl rfl rfl ?_
  refine g_iadd 191 gq134 rfl rfl ?_
  refine g_istore_n 192 gq134 rfl rfl rfl ?_
  refine g_goto 283 gq134 rfl rfl ?_
  exact kGo.weak (km_Le.s (km_Le.s (km_Le.n (km_Le.n (km_Le.n (km_Le.n (km_Le.n (km_Le.n km_Le.nil)))))))) h
set_option maxRecDepth 10000 in
theorem b134_118 {xs : Nat → Int32} {Lx d : Nat} {V : km_V} {Q : Option Value → km_V → Prop} {x1 x3 x4 : Int} 
    (h : kGo xs Lx (d + 2) 134 85 [some (.ref 299), some (kI x1), none, some (kI (x3 + 1)), some (kJ x4), none, none, none] [] V Q) :
    kGo xs Lx (d + 2) 134 118 [some (.ref 299), some (kI x1), none, some (kI x3), some (kJ x4), none, none, none] [] V Q := by
  refine g_iinc 121 gq134 rfl rfl rfl rfl ?_
  refine g_goto 85 gq134 rfl rfl ?_
  exact kGo.weak (km_Le.s (km_Le.s (km_Le.n (km_Le.s (km_Le.s (km_Le.n (km_Le.n (km_Le.n km_Le.nil)))))))) h
set_option maxRecDepth 10000 in
theorem b134_172 {xs : Nat → Int32} {Lx d : Nat} {V : km_V} {Q : Option Value → km_V → Prop} {x1 x3 x4 x6 x7 : Int} 
    (h : kGo xs Lx (d + 2) 134 146 [some (.ref 299), some (kI x1), none, some (kI x3), some (kJ x4), none, some (kI x6), some (kI (x7 + 1))] [] V Q) :
    kGo xs Lx (d + 2) 134 172 [some (.ref 299), some (kI x1), none, some (kI x3), some (kJ x4), none, some (kI x6), some (kI x7)] [] V Q := by
  refine g_iinc 175 gq134 rfl rfl rfl rfl ?_
  refine g_goto 146 gq134 rfl rfl ?_
  exact kGo.weak (km_Le.s (km_Le.s (km_Le.n (km_Le.s (km_Le.s (km_Le.n (km_Le.s (km_Le.s km_Le.nil)))))))) h
set_option maxRecDepth 10000 in
theorem b135_0 {xs : Nat → Int32} {Lx d : Nat} {V : km_V} {Q : Option Value → km_V → Prop} {a1 a2 : Int} 
    (h : (kR a2) ∧ ((a2 ≠ 59 →
    ((a2 ≠ 43 →
      ((a2 ≠ 45 →
        (0 ≤ (V 299 10) ∧ (V 299 10) < (403 : Nat)) ∧ (0 ≤ ((up V 302 (Int.toNat (V 299 10)) 3) 299 10) ∧ ((up V 302 (Int.toNat (V 299 10)) 3) 299 10) < (403 : Nat)) ∧ (0 ≤ ((up (up V 302 (Int.toNat (V 299 10)) 3) 303 (Int.toNat ((up V 302 (Int.toNat (V 299 10)) 3) 299 10)) a1) 299 10) ∧ ((up (up V 302 (Int.toNat (V 299 10)) 3) 303 (Int.toNat ((up V 302 (Int.toNat (V 299 10)) 3) 299 10)) a1) 299 10) < (403 : Nat)) ∧ (0 ≤ ((up (up (up V 302 (Int.toNat (V 299 10)) 3) 303 (Int.toNat ((up V 302 (Int.toNat (V 299 10)) 3) 299 10)) a1) 304 (Int.toNat ((up (up V 302 (Int.toNat (V 299 10)) 3) 303 (Int.toNat ((up V 302 (Int.toNat (V 299 10)) 3) 299 10)) a1) 299 10)) 0) 299 10) ∧ ((up (up (up V 302 (Int.toNat (V 299 10)) 3) 303 (Int.toNat ((up V 302 (Int.toNat (V 299 10)) 3) 299 10)) a1) 304 (Int.toNat ((up (up V 302 (Int.toNat (V 299 10)) 3) 303 (Int.toNat ((up V 302 (Int.toNat (V 299 10)) 3) 299 10)) a1) 299 10)) 0) 299 10) < (403 : Nat)) ∧ Q (some (kI 1)) (up (up (up (up (up V 302 (Int.toNat (V 299 10)) 3) 303 (Int.toNat ((up V 302 (Int.toNat (V 299 10)) 3) 299 10)) a1) 304 (Int.toNat ((up (up V 302 (Int.toNat (V 299 10)) 3) 303 (Int.toNat ((up V 302 (Int.toNat (V 299 10)) 3) 299 10)) a1) 299 10)) 0) 305 (Int.toNat ((up (up (up V 302 (Int.toNat (V 299 10)) 3) 303 (Int.toNat ((up V 302 (Int.toNat (V 299 10)) 3) 299 10)) a1) 304 (Int.toNat ((up (up V 302 (Int.toNat (V 299 10)) 3) 303 (Int.toNat ((up V 302 (Int.toNat (V 299 10)) 3) 299 10)) a1) 299 10)) 0) 299 10)) 0) 299 10 (((up (up (up (up V 302 (Int.toNat (V 299 10)) 3) 303 (Int.toNat ((up V 302 (Int.toNat (V 299 10)) 3) 299 10)) a1) 304 (Int.toNat ((up (up V 302 (Int.toNat (V 299 10)) 3) 303 (Int.toNat ((up V 302 (Int.toNat (V 299 10)) 3) 299 10)) a1) 299 10)) 0) 305 (Int.toNat ((up (up (up V 302 (Int.toNat (V 299 10)) 3) 303 (Int.toNat ((up V 302 (Int.toNat (V 299 10)) 3) 299 10)) a1) 304 (Int.toNat ((up (up V 302 (Int.toNat (V 299 10)) 3) 303 (Int.toNat ((up V 302 (Int.toNat (V 299 10)) 3) 299 10)) a1) 299 10)) 0) 299 10)) 0) 299 10) + 1))) ∧
       (a2 = 45 →
        (0 ≤ (V 299 10) ∧ (V 299 10) < (403 : Nat)) ∧ (0 ≤ ((up V 302 (Int.toNat (V 299 10)) 6) 299 10) ∧ ((up V 302 (Int.toNat (V 299 10)) 6) 299 10) < (403 : Nat)) ∧ (0 ≤ ((up (up V 302 (Int.toNat (V 299 10)) 6) 303 (Int.toNat ((up V 302 (Int.toNat (V 299 10)) 6) 299 10)) a1) 299 10) ∧ ((up (up V 302 (Int.toNat (V 299 10)) 6) 303 (Int.toNat ((up V 302 (Int.toNat (V 299 10)) 6) 299 10)) a1) 299 10) < (403 : Nat)) ∧ (0 ≤ ((up (up (up V 302 (Int.toNat (V 299 10)) 6) 303 (Int.toNat ((up V 302 (Int.toNat (V 299 10)) 6) 299 10)) a1) 304 (Int.toNat ((up (up V 302 (Int.toNat (V 299 10)) 6) 303 (Int.toNat ((up V 302 (Int.toNat (V 299 10)) 6) 299 10)) a1) 299 10)) 0) 299 10) ∧ ((up (up (up V 302 (Int.toNat (V 299 10)) 6) 303 (Int.toNat ((up V 302 (Int.toNat (V 299 10)) 6) 299 10)) a1) 304 (Int.toNat ((up (up V 302 (Int.toNat (V 299 10)) 6) 303 (Int.toNat ((up V 302 (Int.toNat (V 299 10)) 6) 299 10)) a1) 299 10)) 0) 299 10) < (403 : Nat)) ∧ Q (some (kI 1)) (up (up (up (up (up V 302 (Int.toNat (V 299 10)) 6) 303 (Int.toNat ((up V 302 (Int.toNat (V 299 10)) 6) 299 10)) a1) 304 (Int.toNat ((up (up V 302 (Int.toNat (V 299 10)) 6) 303 (Int.toNat ((up V 302 (Int.toNat (V 299 10)) 6) 299 10)) a1) 299 10)) 0) 305 (Int.toNat ((up (up (up V 302 (Int.toNat (V 299 10)) 6) 303 (Int.toNat ((up V 302 (Int.toNat (V 299 10)) 6) 299 10)) a1) 304 (Int.toNat ((up (up V 302 (Int.toNat (V 299 10)) 6) 303 (Int.toNat ((up V 302 (Int.toNat (V 299 10)) 6) 299 10)) a1) 299 10)) 0) 299 10)) 0) 299 10 (((up (up (up (up V 302 (Int.toNat (V 299 10)) 6) 303 (Int.toNat ((up V 302 (Int.toNat (V 299 10)) 6) 299 10)) a1) 304 (Int.toNat ((up (up V 302 (Int.toNat (V 299 10)) 6) 303 (Int.toNat ((up V 302 (Int.toNat (V 299 10)) 6) 299 10)) a1) 299 10)) 0) 305 (Int.toNat ((up (up (up V 302 (Int.toNat (V 299 10)) 6) 303 (Int.toNat ((up V 302 (Int.toNat (V 299 10)) 6) 299 10)) a1) 304 (Int.toNat ((up (up V 302 (Int.toNat (V 299 10)) 6) 303 (Int.toNat ((up V 302 (Int.toNat (V 299 10)) 6) 299 10)) a1) 299 10)) 0) 299 10)) 0) 299 10) + 1))))) ∧
     (a2 = 43 →
      (0 ≤ (V 299 10) ∧ (V 299 10) < (403 : Nat)) ∧ (0 ≤ ((up V 302 (Int.toNat (V 299 10)) 5) 299 10) ∧ ((up V 302 (Int.toNat (V 299 10)) 5) 299 10) < (403 : Nat)) ∧ (0 ≤ ((up (up V 302 (Int.toNat (V 299 10)) 5) 303 (Int.toNat ((up V 302 (Int.toNat (V 299 10)) 5) 299 10)) a1) 299 10) ∧ ((up (up V 302 (Int.toNat (V 299 10)) 5) 303 (Int.toNat ((up V 302 (Int.toNat (V 299 10)) 5) 299 10)) a1) 299 10) < (403 : Nat)) ∧ (0 ≤ ((up (up (up V 302 (Int.toNat (V 299 10)) 5) 303 (Int.toNat ((up V 302 (Int.toNat (V 299 10)) 5) 299 10)) a1) 304 (Int.toNat ((up (up V 302 (Int.toNat (V 299 10)) 5) 303 (Int.toNat ((up V 302 (Int.toNat (V 299 10)) 5) 299 10)) a1) 299 10)) 0) 299 10) ∧ ((up (up (up V 302 (Int.toNat (V 299 10)) 5) 303 (Int.toNat ((up V 302 (Int.toNat (V 299 10)) 5) 299 10)) a1) 304 (Int.toNat ((up (up V 302 (Int.toNat (V 299 10)) 5) 303 (Int.toNat ((up V 302 (Int.toNat (V 299 10)) 5) 299 10)) a1) 299 10)) 0) 299 10) < (403 : Nat)) ∧ Q (some (kI 1)) (up (up (up (up (up V 302 (Int.toNat (V 299 10)) 5) 303 (Int.toNat ((up V 302 (Int.toNat (V 299 10)) 5) 299 10)) a1) 304 (Int.toNat ((up (up V 302 (Int.toNat (V 299 10)) 5) 303 (Int.toNat ((up V 302 (Int.toNat (V 299 10)) 5) 299 10)) a1) 299 10)) 0) 305 (Int.toNat ((up (up (up V 302 (Int.toNat (V 299 10)) 5) 303 (Int.toNat ((up V 302 (Int.toNat (V 299 10)) 5) 299 10)) a1) 304 (Int.toNat ((up (up V 302 (Int.toNat (V 299 10)) 5) 303 (Int.toNat ((up V 302 (Int.toNat (V 299 10)) 5) 299 10)) a1) 299 10)) 0) 299 10)) 0) 299 10 (((up (up (up (up V 302 (Int.toNat (V 299 10)) 5) 303 (Int.toNat ((up V 302 (Int.toNat (V 299 10)) 5) 299 10)) a1) 304 (Int.toNat ((up (up V 302 (Int.toNat (V 299 10)) 5) 303 (Int.toNat ((up V 302 (Int.toNat (V 299 10)) 5) 299 10)) a1) 299 10)) 0) 305 (Int.toNat ((up (up (up V 302 (Int.toNat (V 299 10)) 5) 303 (Int.toNat ((up V 302 (Int.toNat (V 299 10)) 5) 299 10)) a1) 304 (Int.toNat ((up (up V 302 (Int.toNat (V 299 10)) 5) 303 (Int.toNat ((up V 302 (Int.toNat (V 299 10)) 5) 299 10)) a1) 299 10)) 0) 299 10)) 0) 299 10) + 1))))) ∧
   (a2 = 59 →
    (0 ≤ (V 299 10) ∧ (V 299 10) < (403 : Nat)) ∧ (0 ≤ ((up V 302 (Int.toNat (V 299 10)) 4) 299 10) ∧ ((up V 302 (Int.toNat (V 299 10)) 4) 299 10) < (403 : Nat)) ∧ (0 ≤ ((up (up V 302 (Int.toNat (V 299 10)) 4) 303 (Int.toNat ((up V 302 (Int.toNat (V 299 10)) 4) 299 10)) a1) 299 10) ∧ ((up (up V 302 (Int.toNat (V 299 10)) 4) 303 (Int.toNat ((up V 302 (Int.toNat (V 299 10)) 4) 299 10)) a1) 299 10) < (403 : Nat)) ∧ (0 ≤ ((up (up (up V 302 (Int.toNat (V 299 10)) 4) 303 (Int.toNat ((up V 302 (Int.toNat (V 299 10)) 4) 299 10)) a1) 304 (Int.toNat ((up (up V 302 (Int.toNat (V 299 10)) 4) 303 (Int.toNat ((up V 302 (Int.toNat (V 299 10)) 4) 299 10)) a1) 299 10)) 0) 299 10) ∧ ((up (up (up V 302 (Int.toNat (V 299 10)) 4) 303 (Int.toNat ((up V 302 (Int.toNat (V 299 10)) 4) 299 10)) a1) 304 (Int.toNat ((up (up V 302 (Int.toNat (V 299 10)) 4) 303 (Int.toNat ((up V 302 (Int.toNat (V 299 10)) 4) 299 10)) a1) 299 10)) 0) 299 10) < (403 : Nat)) ∧ Q (some (kI 1)) (up (up (up (up (up V 302 (Int.toNat (V 299 10)) 4) 303 (Int.toNat ((up V 302 (Int.toNat (V 299 10)) 4) 299 10)) a1) 304 (Int.toNat ((up (up V 302 (Int.toNat (V 299 10)) 4) 303 (Int.toNat ((up V 302 (Int.toNat (V 299 10)) 4) 299 10)) a1) 299 10)) 0) 305 (Int.toNat ((up (up (up V 302 (Int.toNat (V 299 10)) 4) 303 (Int.toNat ((up V 302 (Int.toNat (V 299 10)) 4) 299 10)) a1) 304 (Int.toNat ((up (up V 302 (Int.toNat (V 299 10)) 4) 303 (Int.toNat ((up V 302 (Int.toNat (V 299 10)) 4) 299 10)) a1) 299 10)) 0) 299 10)) 0) 299 10 (((up (up (up (up V 302 (Int.toNat (V 299 10)) 4) 303 (Int.toNat ((up V 302 (Int.toNat (V 299 10)) 4) 299 10)) a1) 304 (Int.toNat ((up (up V 302 (Int.toNat (V 299 10)) 4) 303 (Int.toNat ((up V 302 (Int.toNat (V 299 10)) 4) 299 10)) a1) 299 10)) 0) 305 (Int.toNat ((up (up (up V 302 (Int.toNat (V 299 10)) 4) 303 (Int.toNat ((up V 302 (Int.toNat (V 299 10)) 4) 299 10)) a1) 304 (Int.toNat ((up (up V 302 (Int.toNat (V 299 10)) 4) 303 (Int.toNat ((up V 302 (Int.toNat (V 299 10)) 4) 299 10)) a1) 299 10)) 0) 299 10)) 0) 299 10) + 1))))) :
    kGo xs Lx (d + 1) 135 0 [some (.ref 299), some (kI a1), some (kI a2)] [] V Q := by
  refine g_aload_n 1 gq135 rfl rfl rfl ?_
  refine g_iload_n 2 gq135 rfl rfl rfl ?_
  refine g_bipush 4 gq135 rfl rfl rfl ?_
  have c3 := h.1
  replace h := h.2
  refine g_icmp_ne 11 7 gq135 rfl rfl rfl c3 (by omega) (fun c => ?_) (fun c => ?_)
  · replace h := h.1 c
    refine g_iload_n 12 gq135 rfl rfl rfl ?_
    refine g_bipush 14 gq135 rfl rfl rfl ?_
    refine g_icmp_ne 21 17 gq135 rfl rfl rfl c3 (by omega) (fun c => ?_) (fun c => ?_)
    · replace h := h.1 c
      refine g_iload_n 22 gq135 rfl rfl rfl ?_
      refine g_bipush 24 gq135 rfl rfl rfl ?_
      refine g_icmp_ne 32 27 gq135 rfl rfl rfl c3 (by omega) (fun c => ?_) (fun c => ?_)
      · replace h := h.1 c
        refine g_iconst 33 gq135 rfl rfl ?_
        refine g_iload_n 34 gq135 rfl rfl rfl ?_
        refine g_iconst 35 gq135 rfl rfl ?_
        refine g_lconst 36 0 gq135 rfl rfl rfl ?_
        refine g_virt 133 _ (i := 152) gq135 rfl rfl gq133 rfl rfl rfl rfl rfl rfl ?_
        refine g_aload_n 1 gq133 rfl rfl rfl ?_
        refine g_getA 4 302 gq133 rfl rfl rfl rfl rfl rfl rfl ?_
        refine g_aload_n 5 gq133 rfl rfl rfl ?_
        refine g_getI 8 gq133 rfl rfl rfl rfl rfl rfl ?_
        refine g_iload_n 9 gq133 rfl rfl rfl ?_
        have c25 := h.1
        replace h := h.2
        refine g_iast 10 gq133 rfl rfl rfl c25 ?_
        refine g_aload_n 11 gq133 rfl rfl rfl ?_
        refine g_getA 14 303 gq133 rfl rfl rfl rfl rfl rfl rfl ?_
        refine g_aload_n 15 gq133 rfl rfl rfl ?_
        refine g_getI 18 gq133 rfl rfl rfl rfl rfl rfl ?_
        refine g_iload_n 19 gq133 rfl rfl rfl ?_
        have c33 := h.1
        replace h := h.2
        refine g_iast 20 gq133 rfl rfl rfl c33 ?_
        refine g_aload_n 21 gq133 rfl rfl rfl ?_
        refine g_getA 24 304 gq133 rfl rfl rfl rfl rfl rfl rfl ?_
        refine g_aload_n 25 gq133 rfl rfl rfl ?_
        refine g_getI 28 gq133 rfl rfl rfl rfl rfl rfl ?_
        refine g_iload_n 29 gq133 rfl rfl rfl ?_
        have c41 := h.1
        replace h := h.2
        refine g_iast 30 gq133 rfl rfl rfl c41 ?_
        refine g_aload_n 31 gq133 rfl rfl rfl ?_
        refine g_getA 34 305 gq133 rfl rfl rfl rfl rfl rfl rfl ?_
        refine g_aload_n 35 gq133 rfl rfl rfl ?_
        refine g_getI 38 gq133 rfl rfl rfl rfl rfl rfl ?_
        refine g_lload 40 gq133 rfl rfl rfl ?_
        have c49 := h.1
        replace h := h.2
        refine g_last 41 gq133 rfl rfl rfl c49 ?_
        refine g_aload_n 42 gq133 rfl rfl rfl ?_
        refine g_dup 43 gq133 rfl rfl rfl ?_
        refine g_getI 46 gq133 rfl rfl rfl rfl rfl rfl ?_
        refine g_iconst 47 gq133 rfl rfl ?_
        refine g_iadd 48 gq133 rfl rfl ?_
        refine g_putI 51 gq133 rfl rfl rfl rfl rfl rfl rfl rfl ?_
        refine g_vret gq133 rfl rfl ?_
        refine g_iconst 40 gq135 rfl rfl ?_
        exact g_iret gq135 rfl rfl h
      · replace h := h.2 c
        refine g_bipush 29 gq135 rfl rfl rfl ?_
        refine g_goto 33 gq135 rfl rfl ?_
        refine g_iload_n 34 gq135 rfl rfl rfl ?_
        refine g_iconst 35 gq135 rfl rfl ?_
        refine g_lconst 36 0 gq135 rfl rfl rfl ?_
        refine g_virt 133 _ (i := 152) gq135 rfl rfl gq133 rfl rfl rfl rfl rfl rfl ?_
        refine g_aload_n 1 gq133 rfl rfl rfl ?_
        refine g_getA 4 302 gq133 rfl rfl rfl rfl rfl rfl rfl ?_
        refine g_aload_n 5 gq133 rfl rfl rfl ?_
        refine g_getI 8 gq133 rfl rfl rfl rfl rfl rfl ?_
        refine g_iload_n 9 gq133 rfl rfl rfl ?_
        have c73 := h.1
        replace h := h.2
        refine g_iast 10 gq133 rfl rfl rfl c73 ?_
        refine g_aload_n 11 gq133 rfl rfl rfl ?_
        refine g_getA 14 303 gq133 rfl rfl rfl rfl rfl rfl rfl ?_
        refine g_aload_n 15 gq133 rfl rfl rfl ?_
        refine g_getI 18 gq133 rfl rfl rfl rfl rfl rfl ?_
        refine g_iload_n 19 gq133 rfl rfl rfl ?_
        have c81 := h.1
        replace h := h.2
        refine g_iast 20 gq133 rfl rfl rfl c81 ?_
        refine g_aload_n 21 gq133 rfl rfl rfl ?_
        refine g_getA 24 304 gq133 rfl rfl rfl rfl rfl rfl rfl ?_
        refine g_aload_n 25 gq133 rfl rfl rfl ?_
        refine g_getI 28 gq133 rfl rfl rfl rfl rfl rfl ?_
        refine g_iload_n 29 gq133 rfl rfl rfl ?_
        have c89 := h.1
        replace h := h.2
        refine g_iast 30 gq133 rfl rfl rfl c89 ?_
        refine g_aload_n 31 gq133 rfl rfl rfl ?_
        refine g_getA 34 305 gq133 rfl rfl rfl rfl rfl rfl rfl ?_
        refine g_aload_n 35 gq133 rfl rfl rfl ?_
        refine g_getI 38 gq133 rfl rfl rfl rfl rfl rfl ?_
        refine g_lload 40 gq133 rfl rfl rfl ?_
        have c97 := h.1
        replace h := h.2
        refine g_last 41 gq133 rfl rfl rfl c97 ?_
        refine g_aload_n 42 gq133 rfl rfl rfl ?_
        refine g_dup 43 gq133 rfl rfl rfl ?_
        refine g_getI 46 gq133 rfl rfl rfl rfl rfl rfl ?_
        refine g_iconst 47 gq133 rfl rfl ?_
        refine g_iadd 48 gq133 rfl rfl ?_
        refine g_putI 51 gq133 rfl rfl rfl rfl rfl rfl rfl rfl ?_
        refine g_vret gq133 rfl rfl ?_
        refine g_iconst 40 gq135 rfl rfl ?_
        exact g_iret gq135 rfl rfl h
    · replace h := h.2 c
      refine g_iconst 18 gq135 rfl rfl ?_
      refine g_goto 33 gq135 rfl rfl ?_
      refine g_iload_n 34 gq135 rfl rfl rfl ?_
      refine g_iconst 35 gq135 rfl rfl ?_
      refine g_lconst 36 0 gq135 rfl rfl rfl ?_
      refine g_virt 133 _ (i := 152) gq135 rfl rfl gq133 rfl rfl rfl rfl rfl rfl ?_
      refine g_aload_n 1 gq133 rfl rfl rfl ?_
      refine g_getA 4 302 gq133 rfl rfl rfl rfl rfl rfl rfl ?_
      refine g_aload_n 5 gq133 rfl rfl rfl ?_
      refine g_getI 8 gq133 rfl rfl rfl rfl rfl rfl ?_
      refine g_iload_n 9 gq133 rfl rfl rfl ?_
      have c121 := h.1
      replace h := h.2
      refine g_iast 10 gq133 rfl rfl rfl c121 ?_
      refine g_aload_n 11 gq133 rfl rfl rfl ?_
      refine g_getA 14 303 gq133 rfl rfl rfl rfl rfl rfl rfl ?_
      refine g_aload_n 15 gq133 rfl rfl rfl ?_
      refine g_getI 18 gq133 rfl rfl rfl rfl rfl rfl ?_
      refine g_iload_n 19 gq133 rfl rfl rfl ?_
      have c129 := h.1
      replace h := h.2
      refine g_iast 20 gq133 rfl rfl rfl c129 ?_
      refine g_aload_n 21 gq133 rfl rfl rfl ?_
      refine g_getA 24 304 gq133 rfl rfl rfl rfl rfl rfl rfl ?_
      refine g_aload_n 25 gq133 rfl rfl rfl ?_
      refine g_getI 28 gq133 rfl rfl rfl rfl rfl rfl ?_
      refine g_iload_n 29 gq133 rfl rfl rfl ?_
      have c137 := h.1
      replace h := h.2
      refine g_iast 30 gq133 rfl rfl rfl c137 ?_
      refine g_aload_n 31 gq133 rfl rfl rfl ?_
      refine g_getA 34 305 gq133 rfl rfl rfl rfl rfl rfl rfl ?_
      refine g_aload_n 35 gq133 rfl rfl rfl ?_
      refine g_getI 38 gq133 rfl rfl rfl rfl rfl rfl ?_
      refine g_lload 40 gq133 rfl rfl rfl ?_
      have c145 := h.1
      replace h := h.2
      refine g_last 41 gq133 rfl rfl rfl c145 ?_
      refine g_aload_n 42 gq133 rfl rfl rfl ?_
      refine g_dup 43 gq133 rfl rfl rfl ?_
      refine g_getI 46 gq133 rfl rfl rfl rfl rfl rfl ?_
      refine g_iconst 47 gq133 rfl rfl ?_
      refine g_iadd 48 gq133 rfl rfl ?_
      refine g_putI 51 gq133 rfl rfl rfl rfl rfl rfl rfl rfl ?_
      refine g_vret gq133 rfl rfl ?_
      refine g_iconst 40 gq135 rfl rfl ?_
      exact g_iret gq135 rfl rfl h
  · replace h := h.2 c
    refine g_iconst 8 gq135 rfl rfl ?_
    refine g_goto 33 gq135 rfl rfl ?_
    refine g_iload_n 34 gq135 rfl rfl rfl ?_
    refine g_iconst 35 gq135 rfl rfl ?_
    refine g_lconst 36 0 gq135 rfl rfl rfl ?_
    refine g_virt 133 _ (i := 152) gq135 rfl rfl gq133 rfl rfl rfl rfl rfl rfl ?_
    refine g_aload_n 1 gq133 rfl rfl rfl ?_
    refine g_getA 4 302 gq133 rfl rfl rfl rfl rfl rfl rfl ?_
    refine g_aload_n 5 gq133 rfl rfl rfl ?_
    refine g_getI 8 gq133 rfl rfl rfl rfl rfl rfl ?_
    refine g_iload_n 9 gq133 rfl rfl rfl ?_
    have c169 := h.1
    replace h := h.2
    refine g_iast 10 gq133 rfl rfl rfl c169 ?_
    refine g_aload_n 11 gq133 rfl rfl rfl ?_
    refine g_getA 14 303 gq133 rfl rfl rfl rfl rfl rfl rfl ?_
    refine g_aload_n 15 gq133 rfl rfl rfl ?_
    refine g_getI 18 gq133 rfl rfl rfl rfl rfl rfl ?_
    refine g_iload_n 19 gq133 rfl rfl rfl ?_
    have c177 := h.1
    replace h := h.2
    refine g_iast 20 gq133 rfl rfl rfl c177 ?_
    refine g_aload_n 21 gq133 rfl rfl rfl ?_
    refine g_getA 24 304 gq133 rfl rfl rfl rfl rfl rfl rfl ?_
    refine g_aload_n 25 gq133 rfl rfl rfl ?_
    refine g_getI 28 gq133 rfl rfl rfl rfl rfl rfl ?_
    refine g_iload_n 29 gq133 rfl rfl rfl ?_
    have c185 := h.1
    replace h := h.2
    refine g_iast 30 gq133 rfl rfl rfl c185 ?_
    refine g_aload_n 31 gq133 rfl rfl rfl ?_
    refine g_getA 34 305 gq133 rfl rfl rfl rfl rfl rfl rfl ?_
    refine g_aload_n 35 gq133 rfl rfl rfl ?_
    refine g_getI 38 gq133 rfl rfl rfl rfl rfl rfl ?_
    refine g_lload 40 gq133 rfl rfl rfl ?_
    have c193 := h.1
    replace h := h.2
    refine g_last 41 gq133 rfl rfl rfl c193 ?_
    refine g_aload_n 42 gq133 rfl rfl rfl ?_
    refine g_dup 43 gq133 rfl rfl rfl ?_
    refine g_getI 46 gq133 rfl rfl rfl rfl rfl rfl ?_
    refine g_iconst 47 gq133 rfl rfl ?_
    refine g_iadd 48 gq133 rfl rfl ?_
    refine g_putI 51 gq133 rfl rfl rfl rfl rfl rfl rfl rfl ?_
    refine g_vret gq133 rfl rfl ?_
    refine g_iconst 40 gq135 rfl rfl ?_
    exact g_iret gq135 rfl rfl h
set_option maxRecDepth 10000 in
theorem b137_0 {xs : Nat → Int32} {Lx d : Nat} {V : km_V} {Q : Option Value → km_V → Prop} {a1 : Int} 
    (h : (kR (V 299 12)) ∧ (((V 299 12) ≤ 0 →
    (0 ≤ ((up V 299 12 a1) 299 11) ∧ ((up V 299 12 a1) 299 11) < (403 : Nat)) ∧ Q none (up (up V 299 12 a1) 299 13 ((up V 299 12 a1) 303 (Int.toNat ((up V 299 12 a1) 299 11))))) ∧
   (0 < (V 299 12) →
    Q none V))) :
    kGo xs Lx (d + 0) 137 0 [some (.ref 299), some (kI a1)] [] V Q := by
  refine g_aload_n 1 gq137 rfl rfl rfl ?_
  refine g_getI 4 gq137 rfl rfl rfl rfl rfl rfl ?_
  have c2 := h.1
  replace h := h.2
  refine g_if_le 8 7 gq137 rfl rfl rfl c2 (fun c => ?_) (fun c => ?_)
  · replace h := h.1 c
    refine g_aload_n 9 gq137 rfl rfl rfl ?_
    refine g_iload_n 10 gq137 rfl rfl rfl ?_
    refine g_putI 13 gq137 rfl rfl rfl rfl rfl rfl rfl rfl ?_
    refine g_aload_n 14 gq137 rfl rfl rfl ?_
    refine g_aload_n 15 gq137 rfl rfl rfl ?_
    refine g_getA 18 303 gq137 rfl rfl rfl rfl rfl rfl rfl ?_
    refine g_aload_n 19 gq137 rfl rfl rfl ?_
    refine g_getI 22 gq137 rfl rfl rfl rfl rfl rfl ?_
    have c14 := h.1
    replace h := h.2
    refine g_iald 23 gq137 rfl rfl rfl c14 ?_
    refine g_putI 26 gq137 rfl rfl rfl rfl rfl rfl rfl rfl ?_
    exact g_vret gq137 rfl rfl h
  · replace h := h.2 c
    exact g_vret gq137 rfl rfl h
set_option maxRecDepth 10000 in
theorem b138_0 {xs : Nat → Int32} {Lx d : Nat} {V : km_V} {Q : Option Value → km_V → Prop} {a1 a2 : Int} 
    (h : (0 ≤ a2 ∧ a2 < (403 : Nat)) ∧ (∀ z1 : Int, z1 = (V 303 (Int.toNat a2)) → (kR (V 299 12)) ∧ ((0 < (V 299 12) →
    Q none V) ∧
   ((V 299 12) ≤ 0 →
    (kR (V 299 14)) ∧ (((V 299 14) = 0 →
      Q none (up (up V 299 14 a1) 299 15 z1)) ∧
     ((V 299 14) ≠ 0 →
      (kR z1) ∧ (kR (V 299 15)) ∧ (((V 299 15) < z1 →
        Q none V) ∧
       (z1 ≤ (V 299 15) →
        ((z1 ≠ (V 299 15) →
          Q none (up (up V 299 14 a1) 299 15 z1)) ∧
         (z1 = (V 299 15) →
          (kR a1) ∧ ((a1 < (V 299 14) →
            Q none (up (up V 299 14 a1) 299 15 z1)) ∧
           ((V 299 14) ≤ a1 →
            Q none V)))))))))))) :
    kGo xs Lx (d + 0) 138 0 [some (.ref 299), some (kI a1), some (kI a2), none] [] V Q := by
  refine g_aload_n 1 gq138 rfl rfl rfl ?_
  refine g_getA 4 303 gq138 rfl rfl rfl rfl rfl rfl rfl ?_
  refine g_iload_n 5 gq138 rfl rfl rfl ?_
  have c3 := h.1
  replace h := h.2
  refine g_iald 6 gq138 rfl rfl rfl c3 ?_
  refine g_istore_n 7 gq138 rfl rfl rfl ?_
  replace h := h _ rfl
  refine g_aload_n 8 gq138 rfl rfl rfl ?_
  refine g_getI 11 gq138 rfl rfl rfl rfl rfl rfl ?_
  have c10 := h.1
  replace h := h.2
  refine g_if_gt 45 14 gq138 rfl rfl rfl c10 (fun c => ?_) (fun c => ?_)
  · replace h := h.1 c
    exact g_vret gq138 rfl rfl h
  · replace h := h.2 c
    refine g_aload_n 15 gq138 rfl rfl rfl ?_
    refine g_getI 18 gq138 rfl rfl rfl rfl rfl rfl ?_
    have c18 := h.1
    replace h := h.2
    refine g_if_eq 46 21 gq138 rfl rfl rfl c18 (fun c => ?_) (fun c => ?_)
    · replace h := h.1 c
      refine g_aload_n 47 gq138 rfl rfl rfl ?_
      refine g_iload_n 48 gq138 rfl rfl rfl ?_
      refine g_putI 51 gq138 rfl rfl rfl rfl rfl rfl rfl rfl ?_
      refine g_aload_n 52 gq138 rfl rfl rfl ?_
      refine g_iload_n 53 gq138 rfl rfl rfl ?_
      refine g_putI 56 gq138 rfl rfl rfl rfl rfl rfl rfl rfl ?_
      exact g_vret gq138 rfl rfl h
    · replace h := h.2 c
      refine g_iload_n 22 gq138 rfl rfl rfl ?_
      refine g_aload_n 23 gq138 rfl rfl rfl ?_
      refine g_getI 26 gq138 rfl rfl rfl rfl rfl rfl ?_
      have c33 := h.1
      replace h := h.2
      have c35 := h.1
      replace h := h.2
      refine g_icmp_gt 45 29 gq138 rfl rfl rfl c33 c35 (fun c => ?_) (fun c => ?_)
      · replace h := h.1 c
        exact g_vret gq138 rfl rfl h
      · replace h := h.2 c
        refine g_iload_n 30 gq138 rfl rfl rfl ?_
        refine g_aload_n 31 gq138 rfl rfl rfl ?_
        refine g_getI 34 gq138 rfl rfl rfl rfl rfl rfl ?_
        refine g_icmp_ne 46 37 gq138 rfl rfl rfl c33 c35 (fun c => ?_) (fun c => ?_)
        · replace h := h.1 c
          refine g_aload_n 47 gq138 rfl rfl rfl ?_
          refine g_iload_n 48 gq138 rfl rfl rfl ?_
          refine g_putI 51 gq138 rfl rfl rfl rfl rfl rfl rfl rfl ?_
          refine g_aload_n 52 gq138 rfl rfl rfl ?_
          refine g_iload_n 53 gq138 rfl rfl rfl ?_
          refine g_putI 56 gq138 rfl rfl rfl rfl rfl rfl rfl rfl ?_
          exact g_vret gq138 rfl rfl h
        · replace h := h.2 c
          refine g_iload_n 38 gq138 rfl rfl rfl ?_
          refine g_aload_n 39 gq138 rfl rfl rfl ?_
          refine g_getI 42 gq138 rfl rfl rfl rfl rfl rfl ?_
          have c57 := h.1
          replace h := h.2
          refine g_icmp_lt 46 45 gq138 rfl rfl rfl c57 c18 (fun c => ?_) (fun c => ?_)
          · replace h := h.1 c
            refine g_aload_n 47 gq138 rfl rfl rfl ?_
            refine g_iload_n 48 gq138 rfl rfl rfl ?_
            refine g_putI 51 gq138 rfl rfl rfl rfl rfl rfl rfl rfl ?_
            refine g_aload_n 52 gq138 rfl rfl rfl ?_
            refine g_iload_n 53 gq138 rfl rfl rfl ?_
            refine g_putI 56 gq138 rfl rfl rfl rfl rfl rfl rfl rfl ?_
            exact g_vret gq138 rfl rfl h
          · replace h := h.2 c
            exact g_vret gq138 rfl rfl h
set_option maxRecDepth 10000 in
theorem b139_0 {xs : Nat → Int32} {Lx d : Nat} {V : km_V} {Q : Option Value → km_V → Prop} 
    (h : (kR (V 299 11)) ∧ (((V 299 11) ≠ 400 →
    Q none (up V 299 11 ((V 299 11) + 1))) ∧
   ((V 299 11) = 400 →
    kCV xs Lx (d + 0) 137 2 [.ref 299, kI 2] V (fun W1 =>
    Q none W1)))) :
    kGo xs Lx (d + 1) 139 0 [some (.ref 299)] [] V Q := by
  refine g_aload_n 1 gq139 rfl rfl rfl ?_
  refine g_getI 4 gq139 rfl rfl rfl rfl rfl rfl ?_
  refine g_sipush 7 gq139 rfl rfl rfl ?_
  have c3 := h.1
  replace h := h.2
  refine g_icmp_ne 18 10 gq139 rfl rfl rfl c3 (by omega) (fun c => ?_) (fun c => ?_)
  · replace h := h.1 c
    refine g_aload_n 19 gq139 rfl rfl rfl ?_
    refine g_dup 20 gq139 rfl rfl rfl ?_
    refine g_getI 23 gq139 rfl rfl rfl rfl rfl rfl ?_
    refine g_iconst 24 gq139 rfl rfl ?_
    refine g_iadd 25 gq139 rfl rfl ?_
    refine g_putI 28 gq139 rfl rfl rfl rfl rfl rfl rfl rfl ?_
    exact g_vret gq139 rfl rfl h
  · replace h := h.2 c
    refine g_aload_n 11 gq139 rfl rfl rfl ?_
    refine g_iconst 12 gq139 rfl rfl ?_
    refine g_virt 137 _ (i := 182) gq139 rfl rfl gq137 rfl rfl rfl rfl rfl rfl ?_
    refine kGo.mono h (fun r W1 hr => ?_)
    obtain ⟨rfl, h⟩ := hr
    refine g_goto 28 gq139 rfl rfl ?_
    exact g_vret gq139 rfl rfl h
set_option maxRecDepth 10000 in
theorem b140_0 {xs : Nat → Int32} {Lx d : Nat} {V : km_V} {Q : Option Value → km_V → Prop} {a1 : Int} 
    (h : (kisC V a1) ∧ (kR (kis V a1)) ∧ (((kis V a1) = 0 →
    kCV xs Lx (d + 1) 137 2 [.ref 299, kI 1] V (fun W1 =>
    Q none W1)) ∧
   ((kis V a1) ≠ 0 →
    kCV xs Lx (d + 1) 139 1 [.ref 299] V (fun W2 =>
    Q none W2)))) :
    kGo xs Lx (d + 2) 140 0 [some (.ref 299), some (kI a1)] [] V Q := by
  refine g_aload_n 1 gq140 rfl rfl rfl ?_
  refine g_iload_n 2 gq140 rfl rfl rfl ?_
  have c2 := h.1
  replace h := h.2
  refine g_virt 136 _ (i := 185) gq140 rfl rfl gq136 rfl rfl rfl rfl rfl rfl ?_
  refine sp_is  c2 ?_
  have c6 := h.1
  replace h := h.2
  refine g_if_eq 15 8 gq140 rfl rfl rfl c6 (fun c => ?_) (fun c => ?_)
  · replace h := h.1 c
    refine g_aload_n 16 gq140 rfl rfl rfl ?_
    refine g_iconst 17 gq140 rfl rfl ?_
    refine g_virt 137 _ (i := 182) gq140 rfl rfl gq137 rfl rfl rfl rfl rfl rfl ?_
    refine kGo.mono h (fun r W1 hr => ?_)
    obtain ⟨rfl, h⟩ := hr
    exact g_vret gq140 rfl rfl h
  · replace h := h.2 c
    refine g_aload_n 9 gq140 rfl rfl rfl ?_
    refine g_virt 139 _ (i := 188) gq140 rfl rfl gq139 rfl rfl rfl rfl rfl rfl ?_
    refine kGo.mono h (fun r W2 hr => ?_)
    obtain ⟨rfl, h⟩ := hr
    refine g_goto 20 gq140 rfl rfl ?_
    exact g_vret gq140 rfl rfl h
set_option maxRecDepth 10000 in
theorem b141_0 {xs : Nat → Int32} {Lx d : Nat} {V : km_V} {Q : Option Value → km_V → Prop} 
    (h : kGo xs Lx (d + 5) 141 10 [some (.ref 299), some (kI 0)] [] (up V 299 4 (V 299 2)) Q) :
    kGo xs Lx (d + 5) 141 0 [some (.ref 299), none] [] V Q := by
  refine g_aload_n 1 gq141 rfl rfl rfl ?_
  refine g_aload_n 2 gq141 rfl rfl rfl ?_
  refine g_getI 5 gq141 rfl rfl rfl rfl rfl rfl ?_
  refine g_putI 8 gq141 rfl rfl rfl rfl rfl rfl rfl rfl ?_
  refine g_iconst 9 gq141 rfl rfl ?_
  refine g_istore_n 10 gq141 rfl rfl rfl ?_
  exact kGo.weak (km_Le.s (km_Le.s km_Le.nil)) h
set_option maxRecDepth 10000 in
theorem b141_10 {xs : Nat → Int32} {Lx d : Nat} {V : km_V} {Q : Option Value → km_V → Prop} {x1 : Int} 
    (h : (kR x1) ∧ (kR (V 299 4)) ∧ (((V 299 4) ≤ x1 →
    kCV xs Lx (d + 4) 134 8 [.ref 299] (up V 299 2 0) (fun W1 =>
    (kisC (up (up (up (up (up W1 299 11 0) 299 12 0) 299 14 0) 299 20 0) 299 21 0) 23) ∧ (kR (kis (up (up (up (up (up W1 299 11 0) 299 12 0) 299 14 0) 299 20 0) 299 21 0) 23)) ∧ (((kis (up (up (up (up (up W1 299 11 0) 299 12 0) 299 14 0) 299 20 0) 299 21 0) 23) = 0 →
      kGo xs Lx (d + 5) 141 86 [some (.ref 299), none] [] (up (up (up (up (up W1 299 11 0) 299 12 0) 299 14 0) 299 20 0) 299 21 0) Q) ∧
     ((kis (up (up (up (up (up W1 299 11 0) 299 12 0) 299 14 0) 299 20 0) 299 21 0) 23) ≠ 0 →
      kCV xs Lx (d + 4) 143 2 [.ref 299] (up (up (up (up (up W1 299 11 0) 299 12 0) 299 14 0) 299 20 0) 299 21 0) (fun W2 =>
      kGo xs Lx (d + 5) 141 110 [some (.ref 299), some (kI 0)] [] W2 Q))))) ∧
   (x1 < (V 299 4) →
    (0 ≤ x1 ∧ x1 < (2000 : Nat)) ∧ kGo xs Lx (d + 5) 141 10 [some (.ref 299), some (kI (x1 + 1))] [] (up V 301 (Int.toNat x1) (k8 (V 300 (Int.toNat x1)))) Q))) :
    kGo xs Lx (d + 5) 141 10 [some (.ref 299), some (kI x1)] [] V Q := by
  refine g_iload_n 11 gq141 rfl rfl rfl ?_
  refine g_aload_n 12 gq141 rfl rfl rfl ?_
  refine g_getI 15 gq141 rfl rfl rfl rfl rfl rfl ?_
  have c3 := h.1
  replace h := h.2
  have c5 := h.1
  replace h := h.2
  refine g_icmp_ge 36 18 gq141 rfl rfl rfl c3 c5 (fun c => ?_) (fun c => ?_)
  · replace h := h.1 c
    refine g_aload_n 37 gq141 rfl rfl rfl ?_
    refine g_iconst 38 gq141 rfl rfl ?_
    refine g_putI 41 gq141 rfl rfl rfl rfl rfl rfl rfl rfl ?_
    refine g_aload_n 42 gq141 rfl rfl rfl ?_
    refine g_virt 134 _ (i := 191) gq141 rfl rfl gq134 rfl rfl rfl rfl rfl rfl ?_
    refine kGo.mono h (fun r W1 hr => ?_)
    obtain ⟨rfl, h⟩ := hr
    refine g_aload_n 46 gq141 rfl rfl rfl ?_
    refine g_iconst 47 gq141 rfl rfl ?_
    refine g_putI 50 gq141 rfl rfl rfl rfl rfl rfl rfl rfl ?_
    refine g_aload_n 51 gq141 rfl rfl rfl ?_
    refine g_iconst 52 gq141 rfl rfl ?_
    refine g_putI 55 gq141 rfl rfl rfl rfl rfl rfl rfl rfl ?_
    refine g_aload_n 56 gq141 rfl rfl rfl ?_
    refine g_iconst 57 gq141 rfl rfl ?_
    refine g_putI 60 gq141 rfl rfl rfl rfl rfl rfl rfl rfl ?_
    refine g_aload_n 61 gq141 rfl rfl rfl ?_
    refine g_iconst 62 gq141 rfl rfl ?_
    refine g_putI 65 gq141 rfl rfl rfl rfl rfl rfl rfl rfl ?_
    refine g_aload_n 66 gq141 rfl rfl rfl ?_
    refine g_iconst 67 gq141 rfl rfl ?_
    refine g_putI 70 gq141 rfl rfl rfl rfl rfl rfl rfl rfl ?_
    refine g_aload_n 71 gq141 rfl rfl rfl ?_
    refine g_bipush 73 gq141 rfl rfl rfl ?_
    have c33 := h.1
    replace h := h.2
    refine g_virt 136 _ (i := 185) gq141 rfl rfl gq136 rfl rfl rfl rfl rfl rfl ?_
    refine sp_is  c33 ?_
    have c37 := h.1
    replace h := h.2
    refine g_if_eq 86 79 gq141 rfl rfl rfl c37 (fun c => ?_) (fun c => ?_)
    · replace h := h.1 c
      exact kGo.weak (km_Le.s (km_Le.n km_Le.nil)) h
    · replace h := h.2 c
      refine g_aload_n 80 gq141 rfl rfl rfl ?_
      refine g_virt 143 _ (i := 200) gq141 rfl rfl gq143 rfl rfl rfl rfl rfl rfl ?_
      refine kGo.mono h (fun r W2 hr => ?_)
      obtain ⟨rfl, h⟩ := hr
      refine g_goto 108 gq141 rfl rfl ?_
      refine g_iconst 109 gq141 rfl rfl ?_
      refine g_istore_n 110 gq141 rfl rfl rfl ?_
      exact kGo.weak (km_Le.s (km_Le.s km_Le.nil)) h
  · replace h := h.2 c
    refine g_aload_n 19 gq141 rfl rfl rfl ?_
    refine g_getA 22 301 gq141 rfl rfl rfl rfl rfl rfl rfl ?_
    refine g_iload_n 23 gq141 rfl rfl rfl ?_
    refine g_aload_n 24 gq141 rfl rfl rfl ?_
    refine g_getA 27 300 gq141 rfl rfl rfl rfl rfl rfl rfl ?_
    refine g_iload_n 28 gq141 rfl rfl rfl ?_
    have c58 := h.1
    replace h := h.2
    refine g_bald 29 gq141 rfl rfl rfl c58 ?_
    refine g_bast 30 gq141 rfl rfl rfl c58 ?_
    refine g_iinc 33 gq141 rfl rfl rfl rfl ?_
    refine g_goto 10 gq141 rfl rfl ?_
    exact kGo.weak (km_Le.s (km_Le.s km_Le.nil)) h
set_option maxRecDepth 10000 in
theorem b141_86 {xs : Nat → Int32} {Lx d : Nat} {V : km_V} {Q : Option Value → km_V → Prop} 
    (h : (kR (V 299 12)) ∧ (((V 299 12) ≠ 0 →
    kGo xs Lx (d + 5) 141 110 [some (.ref 299), some (kI 0)] [] V Q) ∧
   ((V 299 12) = 0 →
    (kisC V 0) ∧ (kR (kis V 0)) ∧ (((kis V 0) ≠ 0 →
      kGo xs Lx (d + 5) 141 110 [some (.ref 299), some (kI 0)] [] V Q) ∧
     ((kis V 0) = 0 →
      kCV xs Lx (d + 4) 144 1 [.ref 299] V (fun W1 =>
      kGo xs Lx (d + 5) 141 86 [some (.ref 299), none] [] W1 Q)))))) :
    kGo xs Lx (d + 5) 141 86 [some (.ref 299), none] [] V Q := by
  refine g_aload_n 87 gq141 rfl rfl rfl ?_
  refine g_getI 90 gq141 rfl rfl rfl rfl rfl rfl ?_
  have c2 := h.1
  replace h := h.2
  refine g_if_ne 108 93 gq141 rfl rfl rfl c2 (fun c => ?_) (fun c => ?_)
  · replace h := h.1 c
    refine g_iconst 109 gq141 rfl rfl ?_
    refine g_istore_n 110 gq141 rfl rfl rfl ?_
    exact kGo.weak (km_Le.s (km_Le.s km_Le.nil)) h
  · replace h := h.2 c
    refine g_aload_n 94 gq141 rfl rfl rfl ?_
    refine g_iconst 95 gq141 rfl rfl ?_
    have c12 := h.1
    replace h := h.2
    refine g_virt 136 _ (i := 185) gq141 rfl rfl gq136 rfl rfl rfl rfl rfl rfl ?_
    refine sp_is  c12 ?_
    have c16 := h.1
    replace h := h.2
    refine g_if_ne 108 101 gq141 rfl rfl rfl c16 (fun c => ?_) (fun c => ?_)
    · replace h := h.1 c
      refine g_iconst 109 gq141 rfl rfl ?_
      refine g_istore_n 110 gq141 rfl rfl rfl ?_
      exact kGo.weak (km_Le.s (km_Le.s km_Le.nil)) h
    · replace h := h.2 c
      refine g_aload_n 102 gq141 rfl rfl rfl ?_
      refine g_virt 144 _ (i := 203) gq141 rfl rfl gq144 rfl rfl rfl rfl rfl rfl ?_
      refine kGo.mono h (fun r W1 hr => ?_)
      obtain ⟨rfl, h⟩ := hr
      refine g_goto 86 gq141 rfl rfl ?_
      exact kGo.weak (km_Le.s (km_Le.n km_Le.nil)) h
set_option maxRecDepth 10000 in
theorem b141_110 {xs : Nat → Int32} {Lx d : Nat} {V : km_V} {Q : Option Value → km_V → Prop} {x1 : Int} 
    (h : (kR x1) ∧ ((78 ≤ x1 →
    (kR (V 299 12)) ∧ (((V 299 12) ≠ 0 →
      (((V 299 12) ≤ 0 →
        (kR (V 299 14)) ∧ (((V 299 14) ≤ 0 →
          (kR ((up V 299 16 (-1)) 299 12)) ∧ ((((up V 299 16 (-1)) 299 12) ≤ 0 →
            (kR ((up V 299 16 (-1)) 299 14)) ∧ ((((up V 299 16 (-1)) 299 14) ≤ 0 →
              kCV xs Lx (d + 4) 156 3 [.ref 308, .ref 307] (up V 299 16 (-1)) (fun W1 =>
              kGo xs Lx (d + 5) 141 215 [some (.ref 299), some (kI 0)] [] (up W1 299 39 0) Q)) ∧
             (0 < ((up V 299 16 (-1)) 299 14) →
              Q (some (kI ((up V 299 16 (-1)) 299 14))) (up V 299 16 (-1))))) ∧
           (0 < ((up V 299 16 (-1)) 299 12) →
            Q (some (kI ((up V 299 16 (-1)) 299 12))) (up V 299 16 (-1))))) ∧
         (0 < (V 299 14) →
          (kR ((up V 299 16 (V 299 15)) 299 12)) ∧ ((((up V 299 16 (V 299 15)) 299 12) ≤ 0 →
            (kR ((up V 299 16 (V 299 15)) 299 14)) ∧ ((((up V 299 16 (V 299 15)) 299 14) ≤ 0 →
              kCV xs Lx (d + 4) 156 3 [.ref 308, .ref 307] (up V 299 16 (V 299 15)) (fun W2 =>
              kGo xs Lx (d + 5) 141 215 [some (.ref 299), some (kI 0)] [] (up W2 299 39 0) Q)) ∧
             (0 < ((up V 299 16 (V 299 15)) 299 14) →
              Q (some (kI ((up V 299 16 (V 299 15)) 299 14))) (up V 299 16 (V 299 15))))) ∧
           (0 < ((up V 299 16 (V 299 15)) 299 12) →
            Q (some (kI ((up V 299 16 (V 299 15)) 299 12))) (up V 299 16 (V 299 15))))))) ∧
       (0 < (V 299 12) →
        (kR ((up V 299 16 (V 299 13)) 299 12)) ∧ ((((up V 299 16 (V 299 13)) 299 12) ≤ 0 →
          (kR ((up V 299 16 (V 299 13)) 299 14)) ∧ ((((up V 299 16 (V 299 13)) 299 14) ≤ 0 →
            kCV xs Lx (d + 4) 156 3 [.ref 308, .ref 307] (up V 299 16 (V 299 13)) (fun W3 =>
            kGo xs Lx (d + 5) 141 215 [some (.ref 299), some (kI 0)] [] (up W3 299 39 0) Q)) ∧
           (0 < ((up V 299 16 (V 299 13)) 299 14) →
            Q (some (kI ((up V 299 16 (V 299 13)) 299 14))) (up V 299 16 (V 299 13))))) ∧
         (0 < ((up V 299 16 (V 299 13)) 299 12) →
          Q (some (kI ((up V 299 16 (V 299 13)) 299 12))) (up V 299 16 (V 299 13))))))) ∧
     ((V 299 12) = 0 →
      kCV xs Lx (d + 4) 147 1 [.ref 299] V (fun W4 =>
      (kR (W4 299 12)) ∧ (((W4 299 12) ≤ 0 →
        (kR (W4 299 14)) ∧ (((W4 299 14) ≤ 0 →
          (kR ((up W4 299 16 (-1)) 299 12)) ∧ ((((up W4 299 16 (-1)) 299 12) ≤ 0 →
            (kR ((up W4 299 16 (-1)) 299 14)) ∧ ((((up W4 299 16 (-1)) 299 14) ≤ 0 →
              kCV xs Lx (d + 4) 156 3 [.ref 308, .ref 307] (up W4 299 16 (-1)) (fun W5 =>
              kGo xs Lx (d + 5) 141 215 [some (.ref 299), some (kI 0)] [] (up W5 299 39 0) Q)) ∧
             (0 < ((up W4 299 16 (-1)) 299 14) →
              Q (some (kI ((up W4 299 16 (-1)) 299 14))) (up W4 299 16 (-1))))) ∧
           (0 < ((up W4 299 16 (-1)) 299 12) →
            Q (some (kI ((up W4 299 16 (-1)) 299 12))) (up W4 299 16 (-1))))) ∧
         (0 < (W4 299 14) →
          (kR ((up W4 299 16 (W4 299 15)) 299 12)) ∧ ((((up W4 299 16 (W4 299 15)) 299 12) ≤ 0 →
            (kR ((up W4 299 16 (W4 299 15)) 299 14)) ∧ ((((up W4 299 16 (W4 299 15)) 299 14) ≤ 0 →
              kCV xs Lx (d + 4) 156 3 [.ref 308, .ref 307] (up W4 299 16 (W4 299 15)) (fun W6 =>
              kGo xs Lx (d + 5) 141 215 [some (.ref 299), some (kI 0)] [] (up W6 299 39 0) Q)) ∧
             (0 < ((up W4 299 16 (W4 299 15)) 299 14) →
              Q (some (kI ((up W4 299 16 (W4 299 15)) 299 14))) (up W4 299 16 (W4 299 15))))) ∧
           (0 < ((up W4 299 16 (W4 299 15)) 299 12) →
            Q (some (kI ((up W4 299 16 (W4 299 15)) 299 12))) (up W4 299 16 (W4 299 15))))))) ∧
       (0 < (W4 299 12) →
        (kR ((up W4 299 16 (W4 299 13)) 299 12)) ∧ ((((up W4 299 16 (W4 299 13)) 299 12) ≤ 0 →
          (kR ((up W4 299 16 (W4 299 13)) 299 14)) ∧ ((((up W4 299 16 (W4 299 13)) 299 14) ≤ 0 →
            kCV xs Lx (d + 4) 156 3 [.ref 308, .ref 307] (up W4 299 16 (W4 299 13)) (fun W7 =>
            kGo xs Lx (d + 5) 141 215 [some (.ref 299), some (kI 0)] [] (up W7 299 39 0) Q)) ∧
           (0 < ((up W4 299 16 (W4 299 13)) 299 14) →
            Q (some (kI ((up W4 299 16 (W4 299 13)) 299 14))) (up W4 299 16 (W4 299 13))))) ∧
         (0 < ((up W4 299 16 (W4 299 13)) 299 12) →
          Q (some (kI ((up W4 299 16 (W4 299 13)) 299 12))) (up W4 299 16 (W4 299 13)))))))))) ∧
   (x1 < 78 →
    (0 ≤ x1 ∧ x1 < (78 : Nat)) ∧ kGo xs Lx (d + 5) 141 110 [some (.ref 299), some (kI (x1 + 1))] [] (up V 308 (Int.toNat x1) 0) Q))) :
    kGo xs Lx (d + 5) 141 110 [some (.ref 299), some (kI x1)] [] V Q := by
  refine g_iload_n 111 gq141 rfl rfl rfl ?_
  refine g_bipush 113 gq141 rfl rfl rfl ?_
  have c2 := h.1
  replace h := h.2
  refine g_icmp_ge 129 116 gq141 rfl rfl rfl c2 (by omega) (fun c => ?_) (fun c => ?_)
  · replace h := h.1 c
    refine g_aload_n 130 gq141 rfl rfl rfl ?_
    refine g_getI 133 gq141 rfl rfl rfl rfl rfl rfl ?_
    have c8 := h.1
    replace h := h.2
    refine g_if_ne 140 136 gq141 rfl rfl rfl c8 (fun c => ?_) (fun c => ?_)
    · replace h := h.1 c
      refine g_aload_n 141 gq141 rfl rfl rfl ?_
      refine g_aload_n 142 gq141 rfl rfl rfl ?_
      refine g_getI 145 gq141 rfl rfl rfl rfl rfl rfl ?_
      refine g_if_le 155 148 gq141 rfl rfl rfl c8 (fun c => ?_) (fun c => ?_)
      · replace h := h.1 c
        refine g_aload_n 156 gq141 rfl rfl rfl ?_
        refine g_getI 159 gq141 rfl rfl rfl rfl rfl rfl ?_
        have c19 := h.1
        replace h := h.2
        refine g_if_le 169 162 gq141 rfl rfl rfl c19 (fun c => ?_) (fun c => ?_)
        · replace h := h.1 c
          refine g_iconst 170 gq141 rfl rfl ?_
          refine g_putI 173 gq141 rfl rfl rfl rfl rfl rfl rfl rfl ?_
          refine g_aload_n 174 gq141 rfl rfl rfl ?_
          refine g_getI 177 gq141 rfl rfl rfl rfl rfl rfl ?_
          have c27 := h.1
          replace h := h.2
          refine g_if_le 185 180 gq141 rfl rfl rfl c27 (fun c => ?_) (fun c => ?_)
          · replace h := h.1 c
            refine g_aload_n 186 gq141 rfl rfl rfl ?_
            refine g_getI 189 gq141 rfl rfl rfl rfl rfl rfl ?_
            have c33 := h.1
            replace h := h.2
            refine g_if_le 197 192 gq141 rfl rfl rfl c33 (fun c => ?_) (fun c => ?_)
            · replace h := h.1 c
              refine g_aload_n 198 gq141 rfl rfl rfl ?_
              refine g_getA 201 308 gq141 rfl rfl rfl rfl rfl rfl rfl ?_
              refine g_aload_n 202 gq141 rfl rfl rfl ?_
              refine g_getA 205 307 gq141 rfl rfl rfl rfl rfl rfl rfl ?_
              refine g_static 156 _ (i := 209) gq141 rfl rfl gq156 rfl rfl rfl rfl ?_
              refine kGo.mono h (fun r W1 hr => ?_)
              obtain ⟨rfl, h⟩ := hr
              refine g_aload_n 209 gq141 rfl rfl rfl ?_
              refine g_iconst 210 gq141 rfl rfl ?_
              refine g_putI 213 gq141 rfl rfl rfl rfl rfl rfl rfl rfl ?_
              refine g_iconst 214 gq141 rfl rfl ?_
              refine g_istore_n 215 gq141 rfl rfl rfl ?_
              exact kGo.weak (km_Le.s (km_Le.s km_Le.nil)) h
            · replace h := h.2 c
              refine g_aload_n 193 gq141 rfl rfl rfl ?_
              refine g_getI 196 gq141 rfl rfl rfl rfl rfl rfl ?_
              exact g_iret gq141 rfl rfl h
          · replace h := h.2 c
            refine g_aload_n 181 gq141 rfl rfl rfl ?_
            refine g_getI 184 gq141 rfl rfl rfl rfl rfl rfl ?_
            exact g_iret gq141 rfl rfl h
        · replace h := h.2 c
          refine g_aload_n 163 gq141 rfl rfl rfl ?_
          refine g_getI 166 gq141 rfl rfl rfl rfl rfl rfl ?_
          refine g_goto 170 gq141 rfl rfl ?_
          refine g_putI 173 gq141 rfl rfl rfl rfl rfl rfl rfl rfl ?_
          refine g_aload_n 174 gq141 rfl rfl rfl ?_
          refine g_getI 177 gq141 rfl rfl rfl rfl rfl rfl ?_
          have c65 := h.1
          replace h := h.2
          refine g_if_le 185 180 gq141 rfl rfl rfl c65 (fun c => ?_) (fun c => ?_)
          · replace h := h.1 c
            refine g_aload_n 186 gq141 rfl rfl rfl ?_
            refine g_getI 189 gq141 rfl rfl rfl rfl rfl rfl ?_
            have c71 := h.1
            replace h := h.2
            refine g_if_le 197 192 gq141 rfl rfl rfl c71 (fun c => ?_) (fun c => ?_)
            · replace h := h.1 c
              refine g_aload_n 198 gq141 rfl rfl rfl ?_
              refine g_getA 201 308 gq141 rfl rfl rfl rfl rfl rfl rfl ?_
              refine g_aload_n 202 gq141 rfl rfl rfl ?_
              refine g_getA 205 307 gq141 rfl rfl rfl rfl rfl rfl rfl ?_
              refine g_static 156 _ (i := 209) gq141 rfl rfl gq156 rfl rfl rfl rfl ?_
              refine kGo.mono h (fun r W2 hr => ?_)
              obtain ⟨rfl, h⟩ := hr
              refine g_aload_n 209 gq141 rfl rfl rfl ?_
              refine g_iconst 210 gq141 rfl rfl ?_
              refine g_putI 213 gq141 rfl rfl rfl rfl rfl rfl rfl rfl ?_
              refine g_iconst 214 gq141 rfl rfl ?_
              refine g_istore_n 215 gq141 rfl rfl rfl ?_
              exact kGo.weak (km_Le.s (km_Le.s km_Le.nil)) h
            · replace h := h.2 c
              refine g_aload_n 193 gq141 rfl rfl rfl ?_
              refine g_getI 196 gq141 rfl rfl rfl rfl rfl rfl ?_
              exact g_iret gq141 rfl rfl h
          · replace h := h.2 c
            refine g_aload_n 181 gq141 rfl rfl rfl ?_
            refine g_getI 184 gq141 rfl rfl rfl rfl rfl rfl ?_
            exact g_iret gq141 rfl rfl h
      · replace h := h.2 c
        refine g_aload_n 149 gq141 rfl rfl rfl ?_
        refine g_getI 152 gq141 rfl rfl rfl rfl rfl rfl ?_
        refine g_goto 170 gq141 rfl rfl ?_
        refine g_putI 173 gq141 rfl rfl rfl rfl rfl rfl rfl rfl ?_
        refine g_aload_n 174 gq141 rfl rfl rfl ?_
        refine g_getI 177 gq141 rfl rfl rfl rfl rfl rfl ?_
        have c103 := h.1
        replace h := h.2
        refine g_if_le 185 180 gq141 rfl rfl rfl c103 (fun c => ?_) (fun c => ?_)
        · replace h := h.1 c
          refine g_aload_n 186 gq141 rfl rfl rfl ?_
          refine g_getI 189 gq141 rfl rfl rfl rfl rfl rfl ?_
          have c109 := h.1
          replace h := h.2
          refine g_if_le 197 192 gq141 rfl rfl rfl c109 (fun c => ?_) (fun c => ?_)
          · replace h := h.1 c
            refine g_aload_n 198 gq141 rfl rfl rfl ?_
            refine g_getA 201 308 gq141 rfl rfl rfl rfl rfl rfl rfl ?_
            refine g_aload_n 202 gq141 rfl rfl rfl ?_
            refine g_getA 205 307 gq141 rfl rfl rfl rfl rfl rfl rfl ?_
            refine g_static 156 _ (i := 209) gq141 rfl rfl gq156 rfl rfl rfl rfl ?_
            refine kGo.mono h (fun r W3 hr => ?_)
            obtain ⟨rfl, h⟩ := hr
            refine g_aload_n 209 gq141 rfl rfl rfl ?_
            refine g_iconst 210 gq141 rfl rfl ?_
            refine g_putI 213 gq141 rfl rfl rfl rfl rfl rfl rfl rfl ?_
            refine g_iconst 214 gq141 rfl rfl ?_
            refine g_istore_n 215 gq141 rfl rfl rfl ?_
            exact kGo.weak (km_Le.s (km_Le.s km_Le.nil)) h
          · replace h := h.2 c
            refine g_aload_n 193 gq141 rfl rfl rfl ?_
            refine g_getI 196 gq141 rfl rfl rfl rfl rfl rfl ?_
            exact g_iret gq141 rfl rfl h
        · replace h := h.2 c
          refine g_aload_n 181 gq141 rfl rfl rfl ?_
          refine g_getI 184 gq141 rfl rfl rfl rfl rfl rfl ?_
          exact g_iret gq141 rfl rfl h
    · replace h := h.2 c
      refine g_aload_n 137 gq141 rfl rfl rfl ?_
      refine g_virt 147 _ (i := 206) gq141 rfl rfl gq147 rfl rfl rfl rfl rfl rfl ?_
      refine kGo.mono h (fun r W4 hr => ?_)
      obtain ⟨rfl, h⟩ := hr
      refine g_aload_n 141 gq141 rfl rfl rfl ?_
      refine g_aload_n 142 gq141 rfl rfl rfl ?_
      refine g_getI 145 gq141 rfl rfl rfl rfl rfl rfl ?_
      have c142 := h.1
      replace h := h.2
      refine g_if_le 155 148 gq141 rfl rfl rfl c142 (fun c => ?_) (fun c => ?_)
      · replace h := h.1 c
        refine g_aload_n 156 gq141 rfl rfl rfl ?_
        refine g_getI 159 gq141 rfl rfl rfl rfl rfl rfl ?_
        have c148 := h.1
        replace h := h.2
        refine g_if_le 169 162 gq141 rfl rfl rfl c148 (fun c => ?_) (fun c => ?_)
        · replace h := h.1 c
          refine g_iconst 170 gq141 rfl rfl ?_
          refine g_putI 173 gq141 rfl rfl rfl rfl rfl rfl rfl rfl ?_
          refine g_aload_n 174 gq141 rfl rfl rfl ?_
          refine g_getI 177 gq141 rfl rfl rfl rfl rfl rfl ?_
          have c156 := h.1
          replace h := h.2
          refine g_if_le 185 180 gq141 rfl rfl rfl c156 (fun c => ?_) (fun c => ?_)
          · replace h := h.1 c
            refine g_aload_n 186 gq141 rfl rfl rfl ?_
            refine g_getI 189 gq141 rfl rfl rfl rfl rfl rfl ?_
            have c162 := h.1
            replace h := h.2
            refine g_if_le 197 192 gq141 rfl rfl rfl c162 (fun c => ?_) (fun c => ?_)
            · replace h := h.1 c
              refine g_aload_n 198 gq141 rfl rfl rfl ?_
              refine g_getA 201 308 gq141 rfl rfl rfl rfl rfl rfl rfl ?_
              refine g_aload_n 202 gq141 rfl rfl rfl ?_
              refine g_getA 205 307 gq141 rfl rfl rfl rfl rfl rfl rfl ?_
              refine g_static 156 _ (i := 209) gq141 rfl rfl gq156 rfl rfl rfl rfl ?_
              refine kGo.mono h (fun r W5 hr => ?_)
              obtain ⟨rfl, h⟩ := hr
              refine g_aload_n 209 gq141 rfl rfl rfl ?_
              refine g_iconst 210 gq141 rfl rfl ?_
              refine g_putI 213 gq141 rfl rfl rfl rfl rfl rfl rfl rfl ?_
              refine g_iconst 214 gq141 rfl rfl ?_
              refine g_istore_n 215 gq141 rfl rfl rfl ?_
              exact kGo.weak (km_Le.s (km_Le.s km_Le.nil)) h
            · replace h := h.2 c
              refine g_aload_n 193 gq141 rfl rfl rfl ?_
              refine g_getI 196 gq141 rfl rfl rfl rfl rfl rfl ?_
              exact g_iret gq141 rfl rfl h
          · replace h := h.2 c
            refine g_aload_n 181 gq141 rfl rfl rfl ?_
            refine g_getI 184 gq141 rfl rfl rfl rfl rfl rfl ?_
            exact g_iret gq141 rfl rfl h
        · replace h := h.2 c
          refine g_aload_n 163 gq141 rfl rfl rfl ?_
          refine g_getI 166 gq141 rfl rfl rfl rfl rfl rfl ?_
          refine g_goto 170 gq141 rfl rfl ?_
          refine g_putI 173 gq141 rfl rfl rfl rfl rfl rfl rfl rfl ?_
          refine g_aload_n 174 gq141 rfl rfl rfl ?_
          refine g_getI 177 gq141 rfl rfl rfl rfl rfl rfl ?_
          have c194 := h.1
          replace h := h.2
          refine g_if_le 185 180 gq141 rfl rfl rfl c194 (fun c => ?_) (fun c => ?_)
          · replace h := h.1 c
            refine g_aload_n 186 gq141 rfl rfl rfl ?_
            refine g_getI 189 gq141 rfl rfl rfl rfl rfl rfl ?_
            have c200 := h.1
            replace h := h.2
            refine g_if_le 197 192 gq141 rfl rfl rfl c200 (fun c => ?_) (fun c => ?_)
            · replace h := h.1 c
              refine g_aload_n 198 gq141 rfl rfl rfl ?_
              refine g_getA 201 308 gq141 rfl rfl rfl rfl rfl rfl rfl ?_
              refine g_aload_n 202 gq141 rfl rfl rfl ?_
              refine g_getA 205 307 gq141 rfl rfl rfl rfl rfl rfl rfl ?_
              refine g_static 156 _ (i := 209) gq141 rfl rfl gq156 rfl rfl rfl rfl ?_
              refine kGo.mono h (fun r W6 hr => ?_)
              obtain ⟨rfl, h⟩ := hr
              refine g_aload_n 209 gq141 rfl rfl rfl ?_
              refine g_iconst 210 gq141 rfl rfl ?_
              refine g_putI 213 gq141 rfl rfl rfl rfl rfl rfl rfl rfl ?_
              refine g_iconst 214 gq141 rfl rfl ?_
              refine g_istore_n 215 gq141 rfl rfl rfl ?_
              exact kGo.weak (km_Le.s (km_Le.s km_Le.nil)) h
            · replace h := h.2 c
              refine g_aload_n 193 gq141 rfl rfl rfl ?_
              refine g_getI 196 gq141 rfl rfl rfl rfl rfl rfl ?_
              exact g_iret gq141 rfl rfl h
          · replace h := h.2 c
            refine g_aload_n 181 gq141 rfl rfl rfl ?_
            refine g_getI 184 gq141 rfl rfl rfl rfl rfl rfl ?_
            exact g_iret gq141 rfl rfl h
      · replace h := h.2 c
        refine g_aload_n 149 gq141 rfl rfl rfl ?_
        refine g_getI 152 gq141 rfl rfl rfl rfl rfl rfl ?_
        refine g_goto 170 gq141 rfl rfl ?_
        refine g_putI 173 gq141 rfl rfl rfl rfl rfl rfl rfl rfl ?_
        refine g_aload_n 174 gq141 rfl rfl rfl ?_
        refine g_getI 177 gq141 rfl rfl rfl rfl rfl rfl ?_
        have c232 := h.1
        replace h := h.2
        refine g_if_le 185 180 gq141 rfl rfl rfl c232 (fun c => ?_) (fun c => ?_)
        · replace h := h.1 c
          refine g_aload_n 186 gq141 rfl rfl rfl ?_
          refine g_getI 189 gq141 rfl rfl rfl rfl rfl rfl ?_
          have c238 := h.1
          replace h := h.2
          refine g_if_le 197 192 gq141 rfl rfl rfl c238 (fun c => ?_) (fun c => ?_)
          · replace h := h.1 c
            refine g_aload_n 198 gq141 rfl rfl rfl ?_
            refine g_getA 201 308 gq141 rfl rfl rfl rfl rfl rfl rfl ?_
            refine g_aload_n 202 gq141 rfl rfl rfl ?_
            refine g_getA 205 307 gq141 rfl rfl rfl rfl rfl rfl rfl ?_
            refine g_static 156 _ (i := 209) gq141 rfl rfl gq156 rfl rfl rfl rfl ?_
            refine kGo.mono h (fun r W7 hr => ?_)
            obtain ⟨rfl, h⟩ := hr
            refine g_aload_n 209 gq141 rfl rfl rfl ?_
            refine g_iconst 210 gq141 rfl rfl ?_
            refine g_putI 213 gq141 rfl rfl rfl rfl rfl rfl rfl rfl ?_
            refine g_iconst 214 gq141 rfl rfl ?_
            refine g_istore_n 215 gq141 rfl rfl rfl ?_
            exact kGo.weak (km_Le.s (km_Le.s km_Le.nil)) h
          · replace h := h.2 c
            refine g_aload_n 193 gq141 rfl rfl rfl ?_
            refine g_getI 196 gq141 rfl rfl rfl rfl rfl rfl ?_
            exact g_iret gq141 rfl rfl h
        · replace h := h.2 c
          refine g_aload_n 181 gq141 rfl rfl rfl ?_
          refine g_getI 184 gq141 rfl rfl rfl rfl rfl rfl ?_
          exact g_iret gq141 rfl rfl h
  · replace h := h.2 c
    refine g_aload_n 117 gq141 rfl rfl rfl ?_
    refine g_getA 120 308 gq141 rfl rfl rfl rfl rfl rfl rfl ?_
    refine g_iload_n 121 gq141 rfl rfl rfl ?_
    refine g_iconst 122 gq141 rfl rfl ?_
    have c268 := h.1
    replace h := h.2
    refine g_iast 123 gq141 rfl rfl rfl c268 ?_
    refine g_iinc 126 gq141 rfl rfl rfl rfl ?_
    refine g_goto 110 gq141 rfl rfl ?_
    exact kGo.weak (km_Le.s (km_Le.s km_Le.nil)) h
set_option maxRecDepth 10000 in
theorem b141_215 {xs : Nat → Int32} {Lx d : Nat} {V : km_V} {Q : Option Value → km_V → Prop} {x1 : Int} 
    (h : (kR x1) ∧ ((3 ≤ x1 →
    Q (some (kI 0)) V) ∧
   (x1 < 3 →
    (0 ≤ x1 ∧ x1 < (3 : Nat)) ∧ kGo xs Lx (d + 5) 141 215 [some (.ref 299), some (kI (x1 + 1))] [] (up V 325 (Int.toNat x1) 0) Q))) :
    kGo xs Lx (d + 5) 141 215 [some (.ref 299), some (kI x1)] [] V Q := by
  refine g_iload_n 216 gq141 rfl rfl rfl ?_
  refine g_iconst 217 gq141 rfl rfl ?_
  have c2 := h.1
  replace h := h.2
  refine g_icmp_ge 233 220 gq141 rfl rfl rfl c2 (by omega) (fun c => ?_) (fun c => ?_)
  · replace h := h.1 c
    refine g_iconst 234 gq141 rfl rfl ?_
    exact g_iret gq141 rfl rfl h
  · replace h := h.2 c
    refine g_aload_n 221 gq141 rfl rfl rfl ?_
    refine g_getA 224 325 gq141 rfl rfl rfl rfl rfl rfl rfl ?_
    refine g_iload_n 225 gq141 rfl rfl rfl ?_
    refine g_iconst 226 gq141 rfl rfl ?_
    have c13 := h.1
    replace h := h.2
    refine g_zast 227 gq141 rfl rfl rfl c13 (by omega) ?_
    refine g_iinc 230 gq141 rfl rfl rfl rfl ?_
    refine g_goto 215 gq141 rfl rfl ?_
    exact kGo.weak (km_Le.s (km_Le.s km_Le.nil)) h
set_option maxRecDepth 10000 in
theorem b142_0 {xs : Nat → Int32} {Lx d : Nat} {V : km_V} {Q : Option Value → km_V → Prop} 
    (h : Q (some (kI (V 299 16))) V) :
    kGo xs Lx (d + 0) 142 0 [some (.ref 299)] [] V Q := by
  refine g_aload_n 1 gq142 rfl rfl rfl ?_
  refine g_getI 4 gq142 rfl rfl rfl rfl rfl rfl ?_
  exact g_iret gq142 rfl rfl h
set_option maxRecDepth 10000 in
theorem b143_0 {xs : Nat → Int32} {Lx d : Nat} {V : km_V} {Q : Option Value → km_V → Prop} 
    (h : kCV xs Lx (d + 2) 139 1 [.ref 299] V (fun W1 =>
  kCV xs Lx (d + 2) 140 2 [.ref 299, kI 2] W1 (fun W2 =>
  kGo xs Lx (d + 3) 143 11 [some (.ref 299), some (kI 0)] [] W2 Q))) :
    kGo xs Lx (d + 3) 143 0 [some (.ref 299), none] [] V Q := by
  refine g_aload_n 1 gq143 rfl rfl rfl ?_
  refine g_virt 139 _ (i := 188) gq143 rfl rfl gq139 rfl rfl rfl rfl rfl rfl ?_
  refine kGo.mono h (fun r W1 hr => ?_)
  obtain ⟨rfl, h⟩ := hr
  refine g_aload_n 5 gq143 rfl rfl rfl ?_
  refine g_iconst 6 gq143 rfl rfl ?_
  refine g_virt 140 _ (i := 216) gq143 rfl rfl gq140 rfl rfl rfl rfl rfl rfl ?_
  refine kGo.mono h (fun r W2 hr => ?_)
  obtain ⟨rfl, h⟩ := hr
  refine g_iconst 10 gq143 rfl rfl ?_
  refine g_istore_n 11 gq143 rfl rfl rfl ?_
  exact kGo.weak (km_Le.s (km_Le.s km_Le.nil)) h
set_option maxRecDepth 10000 in
theorem b143_11 {xs : Nat → Int32} {Lx d : Nat} {V : km_V} {Q : Option Value → km_V → Prop} {x1 : Int} 
    (h : (kisC V 2) ∧ (kR (kis V 2)) ∧ (((kis V 2) ≠ 0 →
    (kR x1) ∧ ((x1 ≠ 8 →
      (kisC V 6) ∧ (kR (kis V 6)) ∧ (((kis V 6) = 0 →
        kCV xs Lx (d + 2) 140 2 [.ref 299, kI 2] V (fun W1 =>
        kGo xs Lx (d + 3) 143 11 [some (.ref 299), some (kI (x1 + 1))] [] W1 Q)) ∧
       ((kis V 6) ≠ 0 →
        kCV xs Lx (d + 2) 139 1 [.ref 299] V (fun W2 =>
        kCV xs Lx (d + 2) 140 2 [.ref 299, kI 2] W2 (fun W3 =>
        kGo xs Lx (d + 3) 143 11 [some (.ref 299), some (kI (x1 + 1))] [] W3 Q))))) ∧
     (x1 = 8 →
      kCV xs Lx (d + 2) 137 2 [.ref 299, kI 2] V (fun W4 =>
      Q none W4)))) ∧
   ((kis V 2) = 0 →
    (kisC V 6) ∧ (kR (kis V 6)) ∧ (((kis V 6) = 0 →
      kCV xs Lx (d + 2) 140 2 [.ref 299, kI 4] V (fun W5 =>
      (kR (W5 299 12)) ∧ (((W5 299 12) ≠ 0 →
        Q none W5) ∧
       ((W5 299 12) = 0 →
        (kisC W5 0) ∧ (kR (kis W5 0)) ∧ (((kis W5 0) ≠ 0 →
          Q none W5) ∧
         ((kis W5 0) = 0 →
          kCV xs Lx (d + 2) 137 2 [.ref 299, kI 1] W5 (fun W6 =>
          Q none W6))))))) ∧
     ((kis V 6) ≠ 0 →
      (kR x1) ∧ ((x1 ≠ 8 →
        kCV xs Lx (d + 2) 139 1 [.ref 299] V (fun W7 =>
        kCV xs Lx (d + 2) 140 2 [.ref 299, kI 2] W7 (fun W8 =>
        kGo xs Lx (d + 3) 143 11 [some (.ref 299), some (kI (x1 + 1))] [] W8 Q))) ∧
       (x1 = 8 →
        kCV xs Lx (d + 2) 137 2 [.ref 299, kI 2] V (fun W9 =>
        Q none W9)))))))) :
    kGo xs Lx (d + 3) 143 11 [some (.ref 299), some (kI x1)] [] V Q := by
  refine g_aload_n 12 gq143 rfl rfl rfl ?_
  refine g_iconst 13 gq143 rfl rfl ?_
  have c2 := h.1
  replace h := h.2
  refine g_virt 136 _ (i := 185) gq143 rfl rfl gq136 rfl rfl rfl rfl rfl rfl ?_
  refine sp_is  c2 ?_
  have c6 := h.1
  replace h := h.2
  refine g_if_ne 28 19 gq143 rfl rfl rfl c6 (fun c => ?_) (fun c => ?_)
  · replace h := h.1 c
    refine g_iload_n 29 gq143 rfl rfl rfl ?_
    refine g_bipush 31 gq143 rfl rfl rfl ?_
    have c12 := h.1
    replace h := h.2
    refine g_icmp_ne 40 34 gq143 rfl rfl rfl c12 (by omega) (fun c => ?_) (fun c => ?_)
    · replace h := h.1 c
      refine g_aload_n 41 gq143 rfl rfl rfl ?_
      refine g_bipush 43 gq143 rfl rfl rfl ?_
      have c18 := h.1
      replace h := h.2
      refine g_virt 136 _ (i := 185) gq143 rfl rfl gq136 rfl rfl rfl rfl rfl rfl ?_
      refine sp_is  c18 ?_
      have c22 := h.1
      replace h := h.2
      refine g_if_eq 53 49 gq143 rfl rfl rfl c22 (fun c => ?_) (fun c => ?_)
      · replace h := h.1 c
        refine g_aload_n 54 gq143 rfl rfl rfl ?_
        refine g_iconst 55 gq143 rfl rfl ?_
        refine g_virt 140 _ (i := 216) gq143 rfl rfl gq140 rfl rfl rfl rfl rfl rfl ?_
        refine kGo.mono h (fun r W1 hr => ?_)
        obtain ⟨rfl, h⟩ := hr
        refine g_iinc 61 gq143 rfl rfl rfl rfl ?_
        refine g_goto 11 gq143 rfl rfl ?_
        exact kGo.weak (km_Le.s (km_Le.s km_Le.nil)) h
      · replace h := h.2 c
        refine g_aload_n 50 gq143 rfl rfl rfl ?_
        refine g_virt 139 _ (i := 188) gq143 rfl rfl gq139 rfl rfl rfl rfl rfl rfl ?_
        refine kGo.mono h (fun r W2 hr => ?_)
        obtain ⟨rfl, h⟩ := hr
        refine g_aload_n 54 gq143 rfl rfl rfl ?_
        refine g_iconst 55 gq143 rfl rfl ?_
        refine g_virt 140 _ (i := 216) gq143 rfl rfl gq140 rfl rfl rfl rfl rfl rfl ?_
        refine kGo.mono h (fun r W3 hr => ?_)
        obtain ⟨rfl, h⟩ := hr
        refine g_iinc 61 gq143 rfl rfl rfl rfl ?_
        refine g_goto 11 gq143 rfl rfl ?_
        exact kGo.weak (km_Le.s (km_Le.s km_Le.nil)) h
    · replace h := h.2 c
      refine g_aload_n 35 gq143 rfl rfl rfl ?_
      refine g_iconst 36 gq143 rfl rfl ?_
      refine g_virt 137 _ (i := 182) gq143 rfl rfl gq137 rfl rfl rfl rfl rfl rfl ?_
      refine kGo.mono h (fun r W4 hr => ?_)
      obtain ⟨rfl, h⟩ := hr
      exact g_vret gq143 rfl rfl h
  · replace h := h.2 c
    refine g_aload_n 20 gq143 rfl rfl rfl ?_
    refine g_bipush 22 gq143 rfl rfl rfl ?_
    have c57 := h.1
    replace h := h.2
    refine g_virt 136 _ (i := 185) gq143 rfl rfl gq136 rfl rfl rfl rfl rfl rfl ?_
    refine sp_is  c57 ?_
    have c61 := h.1
    replace h := h.2
    refine g_if_eq 64 28 gq143 rfl rfl rfl c61 (fun c => ?_) (fun c => ?_)
    · replace h := h.1 c
      refine g_aload_n 65 gq143 rfl rfl rfl ?_
      refine g_iconst 66 gq143 rfl rfl ?_
      refine g_virt 140 _ (i := 216) gq143 rfl rfl gq140 rfl rfl rfl rfl rfl rfl ?_
      refine kGo.mono h (fun r W5 hr => ?_)
      obtain ⟨rfl, h⟩ := hr
      refine g_aload_n 70 gq143 rfl rfl rfl ?_
      refine g_getI 73 gq143 rfl rfl rfl rfl rfl rfl ?_
      have c72 := h.1
      replace h := h.2
      refine g_if_ne 89 76 gq143 rfl rfl rfl c72 (fun c => ?_) (fun c => ?_)
      · replace h := h.1 c
        exact g_vret gq143 rfl rfl h
      · replace h := h.2 c
        refine g_aload_n 77 gq143 rfl rfl rfl ?_
        refine g_iconst 78 gq143 rfl rfl ?_
        have c80 := h.1
        replace h := h.2
        refine g_virt 136 _ (i := 185) gq143 rfl rfl gq136 rfl rfl rfl rfl rfl rfl ?_
        refine sp_is  c80 ?_
        have c84 := h.1
        replace h := h.2
        refine g_if_ne 89 84 gq143 rfl rfl rfl c84 (fun c => ?_) (fun c => ?_)
        · replace h := h.1 c
          exact g_vret gq143 rfl rfl h
        · replace h := h.2 c
          refine g_aload_n 85 gq143 rfl rfl rfl ?_
          refine g_iconst 86 gq143 rfl rfl ?_
          refine g_virt 137 _ (i := 182) gq143 rfl rfl gq137 rfl rfl rfl rfl rfl rfl ?_
          refine kGo.mono h (fun r W6 hr => ?_)
          obtain ⟨rfl, h⟩ := hr
          exact g_vret gq143 rfl rfl h
    · replace h := h.2 c
      refine g_iload_n 29 gq143 rfl rfl rfl ?_
      refine g_bipush 31 gq143 rfl rfl rfl ?_
      have c99 := h.1
      replace h := h.2
      refine g_icmp_ne 40 34 gq143 rfl rfl rfl c99 (by omega) (fun c => ?_) (fun c => ?_)
      · replace h := h.1 c
        refine g_aload_n 41 gq143 rfl rfl rfl ?_
        refine g_bipush 43 gq143 rfl rfl rfl ?_
        refine g_virt 136 _ (i := 185) gq143 rfl rfl gq136 rfl rfl rfl rfl rfl rfl ?_
        refine sp_is  c57 ?_
        refine g_if_eq 53 49 gq143 rfl rfl rfl c61 (fun c => ?_) (fun c => ?_)
        · exfalso; omega
        refine g_aload_n 50 gq143 rfl rfl rfl ?_
        refine g_virt 139 _ (i := 188) gq143 rfl rfl gq139 rfl rfl rfl rfl rfl rfl ?_
        refine kGo.mono h (fun r W7 hr => ?_)
        obtain ⟨rfl, h⟩ := hr
        refine g_aload_n 54 gq143 rfl rfl rfl ?_
        refine g_iconst 55 gq143 rfl rfl ?_
        refine g_virt 140 _ (i := 216) gq143 rfl rfl gq140 rfl rfl rfl rfl rfl rfl ?_
        refine kGo.mono h (fun r W8 hr => ?_)
        obtain ⟨rfl, h⟩ := hr
        refine g_iinc 61 gq143 rfl rfl rfl rfl ?_
        refine g_goto 11 gq143 rfl rfl ?_
        exact kGo.weak (km_Le.s (km_Le.s km_Le.nil)) h
      · replace h := h.2 c
        refine g_aload_n 35 gq143 rfl rfl rfl ?_
        refine g_iconst 36 gq143 rfl rfl ?_
        refine g_virt 137 _ (i := 182) gq143 rfl rfl gq137 rfl rfl rfl rfl rfl rfl ?_
        refine kGo.mono h (fun r W9 hr => ?_)
        obtain ⟨rfl, h⟩ := hr
        exact g_vret gq143 rfl rfl h
set_option maxRecDepth 10000 in
theorem b144_0 {xs : Nat → Int32} {Lx d : Nat} {V : km_V} {Q : Option Value → km_V → Prop} 
    (h : (kisC V 20) ∧ (kR (kis V 20)) ∧ (((kis V 20) ≠ 0 →
    (kR (V 299 21)) ∧ (((V 299 21) ≠ 4 →
      kCV xs Lx (d + 2) 139 1 [.ref 299] (up V 299 21 ((V 299 21) + 1)) (fun W1 =>
      kGo xs Lx (d + 3) 144 43 [some (.ref 299)] [] W1 Q)) ∧
     ((V 299 21) = 4 →
      kCV xs Lx (d + 2) 137 2 [.ref 299, kI 2] V (fun W2 =>
      Q none W2)))) ∧
   ((kis V 20) = 0 →
    kCV xs Lx (d + 2) 137 2 [.ref 299, kI 1] V (fun W3 =>
    Q none W3)))) :
    kGo xs Lx (d + 3) 144 0 [some (.ref 299)] [] V Q := by
  refine g_aload_n 1 gq144 rfl rfl rfl ?_
  refine g_bipush 3 gq144 rfl rfl rfl ?_
  have c2 := h.1
  replace h := h.2
  refine g_virt 136 _ (i := 185) gq144 rfl rfl gq136 rfl rfl rfl rfl rfl rfl ?_
  refine sp_is  c2 ?_
  have c6 := h.1
  replace h := h.2
  refine g_if_ne 15 9 gq144 rfl rfl rfl c6 (fun c => ?_) (fun c => ?_)
  · replace h := h.1 c
    refine g_aload_n 16 gq144 rfl rfl rfl ?_
    refine g_getI 19 gq144 rfl rfl rfl rfl rfl rfl ?_
    refine g_iconst 20 gq144 rfl rfl ?_
    have c13 := h.1
    replace h := h.2
    refine g_icmp_ne 29 23 gq144 rfl rfl rfl c13 (by omega) (fun c => ?_) (fun c => ?_)
    · replace h := h.1 c
      refine g_aload_n 30 gq144 rfl rfl rfl ?_
      refine g_dup 31 gq144 rfl rfl rfl ?_
      refine g_getI 34 gq144 rfl rfl rfl rfl rfl rfl ?_
      refine g_iconst 35 gq144 rfl rfl ?_
      refine g_iadd 36 gq144 rfl rfl ?_
      refine g_putI 39 gq144 rfl rfl rfl rfl rfl rfl rfl rfl ?_
      refine g_aload_n 40 gq144 rfl rfl rfl ?_
      refine g_virt 139 _ (i := 188) gq144 rfl rfl gq139 rfl rfl rfl rfl rfl rfl ?_
      refine kGo.mono h (fun r W1 hr => ?_)
      obtain ⟨rfl, h⟩ := hr
      exact kGo.weak (km_Le.s km_Le.nil) h
    · replace h := h.2 c
      refine g_aload_n 24 gq144 rfl rfl rfl ?_
      refine g_iconst 25 gq144 rfl rfl ?_
      refine g_virt 137 _ (i := 182) gq144 rfl rfl gq137 rfl rfl rfl rfl rfl rfl ?_
      refine kGo.mono h (fun r W2 hr => ?_)
      obtain ⟨rfl, h⟩ := hr
      exact g_vret gq144 rfl rfl h
  · replace h := h.2 c
    refine g_aload_n 10 gq144 rfl rfl rfl ?_
    refine g_iconst 11 gq144 rfl rfl ?_
    refine g_virt 137 _ (i := 182) gq144 rfl rfl gq137 rfl rfl rfl rfl rfl rfl ?_
    refine kGo.mono h (fun r W3 hr => ?_)
    obtain ⟨rfl, h⟩ := hr
    exact g_vret gq144 rfl rfl h
set_option maxRecDepth 10000 in
theorem b144_43 {xs : Nat → Int32} {Lx d : Nat} {V : km_V} {Q : Option Value → km_V → Prop} 
    (h : (kisC V 21) ∧ (kR (kis V 21)) ∧ (((kis V 21) ≠ 0 →
    kCV xs Lx (d + 2) 139 1 [.ref 299] V (fun W1 =>
    (kisC W1 2) ∧ (kR (kis W1 2)) ∧ (((kis W1 2) = 0 →
      kCV xs Lx (d + 2) 140 2 [.ref 299, kI 2] W1 (fun W2 =>
      (kisC W2 5) ∧ (kR (kis W2 5)) ∧ (((kis W2 5) ≠ 0 →
        kCV xs Lx (d + 2) 139 1 [.ref 299] W2 (fun W3 =>
        kGo xs Lx (d + 3) 144 43 [some (.ref 299)] [] W3 Q)) ∧
       ((kis W2 5) = 0 →
        (kisC W2 6) ∧ (kR (kis W2 6)) ∧ (((kis W2 6) = 0 →
          kCV xs Lx (d + 2) 137 2 [.ref 299, kI 1] W2 (fun W4 =>
          kGo xs Lx (d + 3) 144 43 [some (.ref 299)] [] W4 Q)) ∧
         ((kis W2 6) ≠ 0 →
          kCV xs Lx (d + 2) 139 1 [.ref 299] W2 (fun W5 =>
          kGo xs Lx (d + 3) 144 43 [some (.ref 299)] [] W5 Q))))))) ∧
     ((kis W1 2) ≠ 0 →
      (0 ≤ (W1 299 11) ∧ (W1 299 11) < (403 : Nat)) ∧ kCV xs Lx (d + 2) 146 2 [.ref 299, kI (W1 304 (Int.toNat (W1 299 11)))] W1 (fun W6 =>
      kCV xs Lx (d + 2) 140 2 [.ref 299, kI 2] W6 (fun W7 =>
      (kisC W7 5) ∧ (kR (kis W7 5)) ∧ (((kis W7 5) ≠ 0 →
        kCV xs Lx (d + 2) 139 1 [.ref 299] W7 (fun W8 =>
        kGo xs Lx (d + 3) 144 43 [some (.ref 299)] [] W8 Q)) ∧
       ((kis W7 5) = 0 →
        (kisC W7 6) ∧ (kR (kis W7 6)) ∧ (((kis W7 6) = 0 →
          kCV xs Lx (d + 2) 137 2 [.ref 299, kI 1] W7 (fun W9 =>
          kGo xs Lx (d + 3) 144 43 [some (.ref 299)] [] W9 Q)) ∧
         ((kis W7 6) ≠ 0 →
          kCV xs Lx (d + 2) 139 1 [.ref 299] W7 (fun W10 =>
          kGo xs Lx (d + 3) 144 43 [some (.ref 299)] [] W10 Q))))))))))) ∧
   ((kis V 21) = 0 →
    (kisC V 22) ∧ (kR (kis V 22)) ∧ (((kis V 22) = 0 →
      kCV xs Lx (d + 2) 140 2 [.ref 299, kI 4] V (fun W11 =>
      Q none W11)) ∧
     ((kis V 22) ≠ 0 →
      kCV xs Lx (d + 2) 139 1 [.ref 299] V (fun W12 =>
      (kisC W12 2) ∧ (kR (kis W12 2)) ∧ (((kis W12 2) = 0 →
        kCV xs Lx (d + 2) 140 2 [.ref 299, kI 2] W12 (fun W13 =>
        (kisC W13 5) ∧ (kR (kis W13 5)) ∧ (((kis W13 5) ≠ 0 →
          kCV xs Lx (d + 2) 139 1 [.ref 299] W13 (fun W14 =>
          kGo xs Lx (d + 3) 144 43 [some (.ref 299)] [] W14 Q)) ∧
         ((kis W13 5) = 0 →
          (kisC W13 6) ∧ (kR (kis W13 6)) ∧ (((kis W13 6) = 0 →
            kCV xs Lx (d + 2) 137 2 [.ref 299, kI 1] W13 (fun W15 =>
            kGo xs Lx (d + 3) 144 43 [some (.ref 299)] [] W15 Q)) ∧
           ((kis W13 6) ≠ 0 →
            kCV xs Lx (d + 2) 139 1 [.ref 299] W13 (fun W16 =>
            kGo xs Lx (d + 3) 144 43 [some (.ref 299)] [] W16 Q))))))) ∧
       ((kis W12 2) ≠ 0 →
        (0 ≤ (W12 299 11) ∧ (W12 299 11) < (403 : Nat)) ∧ kCV xs Lx (d + 2) 146 2 [.ref 299, kI (W12 304 (Int.toNat (W12 299 11)))] W12 (fun W17 =>
        kCV xs Lx (d + 2) 140 2 [.ref 299, kI 2] W17 (fun W18 =>
        (kisC W18 5) ∧ (kR (kis W18 5)) ∧ (((kis W18 5) ≠ 0 →
          kCV xs Lx (d + 2) 139 1 [.ref 299] W18 (fun W19 =>
          kGo xs Lx (d + 3) 144 43 [some (.ref 299)] [] W19 Q)) ∧
         ((kis W18 5) = 0 →
          (kisC W18 6) ∧ (kR (kis W18 6)) ∧ (((kis W18 6) = 0 →
            kCV xs Lx (d + 2) 137 2 [.ref 299, kI 1] W18 (fun W20 =>
            kGo xs Lx (d + 3) 144 43 [some (.ref 299)] [] W20 Q)) ∧
           ((kis W18 6) ≠ 0 →
            kCV xs Lx (d + 2) 139 1 [.ref 299] W18 (fun W21 =>
            kGo xs Lx (d + 3) 144 43 [some (.ref 299)] [] W21 Q))))))))))))))) :
    kGo xs Lx (d + 3) 144 43 [some (.ref 299)] [] V Q := by
  refine g_aload_n 44 gq144 rfl rfl rfl ?_
  refine g_bipush 46 gq144 rfl rfl rfl ?_
  have c2 := h.1
  replace h := h.2
  refine g_virt 136 _ (i := 185) gq144 rfl rfl gq136 rfl rfl rfl rfl rfl rfl ?_
  refine sp_is  c2 ?_
  have c6 := h.1
  replace h := h.2
  refine g_if_ne 61 52 gq144 rfl rfl rfl c6 (fun c => ?_) (fun c => ?_)
  · replace h := h.1 c
    refine g_aload_n 62 gq144 rfl rfl rfl ?_
    refine g_virt 139 _ (i := 188) gq144 rfl rfl gq139 rfl rfl rfl rfl rfl rfl ?_
    refine kGo.mono h (fun r W1 hr => ?_)
    obtain ⟨rfl, h⟩ := hr
    refine g_aload_n 66 gq144 rfl rfl rfl ?_
    refine g_iconst 67 gq144 rfl rfl ?_
    have c16 := h.1
    replace h := h.2
    refine g_virt 136 _ (i := 185) gq144 rfl rfl gq136 rfl rfl rfl rfl rfl rfl ?_
    refine sp_is  c16 ?_
    have c20 := h.1
    replace h := h.2
    refine g_if_eq 86 73 gq144 rfl rfl rfl c20 (fun c => ?_) (fun c => ?_)
    · replace h := h.1 c
      refine g_aload_n 87 gq144 rfl rfl rfl ?_
      refine g_iconst 88 gq144 rfl rfl ?_
      refine g_virt 140 _ (i := 216) gq144 rfl rfl gq140 rfl rfl rfl rfl rfl rfl ?_
      refine kGo.mono h (fun r W2 hr => ?_)
      obtain ⟨rfl, h⟩ := hr
      refine g_aload_n 92 gq144 rfl rfl rfl ?_
      refine g_iconst 93 gq144 rfl rfl ?_
      have c31 := h.1
      replace h := h.2
      refine g_virt 136 _ (i := 185) gq144 rfl rfl gq136 rfl rfl rfl rfl rfl rfl ?_
      refine sp_is  c31 ?_
      have c35 := h.1
      replace h := h.2
      refine g_if_ne 108 99 gq144 rfl rfl rfl c35 (fun c => ?_) (fun c => ?_)
      · replace h := h.1 c
        refine g_aload_n 109 gq144 rfl rfl rfl ?_
        refine g_virt 139 _ (i := 188) gq144 rfl rfl gq139 rfl rfl rfl rfl rfl rfl ?_
        refine kGo.mono h (fun r W3 hr => ?_)
        obtain ⟨rfl, h⟩ := hr
        refine g_goto 43 gq144 rfl rfl ?_
        exact kGo.weak (km_Le.s km_Le.nil) h
      · replace h := h.2 c
        refine g_aload_n 100 gq144 rfl rfl rfl ?_
        refine g_bipush 102 gq144 rfl rfl rfl ?_
        have c48 := h.1
        replace h := h.2
        refine g_virt 136 _ (i := 185) gq144 rfl rfl gq136 rfl rfl rfl rfl rfl rfl ?_
        refine sp_is  c48 ?_
        have c52 := h.1
        replace h := h.2
        refine g_if_eq 115 108 gq144 rfl rfl rfl c52 (fun c => ?_) (fun c => ?_)
        · replace h := h.1 c
          refine g_aload_n 116 gq144 rfl rfl rfl ?_
          refine g_iconst 117 gq144 rfl rfl ?_
          refine g_virt 137 _ (i := 182) gq144 rfl rfl gq137 rfl rfl rfl rfl rfl rfl ?_
          refine kGo.mono h (fun r W4 hr => ?_)
          obtain ⟨rfl, h⟩ := hr
          refine g_goto 43 gq144 rfl rfl ?_
          exact kGo.weak (km_Le.s km_Le.nil) h
        · replace h := h.2 c
          refine g_aload_n 109 gq144 rfl rfl rfl ?_
          refine g_virt 139 _ (i := 188) gq144 rfl rfl gq139 rfl rfl rfl rfl rfl rfl ?_
          refine kGo.mono h (fun r W5 hr => ?_)
          obtain ⟨rfl, h⟩ := hr
          refine g_goto 43 gq144 rfl rfl ?_
          exact kGo.weak (km_Le.s km_Le.nil) h
    · replace h := h.2 c
      refine g_aload_n 74 gq144 rfl rfl rfl ?_
      refine g_aload_n 75 gq144 rfl rfl rfl ?_
      refine g_getA 78 304 gq144 rfl rfl rfl rfl rfl rfl rfl ?_
      refine g_aload_n 79 gq144 rfl rfl rfl ?_
      refine g_getI 82 gq144 rfl rfl rfl rfl rfl rfl ?_
      have c76 := h.1
      replace h := h.2
      refine g_iald 83 gq144 rfl rfl rfl c76 ?_
      refine g_virt 146 _ (i := 219) gq144 rfl rfl gq146 rfl rfl rfl rfl rfl rfl ?_
      refine kGo.mono h (fun r W6 hr => ?_)
      obtain ⟨rfl, h⟩ := hr
      refine g_aload_n 87 gq144 rfl rfl rfl ?_
      refine g_iconst 88 gq144 rfl rfl ?_
      refine g_virt 140 _ (i := 216) gq144 rfl rfl gq140 rfl rfl rfl rfl rfl rfl ?_
      refine kGo.mono h (fun r W7 hr => ?_)
      obtain ⟨rfl, h⟩ := hr
      refine g_aload_n 92 gq144 rfl rfl rfl ?_
      refine g_iconst 93 gq144 rfl rfl ?_
      have c89 := h.1
      replace h := h.2
      refine g_virt 136 _ (i := 185) gq144 rfl rfl gq136 rfl rfl rfl rfl rfl rfl ?_
      refine sp_is  c89 ?_
      have c93 := h.1
      replace h := h.2
      refine g_if_ne 108 99 gq144 rfl rfl rfl c93 (fun c => ?_) (fun c => ?_)
      · replace h := h.1 c
        refine g_aload_n 109 gq144 rfl rfl rfl ?_
        refine g_virt 139 _ (i := 188) gq144 rfl rfl gq139 rfl rfl rfl rfl rfl rfl ?_
        refine kGo.mono h (fun r W8 hr => ?_)
        obtain ⟨rfl, h⟩ := hr
        refine g_goto 43 gq144 rfl rfl ?_
        exact kGo.weak (km_Le.s km_Le.nil) h
      · replace h := h.2 c
        refine g_aload_n 100 gq144 rfl rfl rfl ?_
        refine g_bipush 102 gq144 rfl rfl rfl ?_
        have c106 := h.1
        replace h := h.2
        refine g_virt 136 _ (i := 185) gq144 rfl rfl gq136 rfl rfl rfl rfl rfl rfl ?_
        refine sp_is  c106 ?_
        have c110 := h.1
        replace h := h.2
        refine g_if_eq 115 108 gq144 rfl rfl rfl c110 (fun c => ?_) (fun c => ?_)
        · replace h := h.1 c
          refine g_aload_n 116 gq144 rfl rfl rfl ?_
          refine g_iconst 117 gq144 rfl rfl ?_
          refine g_virt 137 _ (i := 182) gq144 rfl rfl gq137 rfl rfl rfl rfl rfl rfl ?_
          refine kGo.mono h (fun r W9 hr => ?_)
          obtain ⟨rfl, h⟩ := hr
          refine g_goto 43 gq144 rfl rfl ?_
          exact kGo.weak (km_Le.s km_Le.nil) h
        · replace h := h.2 c
          refine g_aload_n 109 gq144 rfl rfl rfl ?_
          refine g_virt 139 _ (i := 188) gq144 rfl rfl gq139 rfl rfl rfl rfl rfl rfl ?_
          refine kGo.mono h (fun r W10 hr => ?_)
          obtain ⟨rfl, h⟩ := hr
          refine g_goto 43 gq144 rfl rfl ?_
          exact kGo.weak (km_Le.s km_Le.nil) h
  · replace h := h.2 c
    refine g_aload_n 53 gq144 rfl rfl rfl ?_
    refine g_bipush 55 gq144 rfl rfl rfl ?_
    have c131 := h.1
    replace h := h.2
    refine g_virt 136 _ (i := 185) gq144 rfl rfl gq136 rfl rfl rfl rfl rfl rfl ?_
    refine sp_is  c131 ?_
    have c135 := h.1
    replace h := h.2
    refine g_if_eq 123 61 gq144 rfl rfl rfl c135 (fun c => ?_) (fun c => ?_)
    · replace h := h.1 c
      refine g_aload_n 124 gq144 rfl rfl rfl ?_
      refine g_iconst 125 gq144 rfl rfl ?_
      refine g_virt 140 _ (i := 216) gq144 rfl rfl gq140 rfl rfl rfl rfl rfl rfl ?_
      refine kGo.mono h (fun r W11 hr => ?_)
      obtain ⟨rfl, h⟩ := hr
      exact g_vret gq144 rfl rfl h
    · replace h := h.2 c
      refine g_aload_n 62 gq144 rfl rfl rfl ?_
      refine g_virt 139 _ (i := 188) gq144 rfl rfl gq139 rfl rfl rfl rfl rfl rfl ?_
      refine kGo.mono h (fun r W12 hr => ?_)
      obtain ⟨rfl, h⟩ := hr
      refine g_aload_n 66 gq144 rfl rfl rfl ?_
      refine g_iconst 67 gq144 rfl rfl ?_
      have c152 := h.1
      replace h := h.2
      refine g_virt 136 _ (i := 185) gq144 rfl rfl gq136 rfl rfl rfl rfl rfl rfl ?_
      refine sp_is  c152 ?_
      have c156 := h.1
      replace h := h.2
      refine g_if_eq 86 73 gq144 rfl rfl rfl c156 (fun c => ?_) (fun c => ?_)
      · replace h := h.1 c
        refine g_aload_n 87 gq144 rfl rfl rfl ?_
        refine g_iconst 88 gq144 rfl rfl ?_
        refine g_virt 140 _ (i := 216) gq144 rfl rfl gq140 rfl rfl rfl rfl rfl rfl ?_
        refine kGo.mono h (fun r W13 hr => ?_)
        obtain ⟨rfl, h⟩ := hr
        refine g_aload_n 92 gq144 rfl rfl rfl ?_
        refine g_iconst 93 gq144 rfl rfl ?_
        have c167 := h.1
        replace h := h.2
        refine g_virt 136 _ (i := 185) gq144 rfl rfl gq136 rfl rfl rfl rfl rfl rfl ?_
        refine sp_is  c167 ?_
        have c171 := h.1
        replace h := h.2
        refine g_if_ne 108 99 gq144 rfl rfl rfl c171 (fun c => ?_) (fun c => ?_)
        · replace h := h.1 c
          refine g_aload_n 109 gq144 rfl rfl rfl ?_
          refine g_virt 139 _ (i := 188) gq144 rfl rfl gq139 rfl rfl rfl rfl rfl rfl ?_
          refine kGo.mono h (fun r W14 hr => ?_)
          obtain ⟨rfl, h⟩ := hr
          refine g_goto 43 gq144 rfl rfl ?_
          exact kGo.weak (km_Le.s km_Le.nil) h
        · replace h := h.2 c
          refine g_aload_n 100 gq144 rfl rfl rfl ?_
          refine g_bipush 102 gq144 rfl rfl rfl ?_
          have c184 := h.1
          replace h := h.2
          refine g_virt 136 _ (i := 185) gq144 rfl rfl gq136 rfl rfl rfl rfl rfl rfl ?_
          refine sp_is  c184 ?_
          have c188 := h.1
          replace h := h.2
          refine g_if_eq 115 108 gq144 rfl rfl rfl c188 (fun c => ?_) (fun c => ?_)
          · replace h := h.1 c
            refine g_aload_n 116 gq144 rfl rfl rfl ?_
            refine g_iconst 117 gq144 rfl rfl ?_
            refine g_virt 137 _ (i := 182) gq144 rfl rfl gq137 rfl rfl rfl rfl rfl rfl ?_
            refine kGo.mono h (fun r W15 hr => ?_)
            obtain ⟨rfl, h⟩ := hr
            refine g_goto 43 gq144 rfl rfl ?_
            exact kGo.weak (km_Le.s km_Le.nil) h
          · replace h := h.2 c
            refine g_aload_n 109 gq144 rfl rfl rfl ?_
            refine g_virt 139 _ (i := 188) gq144 rfl rfl gq139 rfl rfl rfl rfl rfl rfl ?_
            refine kGo.mono h (fun r W16 hr => ?_)
            obtain ⟨rfl, h⟩ := hr
            refine g_goto 43 gq144 rfl rfl ?_
            exact kGo.weak (km_Le.s km_Le.nil) h
      · replace h := h.2 c
        refine g_aload_n 74 gq144 rfl rfl rfl ?_
        refine g_aload_n 75 gq144 rfl rfl rfl ?_
        refine g_getA 78 304 gq144 rfl rfl rfl rfl rfl rfl rfl ?_
        refine g_aload_n 79 gq144 rfl rfl rfl ?_
        refine g_getI 82 gq144 rfl rfl rfl rfl rfl rfl ?_
        have c212 := h.1
        replace h := h.2
        refine g_iald 83 gq144 rfl rfl rfl c212 ?_
        refine g_virt 146 _ (i := 219) gq144 rfl rfl gq146 rfl rfl rfl rfl rfl rfl ?_
        refine kGo.mono h (fun r W17 hr => ?_)
        obtain ⟨rfl, h⟩ := hr
        refine g_aload_n 87 gq144 rfl rfl rfl ?_
        refine g_iconst 88 gq144 rfl rfl ?_
        refine g_virt 140 _ (i := 216) gq144 rfl rfl gq140 rfl rfl rfl rfl rfl rfl ?_
        refine kGo.mono h (fun r W18 hr => ?_)
        obtain ⟨rfl, h⟩ := hr
        refine g_aload_n 92 gq144 rfl rfl rfl ?_
        refine g_iconst 93 gq144 rfl rfl ?_
        have c225 := h.1
        replace h := h.2
        refine g_virt 136 _ (i := 185) gq144 rfl rfl gq136 rfl rfl rfl rfl rfl rfl ?_
        refine sp_is  c225 ?_
        have c229 := h.1
        replace h := h.2
        refine g_if_ne 108 99 gq144 rfl rfl rfl c229 (fun c => ?_) (fun c => ?_)
        · replace h := h.1 c
          refine g_aload_n 109 gq144 rfl rfl rfl ?_
          refine g_virt 139 _ (i := 188) gq144 rfl rfl gq139 rfl rfl rfl rfl rfl rfl ?_
          refine kGo.mono h (fun r W19 hr => ?_)
          obtain ⟨rfl, h⟩ := hr
          refine g_goto 43 gq144 rfl rfl ?_
          exact kGo.weak (km_Le.s km_Le.nil) h
        · replace h := h.2 c
          refine g_aload_n 100 gq144 rfl rfl rfl ?_
          refine g_bipush 102 gq144 rfl rfl rfl ?_
          have c242 := h.1
          replace h := h.2
          refine g_virt 136 _ (i := 185) gq144 rfl rfl gq136 rfl rfl rfl rfl rfl rfl ?_
          refine sp_is  c242 ?_
          have c246 := h.1
          replace h := h.2
          refine g_if_eq 115 108 gq144 rfl rfl rfl c246 (fun c => ?_) (fun c => ?_)
          · replace h := h.1 c
            refine g_aload_n 116 gq144 rfl rfl rfl ?_
            refine g_iconst 117 gq144 rfl rfl ?_
            refine g_virt 137 _ (i := 182) gq144 rfl rfl gq137 rfl rfl rfl rfl rfl rfl ?_
            refine kGo.mono h (fun r W20 hr => ?_)
            obtain ⟨rfl, h⟩ := hr
            refine g_goto 43 gq144 rfl rfl ?_
            exact kGo.weak (km_Le.s km_Le.nil) h
          · replace h := h.2 c
            refine g_aload_n 109 gq144 rfl rfl rfl ?_
            refine g_virt 139 _ (i := 188) gq144 rfl rfl gq139 rfl rfl rfl rfl rfl rfl ?_
            refine kGo.mono h (fun r W21 hr => ?_)
            obtain ⟨rfl, h⟩ := hr
            refine g_goto 43 gq144 rfl rfl ?_
            exact kGo.weak (km_Le.s km_Le.nil) h
set_option maxRecDepth 10000 in
theorem b145_0 {xs : Nat → Int32} {Lx d : Nat} {V : km_V} {Q : Option Value → km_V → Prop} {a1 : Int} 
    (h : kGo xs Lx (d + 0) 145 2 [some (.ref 299), some (kI a1), some (kI 0)] [] V Q) :
    kGo xs Lx (d + 0) 145 0 [some (.ref 299), some (kI a1), none] [] V Q := by
  refine g_iconst 1 gq145 rfl rfl ?_
  refine g_istore_n 2 gq145 rfl rfl rfl ?_
  exact kGo.weak (km_Le.s (km_Le.s (km_Le.s km_Le.nil))) h
set_option maxRecDepth 10000 in
theorem b145_2 {xs : Nat → Int32} {Lx d : Nat} {V : km_V} {Q : Option Value → km_V → Prop} {x1 x2 : Int} 
    (h : (kR x2) ∧ (kR (V 299 20)) ∧ (((V 299 20) ≤ x2 →
    Q (some (kI (-1))) V) ∧
   (x2 < (V 299 20) →
    (0 ≤ x2 ∧ x2 < (8 : Nat)) ∧ (kR (V 309 (Int.toNat x2))) ∧ (kR x1) ∧ (((V 309 (Int.toNat x2)) ≠ x1 →
      kGo xs Lx (d + 0) 145 2 [some (.ref 299), some (kI x1), some (kI (x2 + 1))] [] V Q) ∧
     ((V 309 (Int.toNat x2)) = x1 →
      Q (some (kI x2)) V))))) :
    kGo xs Lx (d + 0) 145 2 [some (.ref 299), some (kI x1), some (kI x2)] [] V Q := by
  refine g_iload_n 3 gq145 rfl rfl rfl ?_
  refine g_aload_n 4 gq145 rfl rfl rfl ?_
  refine g_getI 7 gq145 rfl rfl rfl rfl rfl rfl ?_
  have c3 := h.1
  replace h := h.2
  have c5 := h.1
  replace h := h.2
  refine g_icmp_ge 28 10 gq145 rfl rfl rfl c3 c5 (fun c => ?_) (fun c => ?_)
  · replace h := h.1 c
    refine g_iconst 29 gq145 rfl rfl ?_
    exact g_iret gq145 rfl rfl h
  · replace h := h.2 c
    refine g_aload_n 11 gq145 rfl rfl rfl ?_
    refine g_getA 14 309 gq145 rfl rfl rfl rfl rfl rfl rfl ?_
    refine g_iload_n 15 gq145 rfl rfl rfl ?_
    have c15 := h.1
    replace h := h.2
    refine g_iald 16 gq145 rfl rfl rfl c15 ?_
    refine g_iload_n 17 gq145 rfl rfl rfl ?_
    have c19 := h.1
    replace h := h.2
    have c21 := h.1
    replace h := h.2
    refine g_icmp_ne 22 20 gq145 rfl rfl rfl c19 c21 (fun c => ?_) (fun c => ?_)
    · replace h := h.1 c
      refine g_iinc 25 gq145 rfl rfl rfl rfl ?_
      refine g_goto 2 gq145 rfl rfl ?_
      exact kGo.weak (km_Le.s (km_Le.s (km_Le.s km_Le.nil))) h
    · replace h := h.2 c
      refine g_iload_n 21 gq145 rfl rfl rfl ?_
      exact g_iret gq145 rfl rfl h

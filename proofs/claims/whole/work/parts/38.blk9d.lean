set_option maxRecDepth 10000 in
theorem b195_0 {xs : Nat → Int32} {Lx d : Nat} {V : km_V} {Q : Option Value → km_V → Prop} {a1 : Int} 
    (h : (kR (V 307 (Int.toNat 0))) ∧ (((V 307 (Int.toNat 0)) = 0 →
    Q (some (kI (-1))) V) ∧
   ((V 307 (Int.toNat 0)) ≠ 0 →
    (0 ≤ (V 307 (Int.toNat 1)) ∧ (V 307 (Int.toNat 1)) < 32) ∧ (kR a1) ∧ (kR ((1 * ((2 ^ Int.toNat (V 307 (Int.toNat 1)) : Nat) : Int)) - 1)) ∧ (kR (kin a1 0 ((1 * ((2 ^ Int.toNat (V 307 (Int.toNat 1)) : Nat) : Int)) - 1))) ∧ (((kin a1 0 ((1 * ((2 ^ Int.toNat (V 307 (Int.toNat 1)) : Nat) : Int)) - 1)) ≠ 0 →
      kCV xs Lx (d + 1) 157 6 [.ref 299, .ref 307] V (fun W1 =>
      kCI xs Lx (d + 1) 194 7 [.ref 299, .ref 307, kI a1] W1 (fun y2 W2 =>
      Q (some (kI y2)) W2))) ∧
     ((kin a1 0 ((1 * ((2 ^ Int.toNat (V 307 (Int.toNat 1)) : Nat) : Int)) - 1)) = 0 →
      Q (some (kI (-1))) V))))) :
    kGo xs Lx (d + 2) 195 0 [some (.ref 299), some (kI a1)] [] V Q := by
  refine g_aload_n 1 gq195 rfl rfl rfl ?_
  refine g_getA 4 307 gq195 rfl rfl rfl rfl rfl rfl rfl ?_
  refine g_iconst 5 gq195 rfl rfl ?_
  refine g_iald 6 gq195 rfl rfl rfl (by omega) ?_
  have c4 := h.1
  replace h := h.2
  refine g_if_eq 27 9 gq195 rfl rfl rfl c4 (fun c => ?_) (fun c => ?_)
  · replace h := h.1 c
    refine g_iconst 28 gq195 rfl rfl ?_
    exact g_iret gq195 rfl rfl h
  · replace h := h.2 c
    refine g_iload_n 10 gq195 rfl rfl rfl ?_
    refine g_iconst 11 gq195 rfl rfl ?_
    refine g_iconst 12 gq195 rfl rfl ?_
    refine g_aload_n 13 gq195 rfl rfl rfl ?_
    refine g_getA 16 307 gq195 rfl rfl rfl rfl rfl rfl rfl ?_
    refine g_iconst 17 gq195 rfl rfl ?_
    refine g_iald 18 gq195 rfl rfl rfl (by omega) ?_
    have c18 := h.1
    replace h := h.2
    refine g_ishl 19 gq195 rfl rfl c18 ?_
    refine g_iconst 20 gq195 rfl rfl ?_
    refine g_isub 21 gq195 rfl rfl ?_
    have c23 := h.1
    replace h := h.2
    have c25 := h.1
    replace h := h.2
    refine g_static 153 _ (i := 246) gq195 rfl rfl gq153 rfl rfl rfl rfl ?_
    refine sp_in c23 (by omega) c25 ?_
    have c29 := h.1
    replace h := h.2
    refine g_if_ne 29 27 gq195 rfl rfl rfl c29 (fun c => ?_) (fun c => ?_)
    · replace h := h.1 c
      refine g_aload_n 30 gq195 rfl rfl rfl ?_
      refine g_aload_n 31 gq195 rfl rfl rfl ?_
      refine g_getA 34 307 gq195 rfl rfl rfl rfl rfl rfl rfl ?_
      refine g_virt 157 _ (i := 263) gq195 rfl rfl gq157 rfl rfl rfl rfl rfl rfl ?_
      refine kGo.mono h (fun r W1 hr => ?_)
      obtain ⟨rfl, h⟩ := hr
      refine g_aload_n 38 gq195 rfl rfl rfl ?_
      refine g_aload_n 39 gq195 rfl rfl rfl ?_
      refine g_getA 42 307 gq195 rfl rfl rfl rfl rfl rfl rfl ?_
      refine g_iload_n 43 gq195 rfl rfl rfl ?_
      refine g_virt 194 _ (i := 337) gq195 rfl rfl gq194 rfl rfl rfl rfl rfl rfl ?_
      refine kGo.mono h (fun r W2 hr => ?_)
      obtain ⟨y2, rfl, h⟩ := hr
      exact g_iret gq195 rfl rfl h
    · replace h := h.2 c
      refine g_iconst 28 gq195 rfl rfl ?_
      exact g_iret gq195 rfl rfl h
set_option maxRecDepth 10000 in
theorem b196_0 {xs : Nat → Int32} {Lx d : Nat} {V : km_V} {Q : Option Value → km_V → Prop} {r1 : Nat} (hr1 : km_sh[r1]? = some (11, 78))
    (h : kGo xs Lx (d + 2) 196 2 [some (.ref 299), some (.ref r1), some (kI 0), none, none] [] V Q) :
    kGo xs Lx (d + 2) 196 0 [some (.ref 299), some (.ref r1), none, none, none] [] V Q := by
  refine g_iconst 1 gq196 rfl rfl ?_
  refine g_istore_n 2 gq196 rfl rfl rfl ?_
  exact kGo.weak (km_Le.s (km_Le.s (km_Le.s (km_Le.n (km_Le.n km_Le.nil))))) h
set_option maxRecDepth 10000 in
theorem b196_2 {xs : Nat → Int32} {Lx d : Nat} {V : km_V} {Q : Option Value → km_V → Prop} {x2 : Int} {q1 : Nat} (hq1 : km_sh[q1]? = some (11, 78))
    (h : (kR x2) ∧ ((201 ≤ x2 →
    (kR (V q1 (Int.toNat 0))) ∧ (((V q1 (Int.toNat 0)) ≠ 0 →
      kCV xs Lx (d + 1) 157 6 [.ref 299, .ref q1] V (fun W1 =>
      kGo xs Lx (d + 2) 196 36 [some (.ref 299), some (.ref q1), some (kI 0), none, none] [] W1 Q)) ∧
     ((V q1 (Int.toNat 0)) = 0 →
      Q none V))) ∧
   (x2 < 201 →
    (0 ≤ x2 ∧ x2 < (201 : Nat)) ∧ kGo xs Lx (d + 2) 196 2 [some (.ref 299), some (.ref q1), some (kI (x2 + 1)), none, none] [] (up V 327 (Int.toNat x2) 0) Q))) :
    kGo xs Lx (d + 2) 196 2 [some (.ref 299), some (.ref q1), some (kI x2), none, none] [] V Q := by
  refine g_iload_n 3 gq196 rfl rfl rfl ?_
  refine g_sipush 6 gq196 rfl rfl rfl ?_
  have c2 := h.1
  replace h := h.2
  refine g_icmp_ge 22 9 gq196 rfl rfl rfl c2 (by omega) (fun c => ?_) (fun c => ?_)
  · replace h := h.1 c
    refine g_aload_n 23 gq196 rfl rfl rfl ?_
    refine g_iconst 24 gq196 rfl rfl ?_
    refine g_iald 25 gq196 rfl rfl hq1 (by omega) ?_
    have c9 := h.1
    replace h := h.2
    refine g_if_ne 29 28 gq196 rfl rfl rfl c9 (fun c => ?_) (fun c => ?_)
    · replace h := h.1 c
      refine g_aload_n 30 gq196 rfl rfl rfl ?_
      refine g_aload_n 31 gq196 rfl rfl rfl ?_
      refine g_virt 157 _ (i := 263) gq196 rfl rfl gq157 rfl rfl rfl rfl rfl rfl ?_
      refine kGo.mono h (fun r W1 hr => ?_)
      obtain ⟨rfl, h⟩ := hr
      refine g_iconst 35 gq196 rfl rfl ?_
      refine g_istore_n 36 gq196 rfl rfl rfl ?_
      exact kGo.weak (km_Le.s (km_Le.s (km_Le.s (km_Le.n (km_Le.n km_Le.nil))))) h
    · replace h := h.2 c
      exact g_vret gq196 rfl rfl h
  · replace h := h.2 c
    refine g_aload_n 10 gq196 rfl rfl rfl ?_
    refine g_getA 13 327 gq196 rfl rfl rfl rfl rfl rfl rfl ?_
    refine g_iload_n 14 gq196 rfl rfl rfl ?_
    refine g_iconst 15 gq196 rfl rfl ?_
    have c28 := h.1
    replace h := h.2
    refine g_iast 16 gq196 rfl rfl rfl c28 ?_
    refine g_iinc 19 gq196 rfl rfl rfl rfl ?_
    refine g_goto 2 gq196 rfl rfl ?_
    exact kGo.weak (km_Le.s (km_Le.s (km_Le.s (km_Le.n (km_Le.n km_Le.nil))))) h
set_option maxRecDepth 10000 in
theorem b196_36 {xs : Nat → Int32} {Lx d : Nat} {V : km_V} {Q : Option Value → km_V → Prop} {x2 : Int} {q1 : Nat} (hq1 : km_sh[q1]? = some (11, 78))
    (h : (0 ≤ (V q1 (Int.toNat 1)) ∧ (V q1 (Int.toNat 1)) < 32) ∧ (kR x2) ∧ (kR (1 * ((2 ^ Int.toNat (V q1 (Int.toNat 1)) : Nat) : Int))) ∧ (((1 * ((2 ^ Int.toNat (V q1 (Int.toNat 1)) : Nat) : Int)) ≤ x2 →
    Q none V) ∧
   (x2 < (1 * ((2 ^ Int.toNat (V q1 (Int.toNat 1)) : Nat) : Int)) →
    kGo xs Lx (d + 2) 196 47 [some (.ref 299), some (.ref q1), some (kI x2), some (kI 0), none] [] V Q))) :
    kGo xs Lx (d + 2) 196 36 [some (.ref 299), some (.ref q1), some (kI x2), none, none] [] V Q := by
  refine g_iload_n 37 gq196 rfl rfl rfl ?_
  refine g_iconst 38 gq196 rfl rfl ?_
  refine g_aload_n 39 gq196 rfl rfl rfl ?_
  refine g_iconst 40 gq196 rfl rfl ?_
  refine g_iald 41 gq196 rfl rfl hq1 (by omega) ?_
  have c5 := h.1
  replace h := h.2
  refine g_ishl 42 gq196 rfl rfl c5 ?_
  have c8 := h.1
  replace h := h.2
  have c10 := h.1
  replace h := h.2
  refine g_icmp_ge 152 45 gq196 rfl rfl rfl c8 c10 (fun c => ?_) (fun c => ?_)
  · replace h := h.1 c
    exact g_vret gq196 rfl rfl h
  · replace h := h.2 c
    refine g_iconst 46 gq196 rfl rfl ?_
    refine g_istore_n 47 gq196 rfl rfl rfl ?_
    exact kGo.weak (km_Le.s (km_Le.s (km_Le.s (km_Le.s (km_Le.n km_Le.nil))))) h
set_option maxRecDepth 10000 in
theorem b196_47 {xs : Nat → Int32} {Lx d : Nat} {V : km_V} {Q : Option Value → km_V → Prop} {x2 x3 : Int} {q1 : Nat} (hq1 : km_sh[q1]? = some (11, 78))
    (h : (kR x3) ∧ ((201 ≤ x3 →
    kCI xs Lx (d + 1) 155 3 [kI x2] V (fun y1 W1 =>
    (0 ≤ ((100 + (V q1 (Int.toNat 1))) - (2 * y1)) ∧ ((100 + (V q1 (Int.toNat 1))) - (2 * y1)) < (201 : Nat)) ∧ kCI xs Lx (d + 1) 194 7 [.ref 299, .ref q1, kI x2] (up W1 328 (Int.toNat ((100 + (V q1 (Int.toNat 1))) - (2 * y1))) 1) (fun y2 W2 =>
    kGo xs Lx (d + 2) 196 96 [some (.ref 299), some (.ref q1), some (kI x2), some (kI y2), some (kI 1)] [] W2 Q))) ∧
   (x3 < 201 →
    (0 ≤ x3 ∧ x3 < (201 : Nat)) ∧ kGo xs Lx (d + 2) 196 47 [some (.ref 299), some (.ref q1), some (kI x2), some (kI (x3 + 1)), none] [] (up V 328 (Int.toNat x3) 0) Q))) :
    kGo xs Lx (d + 2) 196 47 [some (.ref 299), some (.ref q1), some (kI x2), some (kI x3), none] [] V Q := by
  refine g_iload_n 48 gq196 rfl rfl rfl ?_
  refine g_sipush 51 gq196 rfl rfl rfl ?_
  have c2 := h.1
  replace h := h.2
  refine g_icmp_ge 67 54 gq196 rfl rfl rfl c2 (by omega) (fun c => ?_) (fun c => ?_)
  · replace h := h.1 c
    refine g_aload_n 68 gq196 rfl rfl rfl ?_
    refine g_getA 71 328 gq196 rfl rfl rfl rfl rfl rfl rfl ?_
    refine g_bipush 73 gq196 rfl rfl rfl ?_
    refine g_aload_n 74 gq196 rfl rfl rfl ?_
    refine g_iconst 75 gq196 rfl rfl ?_
    refine g_iald 76 gq196 rfl rfl hq1 (by omega) ?_
    refine g_iadd 77 gq196 rfl rfl ?_
    refine g_iconst 78 gq196 rfl rfl ?_
    refine g_iload_n 79 gq196 rfl rfl rfl ?_
    refine g_static 155 _ (i := 340) gq196 rfl rfl gq155 rfl rfl rfl rfl ?_
    refine kGo.mono h (fun r W1 hr => ?_)
    obtain ⟨y1, rfl, h⟩ := hr
    refine g_imul 83 gq196 rfl rfl ?_
    refine g_isub 84 gq196 rfl rfl ?_
    refine g_iconst 85 gq196 rfl rfl ?_
    have c21 := h.1
    replace h := h.2
    refine g_iast 86 gq196 rfl rfl rfl c21 ?_
    refine g_aload_n 87 gq196 rfl rfl rfl ?_
    refine g_aload_n 88 gq196 rfl rfl rfl ?_
    refine g_iload_n 89 gq196 rfl rfl rfl ?_
    refine g_virt 194 _ (i := 337) gq196 rfl rfl gq194 rfl rfl rfl rfl rfl rfl ?_
    refine kGo.mono h (fun r W2 hr => ?_)
    obtain ⟨y2, rfl, h⟩ := hr
    refine g_istore_n 93 gq196 rfl rfl rfl ?_
    refine g_iconst 94 gq196 rfl rfl ?_
    refine g_istore 96 gq196 rfl rfl rfl ?_
    exact kGo.weak (km_Le.s (km_Le.s (km_Le.s (km_Le.s (km_Le.s km_Le.nil))))) h
  · replace h := h.2 c
    refine g_aload_n 55 gq196 rfl rfl rfl ?_
    refine g_getA 58 328 gq196 rfl rfl rfl rfl rfl rfl rfl ?_
    refine g_iload_n 59 gq196 rfl rfl rfl ?_
    refine g_iconst 60 gq196 rfl rfl ?_
    have c39 := h.1
    replace h := h.2
    refine g_iast 61 gq196 rfl rfl rfl c39 ?_
    refine g_iinc 64 gq196 rfl rfl rfl rfl ?_
    refine g_goto 47 gq196 rfl rfl ?_
    exact kGo.weak (km_Le.s (km_Le.s (km_Le.s (km_Le.s (km_Le.n km_Le.nil))))) h
set_option maxRecDepth 10000 in
theorem b196_96 {xs : Nat → Int32} {Lx d : Nat} {V : km_V} {Q : Option Value → km_V → Prop} {x2 x3 x4 : Int} {q1 : Nat} (hq1 : km_sh[q1]? = some (11, 78))
    (h : (kR x4) ∧ (kR x3) ∧ ((x3 ≤ x4 →
    kGo xs Lx (d + 2) 196 115 [some (.ref 299), some (.ref q1), some (kI x2), none, some (kI 0)] [] V Q) ∧
   (x4 < x3 →
    kCV xs Lx (d + 1) 197 2 [.ref 299] V (fun W1 =>
    kGo xs Lx (d + 2) 196 96 [some (.ref 299), some (.ref q1), some (kI x2), some (kI x3), some (kI (x4 + 1))] [] W1 Q)))) :
    kGo xs Lx (d + 2) 196 96 [some (.ref 299), some (.ref q1), some (kI x2), some (kI x3), some (kI x4)] [] V Q := by
  refine g_iload 98 gq196 rfl rfl rfl ?_
  refine g_iload_n 99 gq196 rfl rfl rfl ?_
  have c2 := h.1
  replace h := h.2
  have c4 := h.1
  replace h := h.2
  refine g_icmp_ge 112 102 gq196 rfl rfl rfl c2 c4 (fun c => ?_) (fun c => ?_)
  · replace h := h.1 c
    refine g_iconst 113 gq196 rfl rfl ?_
    refine g_istore 115 gq196 rfl rfl rfl ?_
    exact kGo.weak (km_Le.s (km_Le.s (km_Le.s (km_Le.n (km_Le.s km_Le.nil))))) h
  · replace h := h.2 c
    refine g_aload_n 103 gq196 rfl rfl rfl ?_
    refine g_virt 197 _ (i := 343) gq196 rfl rfl gq197 rfl rfl rfl rfl rfl rfl ?_
    refine kGo.mono h (fun r W1 hr => ?_)
    obtain ⟨rfl, h⟩ := hr
    refine g_iinc 109 gq196 rfl rfl rfl rfl ?_
    refine g_goto 96 gq196 rfl rfl ?_
    exact kGo.weak (km_Le.s (km_Le.s (km_Le.s (km_Le.s (km_Le.s km_Le.nil))))) h
set_option maxRecDepth 10000 in
theorem b196_115 {xs : Nat → Int32} {Lx d : Nat} {V : km_V} {Q : Option Value → km_V → Prop} {x2 x4 : Int} {q1 : Nat} (hq1 : km_sh[q1]? = some (11, 78))
    (h : (kR x4) ∧ ((201 ≤ x4 →
    kGo xs Lx (d + 2) 196 36 [some (.ref 299), some (.ref q1), some (kI (x2 + 1)), none, none] [] V Q) ∧
   (x4 < 201 →
    (0 ≤ x4 ∧ x4 < (201 : Nat)) ∧ kGo xs Lx (d + 2) 196 115 [some (.ref 299), some (.ref q1), some (kI x2), none, some (kI (x4 + 1))] [] (up V 327 (Int.toNat x4) ((V 327 (Int.toNat x4)) + (V 328 (Int.toNat x4)))) Q))) :
    kGo xs Lx (d + 2) 196 115 [some (.ref 299), some (.ref q1), some (kI x2), none, some (kI x4)] [] V Q := by
  refine g_iload 117 gq196 rfl rfl rfl ?_
  refine g_sipush 120 gq196 rfl rfl rfl ?_
  have c2 := h.1
  replace h := h.2
  refine g_icmp_ge 146 123 gq196 rfl rfl rfl c2 (by omega) (fun c => ?_) (fun c => ?_)
  · replace h := h.1 c
    refine g_iinc 149 gq196 rfl rfl rfl rfl ?_
    refine g_goto 36 gq196 rfl rfl ?_
    exact kGo.weak (km_Le.s (km_Le.s (km_Le.s (km_Le.n (km_Le.n km_Le.nil))))) h
  · replace h := h.2 c
    refine g_aload_n 124 gq196 rfl rfl rfl ?_
    refine g_getA 127 327 gq196 rfl rfl rfl rfl rfl rfl rfl ?_
    refine g_iload 129 gq196 rfl rfl rfl ?_
    refine g_dup2 130 gq196 rfl rfl rfl rfl ?_
    have c14 := h.1
    replace h := h.2
    refine g_iald 131 gq196 rfl rfl rfl c14 ?_
    refine g_aload_n 132 gq196 rfl rfl rfl ?_
    refine g_getA 135 328 gq196 rfl rfl rfl rfl rfl rfl rfl ?_
    refine g_iload 137 gq196 rfl rfl rfl ?_
    refine g_iald 138 gq196 rfl rfl rfl c14 ?_
    refine g_iadd 139 gq196 rfl rfl ?_
    refine g_iast 140 gq196 rfl rfl rfl c14 ?_
    refine g_iinc 143 gq196 rfl rfl rfl rfl ?_
    refine g_goto 115 gq196 rfl rfl ?_
    exact kGo.weak (km_Le.s (km_Le.s (km_Le.s (km_Le.n (km_Le.s km_Le.nil))))) h
set_option maxRecDepth 10000 in
theorem b197_0 {xs : Nat → Int32} {Lx d : Nat} {V : km_V} {Q : Option Value → km_V → Prop} 
    (h : kGo xs Lx (d + 0) 197 2 [some (.ref 299), some (kI 0)] [] V Q) :
    kGo xs Lx (d + 0) 197 0 [some (.ref 299), none] [] V Q := by
  refine g_iconst 1 gq197 rfl rfl ?_
  refine g_istore_n 2 gq197 rfl rfl rfl ?_
  exact kGo.weak (km_Le.s (km_Le.s km_Le.nil)) h
set_option maxRecDepth 10000 in
theorem b197_2 {xs : Nat → Int32} {Lx d : Nat} {V : km_V} {Q : Option Value → km_V → Prop} {x1 : Int} 
    (h : (kR x1) ∧ ((201 ≤ x1 →
    kGo xs Lx (d + 0) 197 63 [some (.ref 299), some (kI 0)] [] V Q) ∧
   (x1 < 201 →
    ((x1 ≤ 1 →
      (kR (x1 + 2)) ∧ ((201 ≤ (x1 + 2) →
        (0 ≤ x1 ∧ x1 < (201 : Nat)) ∧ kGo xs Lx (d + 0) 197 2 [some (.ref 299), some (kI (x1 + 1))] [] (up V 329 (Int.toNat x1) ((-0) - 0)) Q) ∧
       ((x1 + 2) < 201 →
        (0 ≤ (x1 + 2) ∧ (x1 + 2) < (201 : Nat)) ∧ (0 ≤ x1 ∧ x1 < (201 : Nat)) ∧ kGo xs Lx (d + 0) 197 2 [some (.ref 299), some (kI (x1 + 1))] [] (up V 329 (Int.toNat x1) ((-0) - (V 328 (Int.toNat (x1 + 2))))) Q))) ∧
     (1 < x1 →
      (0 ≤ (x1 - 2) ∧ (x1 - 2) < (201 : Nat)) ∧ (kR (x1 + 2)) ∧ ((201 ≤ (x1 + 2) →
        (0 ≤ x1 ∧ x1 < (201 : Nat)) ∧ kGo xs Lx (d + 0) 197 2 [some (.ref 299), some (kI (x1 + 1))] [] (up V 329 (Int.toNat x1) ((-(V 328 (Int.toNat (x1 - 2)))) - 0)) Q) ∧
       ((x1 + 2) < 201 →
        (0 ≤ (x1 + 2) ∧ (x1 + 2) < (201 : Nat)) ∧ (0 ≤ x1 ∧ x1 < (201 : Nat)) ∧ kGo xs Lx (d + 0) 197 2 [some (.ref 299), some (kI (x1 + 1))] [] (up V 329 (Int.toNat x1) ((-(V 328 (Int.toNat (x1 - 2)))) - (V 328 (Int.toNat (x1 + 2))))) Q))))))) :
    kGo xs Lx (d + 0) 197 2 [some (.ref 299), some (kI x1)] [] V Q := by
  refine g_iload_n 3 gq197 rfl rfl rfl ?_
  refine g_sipush 6 gq197 rfl rfl rfl ?_
  have c2 := h.1
  replace h := h.2
  refine g_icmp_ge 61 9 gq197 rfl rfl rfl c2 (by omega) (fun c => ?_) (fun c => ?_)
  · replace h := h.1 c
    refine g_iconst 62 gq197 rfl rfl ?_
    refine g_istore_n 63 gq197 rfl rfl rfl ?_
    exact kGo.weak (km_Le.s (km_Le.s km_Le.nil)) h
  · replace h := h.2 c
    refine g_aload_n 10 gq197 rfl rfl rfl ?_
    refine g_getA 13 329 gq197 rfl rfl rfl rfl rfl rfl rfl ?_
    refine g_iload_n 14 gq197 rfl rfl rfl ?_
    refine g_iload_n 15 gq197 rfl rfl rfl ?_
    refine g_iconst 16 gq197 rfl rfl ?_
    refine g_icmp_le 30 19 gq197 rfl rfl rfl c2 (by omega) (fun c => ?_) (fun c => ?_)
    · replace h := h.1 c
      refine g_iconst 31 gq197 rfl rfl ?_
      refine g_ineg 32 gq197 rfl rfl ?_
      refine g_iload_n 33 gq197 rfl rfl rfl ?_
      refine g_iconst 34 gq197 rfl rfl ?_
      refine g_iadd 35 gq197 rfl rfl ?_
      refine g_sipush 38 gq197 rfl rfl rfl ?_
      have c23 := h.1
      replace h := h.2
      refine g_icmp_ge 52 41 gq197 rfl rfl rfl c23 (by omega) (fun c => ?_) (fun c => ?_)
      · replace h := h.1 c
        refine g_iconst 53 gq197 rfl rfl ?_
        refine g_isub 54 gq197 rfl rfl ?_
        have c29 := h.1
        replace h := h.2
        refine g_iast 55 gq197 rfl rfl rfl c29 ?_
        refine g_iinc 58 gq197 rfl rfl rfl rfl ?_
        refine g_goto 2 gq197 rfl rfl ?_
        exact kGo.weak (km_Le.s (km_Le.s km_Le.nil)) h
      · replace h := h.2 c
        refine g_aload_n 42 gq197 rfl rfl rfl ?_
        refine g_getA 45 328 gq197 rfl rfl rfl rfl rfl rfl rfl ?_
        refine g_iload_n 46 gq197 rfl rfl rfl ?_
        refine g_iconst 47 gq197 rfl rfl ?_
        refine g_iadd 48 gq197 rfl rfl ?_
        have c41 := h.1
        replace h := h.2
        refine g_iald 49 gq197 rfl rfl rfl c41 ?_
        refine g_goto 53 gq197 rfl rfl ?_
        refine g_isub 54 gq197 rfl rfl ?_
        have c46 := h.1
        replace h := h.2
        refine g_iast 55 gq197 rfl rfl rfl c46 ?_
        refine g_iinc 58 gq197 rfl rfl rfl rfl ?_
        refine g_goto 2 gq197 rfl rfl ?_
        exact kGo.weak (km_Le.s (km_Le.s km_Le.nil)) h
    · replace h := h.2 c
      refine g_aload_n 20 gq197 rfl rfl rfl ?_
      refine g_getA 23 328 gq197 rfl rfl rfl rfl rfl rfl rfl ?_
      refine g_iload_n 24 gq197 rfl rfl rfl ?_
      refine g_iconst 25 gq197 rfl rfl ?_
      refine g_isub 26 gq197 rfl rfl ?_
      have c58 := h.1
      replace h := h.2
      refine g_iald 27 gq197 rfl rfl rfl c58 ?_
      refine g_goto 31 gq197 rfl rfl ?_
      refine g_ineg 32 gq197 rfl rfl ?_
      refine g_iload_n 33 gq197 rfl rfl rfl ?_
      refine g_iconst 34 gq197 rfl rfl ?_
      refine g_iadd 35 gq197 rfl rfl ?_
      refine g_sipush 38 gq197 rfl rfl rfl ?_
      have c67 := h.1
      replace h := h.2
      refine g_icmp_ge 52 41 gq197 rfl rfl rfl c67 (by omega) (fun c => ?_) (fun c => ?_)
      · replace h := h.1 c
        refine g_iconst 53 gq197 rfl rfl ?_
        refine g_isub 54 gq197 rfl rfl ?_
        have c73 := h.1
        replace h := h.2
        refine g_iast 55 gq197 rfl rfl rfl c73 ?_
        refine g_iinc 58 gq197 rfl rfl rfl rfl ?_
        refine g_goto 2 gq197 rfl rfl ?_
        exact kGo.weak (km_Le.s (km_Le.s km_Le.nil)) h
      · replace h := h.2 c
        refine g_aload_n 42 gq197 rfl rfl rfl ?_
        refine g_getA 45 328 gq197 rfl rfl rfl rfl rfl rfl rfl ?_
        refine g_iload_n 46 gq197 rfl rfl rfl ?_
        refine g_iconst 47 gq197 rfl rfl ?_
        refine g_iadd 48 gq197 rfl rfl ?_
        have c85 := h.1
        replace h := h.2
        refine g_iald 49 gq197 rfl rfl rfl c85 ?_
        refine g_goto 53 gq197 rfl rfl ?_
        refine g_isub 54 gq197 rfl rfl ?_
        have c90 := h.1
        replace h := h.2
        refine g_iast 55 gq197 rfl rfl rfl c90 ?_
        refine g_iinc 58 gq197 rfl rfl rfl rfl ?_
        refine g_goto 2 gq197 rfl rfl ?_
        exact kGo.weak (km_Le.s (km_Le.s km_Le.nil)) h
set_option maxRecDepth 10000 in
theorem b197_63 {xs : Nat → Int32} {Lx d : Nat} {V : km_V} {Q : Option Value → km_V → Prop} {x1 : Int} 
    (h : (kR x1) ∧ ((201 ≤ x1 →
    Q none V) ∧
   (x1 < 201 →
    (0 ≤ x1 ∧ x1 < (201 : Nat)) ∧ kGo xs Lx (d + 0) 197 63 [some (.ref 299), some (kI (x1 + 1))] [] (up V 328 (Int.toNat x1) (V 329 (Int.toNat x1))) Q))) :
    kGo xs Lx (d + 0) 197 63 [some (.ref 299), some (kI x1)] [] V Q := by
  refine g_iload_n 64 gq197 rfl rfl rfl ?_
  refine g_sipush 67 gq197 rfl rfl rfl ?_
  have c2 := h.1
  replace h := h.2
  refine g_icmp_ge 88 70 gq197 rfl rfl rfl c2 (by omega) (fun c => ?_) (fun c => ?_)
  · replace h := h.1 c
    exact g_vret gq197 rfl rfl h
  · replace h := h.2 c
    refine g_aload_n 71 gq197 rfl rfl rfl ?_
    refine g_getA 74 328 gq197 rfl rfl rfl rfl rfl rfl rfl ?_
    refine g_iload_n 75 gq197 rfl rfl rfl ?_
    refine g_aload_n 76 gq197 rfl rfl rfl ?_
    refine g_getA 79 329 gq197 rfl rfl rfl rfl rfl rfl rfl ?_
    refine g_iload_n 80 gq197 rfl rfl rfl ?_
    have c14 := h.1
    replace h := h.2
    refine g_iald 81 gq197 rfl rfl rfl c14 ?_
    refine g_iast 82 gq197 rfl rfl rfl c14 ?_
    refine g_iinc 85 gq197 rfl rfl rfl rfl ?_
    refine g_goto 63 gq197 rfl rfl ?_
    exact kGo.weak (km_Le.s (km_Le.s km_Le.nil)) h
set_option maxRecDepth 10000 in
theorem b198_0 {xs : Nat → Int32} {Lx d : Nat} {V : km_V} {Q : Option Value → km_V → Prop} {r0 : Nat} (hr0 : km_sh[r0]? = some (11, 78))
    (h : kGo xs Lx (d + 0) 198 4 [some (.ref r0), some (kI 0), some (kI 0)] [] V Q) :
    kGo xs Lx (d + 0) 198 0 [some (.ref r0), none, none] [] V Q := by
  refine g_iconst 1 gq198 rfl rfl ?_
  refine g_istore_n 2 gq198 rfl rfl rfl ?_
  refine g_iconst 3 gq198 rfl rfl ?_
  refine g_istore_n 4 gq198 rfl rfl rfl ?_
  exact kGo.weak (km_Le.s (km_Le.s (km_Le.s km_Le.nil))) h
set_option maxRecDepth 10000 in
theorem b198_4 {xs : Nat → Int32} {Lx d : Nat} {V : km_V} {Q : Option Value → km_V → Prop} {x1 x2 : Int} {q0 : Nat} (hq0 : km_sh[q0]? = some (11, 78))
    (h : (kR x2) ∧ (kR (V q0 (Int.toNat 1))) ∧ (((V q0 (Int.toNat 1)) ≤ x2 →
    Q (some (kI x1)) V) ∧
   (x2 < (V q0 (Int.toNat 1)) →
    (0 ≤ (70 + x2) ∧ (70 + x2) < (78 : Nat)) ∧ (∀ z1 : Int, z1 = (x1 + (V q0 (Int.toNat (70 + x2)))) → kGo xs Lx (d + 0) 198 4 [some (.ref q0), some (kI z1), some (kI (x2 + 1))] [] V Q)))) :
    kGo xs Lx (d + 0) 198 4 [some (.ref q0), some (kI x1), some (kI x2)] [] V Q := by
  refine g_iload_n 5 gq198 rfl rfl rfl ?_
  refine g_aload_n 6 gq198 rfl rfl rfl ?_
  refine g_iconst 7 gq198 rfl rfl ?_
  refine g_iald 8 gq198 rfl rfl hq0 (by omega) ?_
  have c4 := h.1
  replace h := h.2
  have c6 := h.1
  replace h := h.2
  refine g_icmp_ge 26 11 gq198 rfl rfl rfl c4 c6 (fun c => ?_) (fun c => ?_)
  · replace h := h.1 c
    refine g_iload_n 27 gq198 rfl rfl rfl ?_
    exact g_iret gq198 rfl rfl h
  · replace h := h.2 c
    refine g_iload_n 12 gq198 rfl rfl rfl ?_
    refine g_aload_n 13 gq198 rfl rfl rfl ?_
    refine g_bipush 15 gq198 rfl rfl rfl ?_
    refine g_iload_n 16 gq198 rfl rfl rfl ?_
    refine g_iadd 17 gq198 rfl rfl ?_
    have c18 := h.1
    replace h := h.2
    refine g_iald 18 gq198 rfl rfl hq0 c18 ?_
    refine g_iadd 19 gq198 rfl rfl ?_
    refine g_istore_n 20 gq198 rfl rfl rfl ?_
    replace h := h _ rfl
    refine g_iinc 23 gq198 rfl rfl rfl rfl ?_
    refine g_goto 4 gq198 rfl rfl ?_
    exact kGo.weak (km_Le.s (km_Le.s (km_Le.s km_Le.nil))) h
set_option maxRecDepth 10000 in
theorem b199_0 {xs : Nat → Int32} {Lx d : Nat} {V : km_V} {Q : Option Value → km_V → Prop} {a2 : Int} {r1 : Nat} (hr1 : km_sh[r1]? = some (11, 78))
    (h : kCI xs Lx (d + 0) 198 3 [.ref r1] V (fun y1 W1 =>
  (∀ z2 : Int, z2 = ((100 + a2) + (3 * y1)) → (kR a2) ∧ (kR (kin a2 (-99) 99)) ∧ (((kin a2 (-99) 99) = 0 →
    (kR y1) ∧ (kR (Int.tmod y1 2)) ∧ (((Int.tmod y1 2) ≠ 0 →
      Q (some (kI (-0))) W1) ∧
     ((Int.tmod y1 2) = 0 →
      Q (some (kI 0)) W1))) ∧
   ((kin a2 (-99) 99) ≠ 0 →
    (kR z2) ∧ (kR (kin z2 0 200)) ∧ (((kin z2 0 200) = 0 →
      (kR y1) ∧ (kR (Int.tmod y1 2)) ∧ (((Int.tmod y1 2) ≠ 0 →
        Q (some (kI (-0))) W1) ∧
       ((Int.tmod y1 2) = 0 →
        Q (some (kI 0)) W1))) ∧
     ((kin z2 0 200) ≠ 0 →
      (0 ≤ z2 ∧ z2 < (201 : Nat)) ∧ (∀ z3 : Int, z3 = (W1 327 (Int.toNat z2)) → (kR y1) ∧ (kR (Int.tmod y1 2)) ∧ (((Int.tmod y1 2) ≠ 0 →
        Q (some (kI (-z3))) W1) ∧
       ((Int.tmod y1 2) = 0 →
        Q (some (kI z3)) W1)))))))))) :
    kGo xs Lx (d + 1) 199 0 [some (.ref 299), some (.ref r1), some (kI a2), none, none, none] [] V Q := by
  refine g_aload_n 1 gq199 rfl rfl rfl ?_
  refine g_static 198 _ (i := 346) gq199 rfl rfl gq198 rfl rfl rfl rfl ?_
  refine kGo.mono h (fun r W1 hr => ?_)
  obtain ⟨y1, rfl, h⟩ := hr
  refine g_istore_n 5 gq199 rfl rfl rfl ?_
  refine g_bipush 7 gq199 rfl rfl rfl ?_
  refine g_iload_n 8 gq199 rfl rfl rfl ?_
  refine g_iadd 9 gq199 rfl rfl ?_
  refine g_iconst 10 gq199 rfl rfl ?_
  refine g_iload_n 11 gq199 rfl rfl rfl ?_
  refine g_imul 12 gq199 rfl rfl ?_
  refine g_iadd 13 gq199 rfl rfl ?_
  refine g_istore 15 gq199 rfl rfl rfl ?_
  replace h := h _ rfl
  refine g_iload_n 16 gq199 rfl rfl rfl ?_
  refine g_bipush 18 gq199 rfl rfl rfl ?_
  refine g_bipush 20 gq199 rfl rfl rfl ?_
  have c17 := h.1
  replace h := h.2
  refine g_static 153 _ (i := 246) gq199 rfl rfl gq153 rfl rfl rfl rfl ?_
  refine sp_in c17 (by omega) (by omega) ?_
  have c21 := h.1
  replace h := h.2
  refine g_if_eq 48 26 gq199 rfl rfl rfl c21 (fun c => ?_) (fun c => ?_)
  · replace h := h.1 c
    refine g_iconst 49 gq199 rfl rfl ?_
    refine g_istore 51 gq199 rfl rfl rfl ?_
    refine g_iload_n 52 gq199 rfl rfl rfl ?_
    refine g_iconst 53 gq199 rfl rfl ?_
    have c29 := h.1
    replace h := h.2
    refine g_iremT 54 gq199 rfl rfl c29 ⟨by omega, by omega⟩ ?_
    have c32 := h.1
    replace h := h.2
    refine g_if_ne 62 57 gq199 rfl rfl rfl c32 (fun c => ?_) (fun c => ?_)
    · replace h := h.1 c
      refine g_iload 64 gq199 rfl rfl rfl ?_
      refine g_ineg 65 gq199 rfl rfl ?_
      exact g_iret gq199 rfl rfl h
    · replace h := h.2 c
      refine g_iload 59 gq199 rfl rfl rfl ?_
      refine g_goto 65 gq199 rfl rfl ?_
      exact g_iret gq199 rfl rfl h
  · replace h := h.2 c
    refine g_iload 28 gq199 rfl rfl rfl ?_
    refine g_iconst 29 gq199 rfl rfl ?_
    refine g_sipush 32 gq199 rfl rfl rfl ?_
    have c47 := h.1
    replace h := h.2
    refine g_static 153 _ (i := 246) gq199 rfl rfl gq153 rfl rfl rfl rfl ?_
    refine sp_in c47 (by omega) (by omega) ?_
    have c51 := h.1
    replace h := h.2
    refine g_if_eq 48 38 gq199 rfl rfl rfl c51 (fun c => ?_) (fun c => ?_)
    · replace h := h.1 c
      refine g_iconst 49 gq199 rfl rfl ?_
      refine g_istore 51 gq199 rfl rfl rfl ?_
      refine g_iload_n 52 gq199 rfl rfl rfl ?_
      refine g_iconst 53 gq199 rfl rfl ?_
      have c59 := h.1
      replace h := h.2
      refine g_iremT 54 gq199 rfl rfl c59 ⟨by omega, by omega⟩ ?_
      have c62 := h.1
      replace h := h.2
      refine g_if_ne 62 57 gq199 rfl rfl rfl c62 (fun c => ?_) (fun c => ?_)
      · replace h := h.1 c
        refine g_iload 64 gq199 rfl rfl rfl ?_
        refine g_ineg 65 gq199 rfl rfl ?_
        exact g_iret gq199 rfl rfl h
      · replace h := h.2 c
        refine g_iload 59 gq199 rfl rfl rfl ?_
        refine g_goto 65 gq199 rfl rfl ?_
        exact g_iret gq199 rfl rfl h
    · replace h := h.2 c
      refine g_aload_n 39 gq199 rfl rfl rfl ?_
      refine g_getA 42 327 gq199 rfl rfl rfl rfl rfl rfl rfl ?_
      refine g_iload 44 gq199 rfl rfl rfl ?_
      have c77 := h.1
      replace h := h.2
      refine g_iald 45 gq199 rfl rfl rfl c77 ?_
      refine g_goto 49 gq199 rfl rfl ?_
      refine g_istore 51 gq199 rfl rfl rfl ?_
      replace h := h _ rfl
      refine g_iload_n 52 gq199 rfl rfl rfl ?_
      refine g_iconst 53 gq199 rfl rfl ?_
      have c85 := h.1
      replace h := h.2
      refine g_iremT 54 gq199 rfl rfl c85 ⟨by omega, by omega⟩ ?_
      have c88 := h.1
      replace h := h.2
      refine g_if_ne 62 57 gq199 rfl rfl rfl c88 (fun c => ?_) (fun c => ?_)
      · replace h := h.1 c
        refine g_iload 64 gq199 rfl rfl rfl ?_
        refine g_ineg 65 gq199 rfl rfl ?_
        exact g_iret gq199 rfl rfl h
      · replace h := h.2 c
        refine g_iload 59 gq199 rfl rfl rfl ?_
        refine g_goto 65 gq199 rfl rfl ?_
        exact g_iret gq199 rfl rfl h
set_option maxRecDepth 10000 in
theorem b200_0 {xs : Nat → Int32} {Lx d : Nat} {V : km_V} {Q : Option Value → km_V → Prop} {a1 a2 : Int} 
    (h : kCV xs Lx (d + 2) 196 5 [.ref 299, .ref 307] V (fun W1 =>
  (kR a2) ∧ ((a2 = 0 →
    (kR a1) ∧ (kR (kin a1 (-100) 100)) ∧ (((kin a1 (-100) 100) = 0 →
      Q (some (kI 0)) W1) ∧
     ((kin a1 (-100) 100) ≠ 0 →
      (0 ≤ (100 + a1) ∧ (100 + a1) < (201 : Nat)) ∧ Q (some (kI (W1 327 (Int.toNat (100 + a1))))) W1))) ∧
   (a2 ≠ 0 →
    kCI xs Lx (d + 2) 199 6 [.ref 299, .ref 307, kI a1] W1 (fun y2 W2 =>
    Q (some (kI y2)) W2))))) :
    kGo xs Lx (d + 3) 200 0 [some (.ref 299), some (kI a1), some (kI a2)] [] V Q := by
  refine g_aload_n 1 gq200 rfl rfl rfl ?_
  refine g_aload_n 2 gq200 rfl rfl rfl ?_
  refine g_getA 5 307 gq200 rfl rfl rfl rfl rfl rfl rfl ?_
  refine g_virt 196 _ (i := 349) gq200 rfl rfl gq196 rfl rfl rfl rfl rfl rfl ?_
  refine kGo.mono h (fun r W1 hr => ?_)
  obtain ⟨rfl, h⟩ := hr
  refine g_iload_n 9 gq200 rfl rfl rfl ?_
  have c7 := h.1
  replace h := h.2
  refine g_if_eq 22 12 gq200 rfl rfl rfl c7 (fun c => ?_) (fun c => ?_)
  · replace h := h.1 c
    refine g_iload_n 23 gq200 rfl rfl rfl ?_
    refine g_bipush 25 gq200 rfl rfl rfl ?_
    refine g_bipush 27 gq200 rfl rfl rfl ?_
    have c14 := h.1
    replace h := h.2
    refine g_static 153 _ (i := 246) gq200 rfl rfl gq153 rfl rfl rfl rfl ?_
    refine sp_in c14 (by omega) (by omega) ?_
    have c18 := h.1
    replace h := h.2
    refine g_if_eq 45 33 gq200 rfl rfl rfl c18 (fun c => ?_) (fun c => ?_)
    · replace h := h.1 c
      refine g_iconst 46 gq200 rfl rfl ?_
      exact g_iret gq200 rfl rfl h
    · replace h := h.2 c
      refine g_aload_n 34 gq200 rfl rfl rfl ?_
      refine g_getA 37 327 gq200 rfl rfl rfl rfl rfl rfl rfl ?_
      refine g_bipush 39 gq200 rfl rfl rfl ?_
      refine g_iload_n 40 gq200 rfl rfl rfl ?_
      refine g_iadd 41 gq200 rfl rfl ?_
      have c30 := h.1
      replace h := h.2
      refine g_iald 42 gq200 rfl rfl rfl c30 ?_
      refine g_goto 46 gq200 rfl rfl ?_
      exact g_iret gq200 rfl rfl h
  · replace h := h.2 c
    refine g_aload_n 13 gq200 rfl rfl rfl ?_
    refine g_aload_n 14 gq200 rfl rfl rfl ?_
    refine g_getA 17 307 gq200 rfl rfl rfl rfl rfl rfl rfl ?_
    refine g_iload_n 18 gq200 rfl rfl rfl ?_
    refine g_virt 199 _ (i := 352) gq200 rfl rfl gq199 rfl rfl rfl rfl rfl rfl ?_
    refine kGo.mono h (fun r W2 hr => ?_)
    obtain ⟨y2, rfl, h⟩ := hr
    exact g_iret gq200 rfl rfl h
set_option maxRecDepth 10000 in
theorem b201_0 {xs : Nat → Int32} {Lx d : Nat} {V : km_V} {Q : Option Value → km_V → Prop} 
    (h : kCV xs Lx (d + 2) 196 5 [.ref 299, .ref 307] V (fun W1 =>
  kGo xs Lx (d + 3) 201 10 [some (.ref 299), some (kI 0), none] [] W1 Q)) :
    kGo xs Lx (d + 3) 201 0 [some (.ref 299), none, none] [] V Q := by
  refine g_aload_n 1 gq201 rfl rfl rfl ?_
  refine g_aload_n 2 gq201 rfl rfl rfl ?_
  refine g_getA 5 307 gq201 rfl rfl rfl rfl rfl rfl rfl ?_
  refine g_virt 196 _ (i := 349) gq201 rfl rfl gq196 rfl rfl rfl rfl rfl rfl ?_
  refine kGo.mono h (fun r W1 hr => ?_)
  obtain ⟨rfl, h⟩ := hr
  refine g_iconst 9 gq201 rfl rfl ?_
  refine g_istore_n 10 gq201 rfl rfl rfl ?_
  exact kGo.weak (km_Le.s (km_Le.s (km_Le.n km_Le.nil))) h
set_option maxRecDepth 10000 in
theorem b201_10 {xs : Nat → Int32} {Lx d : Nat} {V : km_V} {Q : Option Value → km_V → Prop} {x1 : Int} 
    (h : (kR x1) ∧ ((201 ≤ x1 →
    kGo xs Lx (d + 3) 201 36 [some (.ref 299), some (kI x1), some (kI 200)] [] V Q) ∧
   (x1 < 201 →
    (0 ≤ x1 ∧ x1 < (201 : Nat)) ∧ (kR (V 327 (Int.toNat x1))) ∧ (((V 327 (Int.toNat x1)) ≠ 0 →
      kGo xs Lx (d + 3) 201 36 [some (.ref 299), some (kI x1), some (kI 200)] [] V Q) ∧
     ((V 327 (Int.toNat x1)) = 0 →
      kGo xs Lx (d + 3) 201 10 [some (.ref 299), some (kI (x1 + 1)), none] [] V Q))))) :
    kGo xs Lx (d + 3) 201 10 [some (.ref 299), some (kI x1), none] [] V Q := by
  refine g_iload_n 11 gq201 rfl rfl rfl ?_
  refine g_sipush 14 gq201 rfl rfl rfl ?_
  have c2 := h.1
  replace h := h.2
  refine g_icmp_ge 32 17 gq201 rfl rfl rfl c2 (by omega) (fun c => ?_) (fun c => ?_)
  · replace h := h.1 c
    refine g_sipush 35 gq201 rfl rfl rfl ?_
    refine g_istore_n 36 gq201 rfl rfl rfl ?_
    exact kGo.weak (km_Le.s (km_Le.s (km_Le.s km_Le.nil))) h
  · replace h := h.2 c
    refine g_aload_n 18 gq201 rfl rfl rfl ?_
    refine g_getA 21 327 gq201 rfl rfl rfl rfl rfl rfl rfl ?_
    refine g_iload_n 22 gq201 rfl rfl rfl ?_
    have c13 := h.1
    replace h := h.2
    refine g_iald 23 gq201 rfl rfl rfl c13 ?_
    have c16 := h.1
    replace h := h.2
    refine g_if_ne 32 26 gq201 rfl rfl rfl c16 (fun c => ?_) (fun c => ?_)
    · replace h := h.1 c
      refine g_sipush 35 gq201 rfl rfl rfl ?_
      refine g_istore_n 36 gq201 rfl rfl rfl ?_
      exact kGo.weak (km_Le.s (km_Le.s (km_Le.s km_Le.nil))) h
    · replace h := h.2 c
      refine g_iinc 29 gq201 rfl rfl rfl rfl ?_
      refine g_goto 10 gq201 rfl rfl ?_
      exact kGo.weak (km_Le.s (km_Le.s (km_Le.n km_Le.nil))) h
set_option maxRecDepth 10000 in
theorem b201_36 {xs : Nat → Int32} {Lx d : Nat} {V : km_V} {Q : Option Value → km_V → Prop} {x1 x2 : Int} 
    (h : (kR x2) ∧ (kR x1) ∧ ((x2 ≤ x1 →
    ((x1 ≠ 201 →
      Q (some (kI (x2 - x1))) V) ∧
     (x1 = 201 →
      Q (some (kI 0)) V))) ∧
   (x1 < x2 →
    (0 ≤ x2 ∧ x2 < (201 : Nat)) ∧ (kR (V 327 (Int.toNat x2))) ∧ (((V 327 (Int.toNat x2)) ≠ 0 →
      ((x1 ≠ 201 →
        Q (some (kI (x2 - x1))) V) ∧
       (x1 = 201 →
        Q (some (kI 0)) V))) ∧
     ((V 327 (Int.toNat x2)) = 0 →
      kGo xs Lx (d + 3) 201 36 [some (.ref 299), some (kI x1), some (kI (x2 + (-1)))] [] V Q))))) :
    kGo xs Lx (d + 3) 201 36 [some (.ref 299), some (kI x1), some (kI x2)] [] V Q := by
  refine g_iload_n 37 gq201 rfl rfl rfl ?_
  refine g_iload_n 38 gq201 rfl rfl rfl ?_
  have c2 := h.1
  replace h := h.2
  have c4 := h.1
  replace h := h.2
  refine g_icmp_le 56 41 gq201 rfl rfl rfl c2 c4 (fun c => ?_) (fun c => ?_)
  · replace h := h.1 c
    refine g_iload_n 57 gq201 rfl rfl rfl ?_
    refine g_sipush 60 gq201 rfl rfl rfl ?_
    refine g_icmp_ne 67 63 gq201 rfl rfl rfl c4 (by omega) (fun c => ?_) (fun c => ?_)
    · replace h := h.1 c
      refine g_iload_n 68 gq201 rfl rfl rfl ?_
      refine g_iload_n 69 gq201 rfl rfl rfl ?_
      refine g_isub 70 gq201 rfl rfl ?_
      exact g_iret gq201 rfl rfl h
    · replace h := h.2 c
      refine g_iconst 64 gq201 rfl rfl ?_
      refine g_goto 70 gq201 rfl rfl ?_
      exact g_iret gq201 rfl rfl h
  · replace h := h.2 c
    refine g_aload_n 42 gq201 rfl rfl rfl ?_
    refine g_getA 45 327 gq201 rfl rfl rfl rfl rfl rfl rfl ?_
    refine g_iload_n 46 gq201 rfl rfl rfl ?_
    have c24 := h.1
    replace h := h.2
    refine g_iald 47 gq201 rfl rfl rfl c24 ?_
    have c27 := h.1
    replace h := h.2
    refine g_if_ne 56 50 gq201 rfl rfl rfl c27 (fun c => ?_) (fun c => ?_)
    · replace h := h.1 c
      refine g_iload_n 57 gq201 rfl rfl rfl ?_
      refine g_sipush 60 gq201 rfl rfl rfl ?_
      refine g_icmp_ne 67 63 gq201 rfl rfl rfl c4 (by omega) (fun c => ?_) (fun c => ?_)
      · replace h := h.1 c
        refine g_iload_n 68 gq201 rfl rfl rfl ?_
        refine g_iload_n 69 gq201 rfl rfl rfl ?_
        refine g_isub 70 gq201 rfl rfl ?_
        exact g_iret gq201 rfl rfl h
      · replace h := h.2 c
        refine g_iconst 64 gq201 rfl rfl ?_
        refine g_goto 70 gq201 rfl rfl ?_
        exact g_iret gq201 rfl rfl h
    · replace h := h.2 c
      refine g_iinc 53 gq201 rfl rfl rfl rfl ?_
      refine g_goto 36 gq201 rfl rfl ?_
      exact kGo.weak (km_Le.s (km_Le.s (km_Le.s km_Le.nil))) h
set_option maxRecDepth 10000 in
theorem b202_0 {xs : Nat → Int32} {Lx d : Nat} {V : km_V} {Q : Option Value → km_V → Prop} {a1 a2 : Int} 
    (h : (kR a1) ∧ (kR ((V 307 (Int.toNat 0)) - 1)) ∧ (kR (kin a1 0 ((V 307 (Int.toNat 0)) - 1))) ∧ (((kin a1 0 ((V 307 (Int.toNat 0)) - 1)) = 0 →
    Q (some (kI (-100000))) V) ∧
   ((kin a1 0 ((V 307 (Int.toNat 0)) - 1)) ≠ 0 →
    (kR a2) ∧ (kR (kin a2 0 ((V 307 (Int.toNat 0)) - 1))) ∧ (((kin a2 0 ((V 307 (Int.toNat 0)) - 1)) = 0 →
      Q (some (kI (-100000))) V) ∧
     ((kin a2 0 ((V 307 (Int.toNat 0)) - 1)) ≠ 0 →
      ((a1 ≠ a2 →
        kCV xs Lx (d + 1) 157 6 [.ref 299, .ref 307] V (fun W1 =>
        kGo xs Lx (d + 2) 202 54 [some (.ref 299), some (kI a1), some (kI a2), some (kI 0), some (kI 0), none, none] [] W1 Q)) ∧
       (a1 = a2 →
        Q (some (kI (-100000))) V))))))) :
    kGo xs Lx (d + 2) 202 0 [some (.ref 299), some (kI a1), some (kI a2), none, none, none, none] [] V Q := by
  refine g_iload_n 1 gq202 rfl rfl rfl ?_
  refine g_iconst 2 gq202 rfl rfl ?_
  refine g_aload_n 3 gq202 rfl rfl rfl ?_
  refine g_getA 6 307 gq202 rfl rfl rfl rfl rfl rfl rfl ?_
  refine g_iconst 7 gq202 rfl rfl ?_
  refine g_iald 8 gq202 rfl rfl rfl (by omega) ?_
  refine g_iconst 9 gq202 rfl rfl ?_
  refine g_isub 10 gq202 rfl rfl ?_
  have c8 := h.1
  replace h := h.2
  have c10 := h.1
  replace h := h.2
  refine g_static 153 _ (i := 246) gq202 rfl rfl gq153 rfl rfl rfl rfl ?_
  refine sp_in c8 (by omega) c10 ?_
  have c14 := h.1
  replace h := h.2
  refine g_if_eq 37 16 gq202 rfl rfl rfl c14 (fun c => ?_) (fun c => ?_)
  · replace h := h.1 c
    refine g_ldcw 40 (-100000) gq202 rfl rfl rfl rfl ?_
    exact g_iret gq202 rfl rfl h
  · replace h := h.2 c
    refine g_iload_n 17 gq202 rfl rfl rfl ?_
    refine g_iconst 18 gq202 rfl rfl ?_
    refine g_aload_n 19 gq202 rfl rfl rfl ?_
    refine g_getA 22 307 gq202 rfl rfl rfl rfl rfl rfl rfl ?_
    refine g_iconst 23 gq202 rfl rfl ?_
    refine g_iald 24 gq202 rfl rfl rfl (by omega) ?_
    refine g_iconst 25 gq202 rfl rfl ?_
    refine g_isub 26 gq202 rfl rfl ?_
    have c29 := h.1
    replace h := h.2
    refine g_static 153 _ (i := 246) gq202 rfl rfl gq153 rfl rfl rfl rfl ?_
    refine sp_in c29 (by omega) c10 ?_
    have c33 := h.1
    replace h := h.2
    refine g_if_eq 37 32 gq202 rfl rfl rfl c33 (fun c => ?_) (fun c => ?_)
    · replace h := h.1 c
      refine g_ldcw 40 (-100000) gq202 rfl rfl rfl rfl ?_
      exact g_iret gq202 rfl rfl h
    · replace h := h.2 c
      refine g_iload_n 33 gq202 rfl rfl rfl ?_
      refine g_iload_n 34 gq202 rfl rfl rfl ?_
      refine g_icmp_ne 41 37 gq202 rfl rfl rfl c8 c29 (fun c => ?_) (fun c => ?_)
      · replace h := h.1 c
        refine g_aload_n 42 gq202 rfl rfl rfl ?_
        refine g_aload_n 43 gq202 rfl rfl rfl ?_
        refine g_getA 46 307 gq202 rfl rfl rfl rfl rfl rfl rfl ?_
        refine g_virt 157 _ (i := 263) gq202 rfl rfl gq157 rfl rfl rfl rfl rfl rfl ?_
        refine kGo.mono h (fun r W1 hr => ?_)
        obtain ⟨rfl, h⟩ := hr
        refine g_iconst 50 gq202 rfl rfl ?_
        refine g_istore_n 51 gq202 rfl rfl rfl ?_
        refine g_iconst 52 gq202 rfl rfl ?_
        refine g_istore 54 gq202 rfl rfl rfl ?_
        exact kGo.weak (km_Le.s (km_Le.s (km_Le.s (km_Le.s (km_Le.s (km_Le.n (km_Le.n km_Le.nil))))))) h
      · replace h := h.2 c
        refine g_ldcw 40 (-100000) gq202 rfl rfl rfl rfl ?_
        exact g_iret gq202 rfl rfl h
set_option maxRecDepth 10000 in
theorem b202_54 {xs : Nat → Int32} {Lx d : Nat} {V : km_V} {Q : Option Value → km_V → Prop} {x1 x2 x3 x4 : Int} 
    (h : (kR x4) ∧ (kR (V 307 (Int.toNat 1))) ∧ (((V 307 (Int.toNat 1)) ≤ x4 →
    (kR x3) ∧ Q (some (kI (Int.tdiv x3 2))) V) ∧
   (x4 < (V 307 (Int.toNat 1)) →
    kCI xs Lx (d + 1) 190 4 [.ref 299, kI x4, kI 0] V (fun y1 W1 =>
    (0 ≤ y1 ∧ y1 < (16 : Nat)) ∧ (∀ z2 : Int, z2 = (W1 314 (Int.toNat y1)) → kCI xs Lx (d + 1) 190 4 [.ref 299, kI x4, kI 1] W1 (fun y3 W3 =>
    (0 ≤ y3 ∧ y3 < (16 : Nat)) ∧ (∀ z4 : Int, z4 = (W3 314 (Int.toNat y3)) → (kR z2) ∧ (kR x1) ∧ ((z2 ≠ x1 →
      (kR x2) ∧ ((z2 ≠ x2 →
        kGo xs Lx (d + 2) 202 54 [some (.ref 299), some (kI x1), some (kI x2), some (kI x3), some (kI (x4 + 1)), none, none] [] W3 Q) ∧
       (z2 = x2 →
        (kR z4) ∧ ((z4 ≠ x1 →
          kGo xs Lx (d + 2) 202 54 [some (.ref 299), some (kI x1), some (kI x2), some (kI x3), some (kI (x4 + 1)), none, none] [] W3 Q) ∧
         (z4 = x1 →
          (0 ≤ (70 + x4) ∧ (70 + x4) < (78 : Nat)) ∧ (∀ z5 : Int, z5 = (x3 + (W3 307 (Int.toNat (70 + x4)))) → kGo xs Lx (d + 2) 202 54 [some (.ref 299), some (kI x1), some (kI x2), some (kI z5), some (kI (x4 + 1)), none, none] [] W3 Q)))))) ∧
     (z2 = x1 →
      (kR z4) ∧ (kR x2) ∧ ((z4 = x2 →
        (0 ≤ (70 + x4) ∧ (70 + x4) < (78 : Nat)) ∧ (∀ z6 : Int, z6 = (x3 + (W3 307 (Int.toNat (70 + x4)))) → kGo xs Lx (d + 2) 202 54 [some (.ref 299), some (kI x1), some (kI x2), some (kI z6), some (kI (x4 + 1)), none, none] [] W3 Q)) ∧
       (z4 ≠ x2 →
        ((z2 ≠ x2 →
          kGo xs Lx (d + 2) 202 54 [some (.ref 299), some (kI x1), some (kI x2), some (kI x3), some (kI (x4 + 1)), none, none] [] W3 Q) ∧
         (z2 = x2 →
          ((z4 ≠ x1 →
            kGo xs Lx (d + 2) 202 54 [some (.ref 299), some (kI x1), some (kI x2), some (kI x3), some (kI (x4 + 1)), none, none] [] W3 Q) ∧
           (z4 = x1 →
            (0 ≤ (70 + x4) ∧ (70 + x4) < (78 : Nat)) ∧ (∀ z7 : Int, z7 = (x3 + (W3 307 (Int.toNat (70 + x4)))) → kGo xs Lx (d + 2) 202 54 [some (.ref 299), some (kI x1), some (kI x2), some (kI z7), some (kI (x4 + 1)), none, none] [] W3 Q)))))))))))))))) :
    kGo xs Lx (d + 2) 202 54 [some (.ref 299), some (kI x1), some (kI x2), some (kI x3), some (kI x4), none, none] [] V Q := by
  refine g_iload 56 gq202 rfl rfl rfl ?_
  refine g_aload_n 57 gq202 rfl rfl rfl ?_
  refine g_getA 60 307 gq202 rfl rfl rfl rfl rfl rfl rfl ?_
  refine g_iconst 61 gq202 rfl rfl ?_
  refine g_iald 62 gq202 rfl rfl rfl (by omega) ?_
  have c5 := h.1
  replace h := h.2
  have c7 := h.1
  replace h := h.2
  refine g_icmp_ge 136 65 gq202 rfl rfl rfl c5 c7 (fun c => ?_) (fun c => ?_)
  · replace h := h.1 c
    refine g_iload_n 137 gq202 rfl rfl rfl ?_
    refine g_iconst 138 gq202 rfl rfl ?_
    have c13 := h.1
    replace h := h.2
    refine g_idivT 139 gq202 rfl rfl c13 ⟨by omega, by omega⟩ ?_
    exact g_iret gq202 rfl rfl h
  · replace h := h.2 c
    refine g_aload_n 66 gq202 rfl rfl rfl ?_
    refine g_getA 69 314 gq202 rfl rfl rfl rfl rfl rfl rfl ?_
    refine g_aload_n 70 gq202 rfl rfl rfl ?_
    refine g_iload 72 gq202 rfl rfl rfl ?_
    refine g_iconst 73 gq202 rfl rfl ?_
    refine g_virt 190 _ (i := 331) gq202 rfl rfl gq190 rfl rfl rfl rfl rfl rfl ?_
    refine kGo.mono h (fun r W1 hr => ?_)
    obtain ⟨y1, rfl, h⟩ := hr
    have c26 := h.1
    replace h := h.2
    refine g_iald 77 gq202 rfl rfl rfl c26 ?_
    refine g_istore 79 gq202 rfl rfl rfl ?_
    replace h := h _ rfl
    refine g_aload_n 80 gq202 rfl rfl rfl ?_
    refine g_getA 83 314 gq202 rfl rfl rfl rfl rfl rfl rfl ?_
    refine g_aload_n 84 gq202 rfl rfl rfl ?_
    refine g_iload 86 gq202 rfl rfl rfl ?_
    refine g_iconst 87 gq202 rfl rfl ?_
    refine g_virt 190 _ (i := 331) gq202 rfl rfl gq190 rfl rfl rfl rfl rfl rfl ?_
    refine kGo.mono h (fun r W3 hr => ?_)
    obtain ⟨y3, rfl, h⟩ := hr
    have c39 := h.1
    replace h := h.2
    refine g_iald 91 gq202 rfl rfl rfl c39 ?_
    refine g_istore 93 gq202 rfl rfl rfl ?_
    replace h := h _ rfl
    refine g_iload 95 gq202 rfl rfl rfl ?_
    refine g_iload_n 96 gq202 rfl rfl rfl ?_
    have c46 := h.1
    replace h := h.2
    have c48 := h.1
    replace h := h.2
    refine g_icmp_ne 105 99 gq202 rfl rfl rfl c46 c48 (fun c => ?_) (fun c => ?_)
    · replace h := h.1 c
      refine g_iload 107 gq202 rfl rfl rfl ?_
      refine g_iload_n 108 gq202 rfl rfl rfl ?_
      have c54 := h.1
      replace h := h.2
      refine g_icmp_ne 130 111 gq202 rfl rfl rfl c46 c54 (fun c => ?_) (fun c => ?_)
      · replace h := h.1 c
        refine g_iinc 133 gq202 rfl rfl rfl rfl ?_
        refine g_goto 54 gq202 rfl rfl ?_
        exact kGo.weak (km_Le.s (km_Le.s (km_Le.s (km_Le.s (km_Le.s (km_Le.n (km_Le.n km_Le.nil))))))) h
      · replace h := h.2 c
        refine g_iload 113 gq202 rfl rfl rfl ?_
        refine g_iload_n 114 gq202 rfl rfl rfl ?_
        have c64 := h.1
        replace h := h.2
        refine g_icmp_ne 130 117 gq202 rfl rfl rfl c64 c48 (fun c => ?_) (fun c => ?_)
        · replace h := h.1 c
          refine g_iinc 133 gq202 rfl rfl rfl rfl ?_
          refine g_goto 54 gq202 rfl rfl ?_
          exact kGo.weak (km_Le.s (km_Le.s (km_Le.s (km_Le.s (km_Le.s (km_Le.n (km_Le.n km_Le.nil))))))) h
        · replace h := h.2 c
          refine g_iload_n 118 gq202 rfl rfl rfl ?_
          refine g_aload_n 119 gq202 rfl rfl rfl ?_
          refine g_getA 122 307 gq202 rfl rfl rfl rfl rfl rfl rfl ?_
          refine g_bipush 124 gq202 rfl rfl rfl ?_
          refine g_iload 126 gq202 rfl rfl rfl ?_
          refine g_iadd 127 gq202 rfl rfl ?_
          have c78 := h.1
          replace h := h.2
          refine g_iald 128 gq202 rfl rfl rfl c78 ?_
          refine g_iadd 129 gq202 rfl rfl ?_
          refine g_istore_n 130 gq202 rfl rfl rfl ?_
          replace h := h _ rfl
          refine g_iinc 133 gq202 rfl rfl rfl rfl ?_
          refine g_goto 54 gq202 rfl rfl ?_
          exact kGo.weak (km_Le.s (km_Le.s (km_Le.s (km_Le.s (km_Le.s (km_Le.n (km_Le.n km_Le.nil))))))) h
    · replace h := h.2 c
      refine g_iload 101 gq202 rfl rfl rfl ?_
      refine g_iload_n 102 gq202 rfl rfl rfl ?_
      have c90 := h.1
      replace h := h.2
      have c92 := h.1
      replace h := h.2
      refine g_icmp_eq 117 105 gq202 rfl rfl rfl c90 c92 (fun c => ?_) (fun c => ?_)
      · replace h := h.1 c
        refine g_iload_n 118 gq202 rfl rfl rfl ?_
        refine g_aload_n 119 gq202 rfl rfl rfl ?_
        refine g_getA 122 307 gq202 rfl rfl rfl rfl rfl rfl rfl ?_
        refine g_bipush 124 gq202 rfl rfl rfl ?_
        refine g_iload 126 gq202 rfl rfl rfl ?_
        refine g_iadd 127 gq202 rfl rfl ?_
        have c102 := h.1
        replace h := h.2
        refine g_iald 128 gq202 rfl rfl rfl c102 ?_
        refine g_iadd 129 gq202 rfl rfl ?_
        refine g_istore_n 130 gq202 rfl rfl rfl ?_
        replace h := h _ rfl
        refine g_iinc 133 gq202 rfl rfl rfl rfl ?_
        refine g_goto 54 gq202 rfl rfl ?_
        exact kGo.weak (km_Le.s (km_Le.s (km_Le.s (km_Le.s (km_Le.s (km_Le.n (km_Le.n km_Le.nil))))))) h
      · replace h := h.2 c
        refine g_iload 107 gq202 rfl rfl rfl ?_
        refine g_iload_n 108 gq202 rfl rfl rfl ?_
        refine g_icmp_ne 130 111 gq202 rfl rfl rfl c46 c92 (fun c => ?_) (fun c => ?_)
        · replace h := h.1 c
          refine g_iinc 133 gq202 rfl rfl rfl rfl ?_
          refine g_goto 54 gq202 rfl rfl ?_
          exact kGo.weak (km_Le.s (km_Le.s (km_Le.s (km_Le.s (km_Le.s (km_Le.n (km_Le.n km_Le.nil))))))) h
        · replace h := h.2 c
          refine g_iload 113 gq202 rfl rfl rfl ?_
          refine g_iload_n 114 gq202 rfl rfl rfl ?_
          refine g_icmp_ne 130 117 gq202 rfl rfl rfl c90 c48 (fun c => ?_) (fun c => ?_)
          · replace h := h.1 c
            refine g_iinc 133 gq202 rfl rfl rfl rfl ?_
            refine g_goto 54 gq202 rfl rfl ?_
            exact kGo.weak (km_Le.s (km_Le.s (km_Le.s (km_Le.s (km_Le.s (km_Le.n (km_Le.n km_Le.nil))))))) h
          · replace h := h.2 c
            refine g_iload_n 118 gq202 rfl rfl rfl ?_
            refine g_aload_n 119 gq202 rfl rfl rfl ?_
            refine g_getA 122 307 gq202 rfl rfl rfl rfl rfl rfl rfl ?_
            refine g_bipush 124 gq202 rfl rfl rfl ?_
            refine g_iload 126 gq202 rfl rfl rfl ?_
            refine g_iadd 127 gq202 rfl rfl ?_
            have c134 := h.1
            replace h := h.2
            refine g_iald 128 gq202 rfl rfl rfl c134 ?_
            refine g_iadd 129 gq202 rfl rfl ?_
            refine g_istore_n 130 gq202 rfl rfl rfl ?_
            replace h := h _ rfl
            refine g_iinc 133 gq202 rfl rfl rfl rfl ?_
            refine g_goto 54 gq202 rfl rfl ?_
            exact kGo.weak (km_Le.s (km_Le.s (km_Le.s (km_Le.s (km_Le.s (km_Le.n (km_Le.n km_Le.nil))))))) h
set_option maxRecDepth 10000 in
theorem b203_0 {xs : Nat → Int32} {Lx d : Nat} {V : km_V} {Q : Option Value → km_V → Prop} {r1 : Nat} (hr1 : km_sh[r1]? = some (11, 78))
    (h : kCV xs Lx (d + 1) 157 6 [.ref 299, .ref r1] V (fun W1 =>
  kGo xs Lx (d + 2) 203 9 [some (.ref 299), some (.ref r1), some (kI 0), some (kI 0), none, none] [] W1 Q)) :
    kGo xs Lx (d + 2) 203 0 [some (.ref 299), some (.ref r1), none, none, none, none] [] V Q := by
  refine g_aload_n 1 gq203 rfl rfl rfl ?_
  refine g_aload_n 2 gq203 rfl rfl rfl ?_
  refine g_virt 157 _ (i := 263) gq203 rfl rfl gq157 rfl rfl rfl rfl rfl rfl ?_
  refine kGo.mono h (fun r W1 hr => ?_)
  obtain ⟨rfl, h⟩ := hr
  refine g_iconst 6 gq203 rfl rfl ?_
  refine g_istore_n 7 gq203 rfl rfl rfl ?_
  refine g_iconst 8 gq203 rfl rfl ?_
  refine g_istore_n 9 gq203 rfl rfl rfl ?_
  exact kGo.weak (km_Le.s (km_Le.s (km_Le.s (km_Le.s (km_Le.n (km_Le.n km_Le.nil)))))) h
set_option maxRecDepth 10000 in
theorem b203_9 {xs : Nat → Int32} {Lx d : Nat} {V : km_V} {Q : Option Value → km_V → Prop} {x2 x3 : Int} {q1 : Nat} (hq1 : km_sh[q1]? = some (11, 78))
    (h : (kR x3) ∧ (kR (V 299 25)) ∧ (((V 299 25) ≤ x3 →
    kGo xs Lx (d + 2) 203 91 [some (.ref 299), some (.ref q1), some (kI x2), some (kI 0), none, none] [] V Q) ∧
   (x3 < (V 299 25) →
    (0 ≤ x3 ∧ x3 < (16 : Nat)) ∧ (0 ≤ (V 313 (Int.toNat x3)) ∧ (V 313 (Int.toNat x3)) ≤ 2147483647) ∧ (kR ((V 313 (Int.toNat x3)) % 2)) ∧ ((((V 313 (Int.toNat x3)) % 2) ≠ 1 →
      (∀ z1 : Int, z1 = ((up V 331 (Int.toNat x3) x2) 315 (Int.toNat x3)) → kGo xs Lx (d + 2) 203 47 [some (.ref 299), some (.ref q1), some (kI x2), some (kI x3), some (kI z1), none] [] (up V 331 (Int.toNat x3) x2) Q)) ∧
     (((V 313 (Int.toNat x3)) % 2) = 1 →
      kGo xs Lx (d + 2) 203 9 [some (.ref 299), some (.ref q1), some (kI x2), some (kI (x3 + 1)), none, none] [] V Q))))) :
    kGo xs Lx (d + 2) 203 9 [some (.ref 299), some (.ref q1), some (kI x2), some (kI x3), none, none] [] V Q := by
  refine g_iload_n 10 gq203 rfl rfl rfl ?_
  refine g_aload_n 11 gq203 rfl rfl rfl ?_
  refine g_getI 14 gq203 rfl rfl rfl rfl rfl rfl ?_
  have c3 := h.1
  replace h := h.2
  have c5 := h.1
  replace h := h.2
  refine g_icmp_ge 89 17 gq203 rfl rfl rfl c3 c5 (fun c => ?_) (fun c => ?_)
  · replace h := h.1 c
    refine g_iconst 90 gq203 rfl rfl ?_
    refine g_istore_n 91 gq203 rfl rfl rfl ?_
    exact kGo.weak (km_Le.s (km_Le.s (km_Le.s (km_Le.s (km_Le.n (km_Le.n km_Le.nil)))))) h
  · replace h := h.2 c
    refine g_aload_n 18 gq203 rfl rfl rfl ?_
    refine g_getA 21 313 gq203 rfl rfl rfl rfl rfl rfl rfl ?_
    refine g_iload_n 22 gq203 rfl rfl rfl ?_
    have c16 := h.1
    replace h := h.2
    refine g_iald 23 gq203 rfl rfl rfl c16 ?_
    refine g_iconst 24 gq203 rfl rfl ?_
    have c20 := h.1
    replace h := h.2
    refine g_irem 25 gq203 rfl rfl c20 (by omega) ?_
    refine g_iconst 26 gq203 rfl rfl ?_
    have c24 := h.1
    replace h := h.2
    refine g_icmp_ne 32 29 gq203 rfl rfl rfl c24 (by omega) (fun c => ?_) (fun c => ?_)
    · replace h := h.1 c
      refine g_aload_n 33 gq203 rfl rfl rfl ?_
      refine g_getA 36 331 gq203 rfl rfl rfl rfl rfl rfl rfl ?_
      refine g_iload_n 37 gq203 rfl rfl rfl ?_
      refine g_iload_n 38 gq203 rfl rfl rfl ?_
      refine g_iast 39 gq203 rfl rfl rfl c16 ?_
      refine g_aload_n 40 gq203 rfl rfl rfl ?_
      refine g_getA 43 315 gq203 rfl rfl rfl rfl rfl rfl rfl ?_
      refine g_iload_n 44 gq203 rfl rfl rfl ?_
      refine g_iald 45 gq203 rfl rfl rfl c16 ?_
      refine g_istore 47 gq203 rfl rfl rfl ?_
      replace h := h _ rfl
      exact kGo.weak (km_Le.s (km_Le.s (km_Le.s (km_Le.s (km_Le.s (km_Le.n km_Le.nil)))))) h
    · replace h := h.2 c
      refine g_goto 83 gq203 rfl rfl ?_
      refine g_iinc 86 gq203 rfl rfl rfl rfl ?_
      refine g_goto 9 gq203 rfl rfl ?_
      exact kGo.weak (km_Le.s (km_Le.s (km_Le.s (km_Le.s (km_Le.n (km_Le.n km_Le.nil)))))) h
set_option maxRecDepth 10000 in
theorem b203_91 {xs : Nat → Int32} {Lx d : Nat} {V : km_V} {Q : Option Value → km_V → Prop} {x2 x3 : Int} {q1 : Nat} (hq1 : km_sh[q1]? = some (11, 78))
    (h : (kR x3) ∧ (kR (V q1 (Int.toNat 0))) ∧ (((V q1 (Int.toNat 0)) ≤ x3 →
    Q (some (kI x2)) V) ∧
   (x3 < (V q1 (Int.toNat 0)) →
    kGo xs Lx (d + 2) 203 104 [some (.ref 299), some (.ref q1), some (kI x2), some (kI x3), some (kI 0), some (kI 0)] [] V Q))) :
    kGo xs Lx (d + 2) 203 91 [some (.ref 299), some (.ref q1), some (kI x2), some (kI x3), none, none] [] V Q := by
  refine g_iload_n 92 gq203 rfl rfl rfl ?_
  refine g_aload_n 93 gq203 rfl rfl rfl ?_
  refine g_iconst 94 gq203 rfl rfl ?_
  refine g_iald 95 gq203 rfl rfl hq1 (by omega) ?_
  have c4 := h.1
  replace h := h.2
  have c6 := h.1
  replace h := h.2
  refine g_icmp_ge 208 98 gq203 rfl rfl rfl c4 c6 (fun c => ?_) (fun c => ?_)
  · replace h := h.1 c
    refine g_iload_n 209 gq203 rfl rfl rfl ?_
    exact g_iret gq203 rfl rfl h
  · replace h := h.2 c
    refine g_iconst 99 gq203 rfl rfl ?_
    refine g_istore 101 gq203 rfl rfl rfl ?_
    refine g_iconst 102 gq203 rfl rfl ?_
    refine g_istore 104 gq203 rfl rfl rfl ?_
    exact kGo.weak (km_Le.s (km_Le.s (km_Le.s (km_Le.s (km_Le.s (km_Le.s km_Le.nil)))))) h
set_option maxRecDepth 10000 in
theorem b203_47 {xs : Nat → Int32} {Lx d : Nat} {V : km_V} {Q : Option Value → km_V → Prop} {x2 x3 x4 : Int} {q1 : Nat} (hq1 : km_sh[q1]? = some (11, 78))
    (h : (0 ≤ x4 ∧ x4 < (16 : Nat)) ∧ (0 ≤ (V 313 (Int.toNat x4)) ∧ (V 313 (Int.toNat x4)) ≤ 2147483647) ∧ (kR ((V 313 (Int.toNat x4)) % 2)) ∧ ((((V 313 (Int.toNat x4)) % 2) ≠ 1 →
    kGo xs Lx (d + 2) 203 9 [some (.ref 299), some (.ref q1), some (kI (x2 + 1)), some (kI (x3 + 1)), none, none] [] V Q) ∧
   (((V 313 (Int.toNat x4)) % 2) = 1 →
    (∀ z1 : Int, z1 = ((up V 331 (Int.toNat x4) x2) 315 (Int.toNat x4)) → kGo xs Lx (d + 2) 203 47 [some (.ref 299), some (.ref q1), some (kI x2), some (kI x3), some (kI z1), none] [] (up V 331 (Int.toNat x4) x2) Q)))) :
    kGo xs Lx (d + 2) 203 47 [some (.ref 299), some (.ref q1), some (kI x2), some (kI x3), some (kI x4), none] [] V Q := by
  refine g_aload_n 48 gq203 rfl rfl rfl ?_
  refine g_getA 51 313 gq203 rfl rfl rfl rfl rfl rfl rfl ?_
  refine g_iload 53 gq203 rfl rfl rfl ?_
  have c3 := h.1
  replace h := h.2
  refine g_iald 54 gq203 rfl rfl rfl c3 ?_
  refine g_iconst 55 gq203 rfl rfl ?_
  have c7 := h.1
  replace h := h.2
  refine g_irem 56 gq203 rfl rfl c7 (by omega) ?_
  refine g_iconst 57 gq203 rfl rfl ?_
  have c11 := h.1
  replace h := h.2
  refine g_icmp_ne 80 60 gq203 rfl rfl rfl c11 (by omega) (fun c => ?_) (fun c => ?_)
  · replace h := h.1 c
    refine g_iinc 83 gq203 rfl rfl rfl rfl ?_
    refine g_iinc 86 gq203 rfl rfl rfl rfl ?_
    refine g_goto 9 gq203 rfl rfl ?_
    exact kGo.weak (km_Le.s (km_Le.s (km_Le.s (km_Le.s (km_Le.n (km_Le.n km_Le.nil)))))) h
  · replace h := h.2 c
    refine g_aload_n 61 gq203 rfl rfl rfl ?_
    refine g_getA 64 331 gq203 rfl rfl rfl rfl rfl rfl rfl ?_
    refine g_iload 66 gq203 rfl rfl rfl ?_
    refine g_iload_n 67 gq203 rfl rfl rfl ?_
    refine g_iast 68 gq203 rfl rfl rfl c3 ?_
    refine g_aload_n 69 gq203 rfl rfl rfl ?_
    refine g_getA 72 315 gq203 rfl rfl rfl rfl rfl rfl rfl ?_
    refine g_iload 74 gq203 rfl rfl rfl ?_
    refine g_iald 75 gq203 rfl rfl rfl c3 ?_
    refine g_istore 77 gq203 rfl rfl rfl ?_
    replace h := h _ rfl
    refine g_goto 47 gq203 rfl rfl ?_
    exact kGo.weak (km_Le.s (km_Le.s (km_Le.s (km_Le.s (km_Le.s (km_Le.n km_Le.nil)))))) h
set_option maxRecDepth 10000 in
theorem b203_104 {xs : Nat → Int32} {Lx d : Nat} {V : km_V} {Q : Option Value → km_V → Prop} {x2 x3 x4 x5 : Int} {q1 : Nat} (hq1 : km_sh[q1]? = some (11, 78))
    (h : (kR x5) ∧ (kR (V 299 25)) ∧ (((V 299 25) ≤ x5 →
    (kR x4) ∧ ((x4 = 0 →
      kGo xs Lx (d + 2) 203 165 [some (.ref 299), some (.ref q1), some (kI x2), some (kI x3), none, some (kI 0)] [] V Q) ∧
     (x4 ≠ 0 →
      kGo xs Lx (d + 2) 203 91 [some (.ref 299), some (.ref q1), some (kI x2), some (kI (x3 + 1)), none, none] [] V Q))) ∧
   (x5 < (V 299 25) →
    (kR x4) ∧ ((x4 ≠ 0 →
      kGo xs Lx (d + 2) 203 104 [some (.ref 299), some (.ref q1), some (kI x2), some (kI x3), some (kI 1), some (kI (x5 + 1))] [] V Q) ∧
     (x4 = 0 →
      (0 ≤ x5 ∧ x5 < (16 : Nat)) ∧ (kR (V 314 (Int.toNat x5))) ∧ (kR x3) ∧ (((V 314 (Int.toNat x5)) ≠ x3 →
        kGo xs Lx (d + 2) 203 104 [some (.ref 299), some (.ref q1), some (kI x2), some (kI x3), some (kI 0), some (kI (x5 + 1))] [] V Q) ∧
       ((V 314 (Int.toNat x5)) = x3 →
        (0 ≤ (V 313 (Int.toNat x5)) ∧ (V 313 (Int.toNat x5)) ≤ 2147483647) ∧ (kR ((V 313 (Int.toNat x5)) % 2)) ∧ ((((V 313 (Int.toNat x5)) % 2) ≠ 0 →
          kGo xs Lx (d + 2) 203 104 [some (.ref 299), some (.ref q1), some (kI x2), some (kI x3), some (kI 0), some (kI (x5 + 1))] [] V Q) ∧
         (((V 313 (Int.toNat x5)) % 2) = 0 →
          kGo xs Lx (d + 2) 203 104 [some (.ref 299), some (.ref q1), some (kI x2), some (kI x3), some (kI 1), some (kI (x5 + 1))] [] V Q))))))))) :
    kGo xs Lx (d + 2) 203 104 [some (.ref 299), some (.ref q1), some (kI x2), some (kI x3), some (kI x4), some (kI x5)] [] V Q := by
  refine g_iload 106 gq203 rfl rfl rfl ?_
  refine g_aload_n 107 gq203 rfl rfl rfl ?_
  refine g_getI 110 gq203 rfl rfl rfl rfl rfl rfl ?_
  have c3 := h.1
  replace h := h.2
  have c5 := h.1
  replace h := h.2
  refine g_icmp_ge 154 113 gq203 rfl rfl rfl c3 c5 (fun c => ?_) (fun c => ?_)
  · replace h := h.1 c
    refine g_iload 156 gq203 rfl rfl rfl ?_
    have c10 := h.1
    replace h := h.2
    refine g_if_eq 162 159 gq203 rfl rfl rfl c10 (fun c => ?_) (fun c => ?_)
    · replace h := h.1 c
      refine g_iconst 163 gq203 rfl rfl ?_
      refine g_istore 165 gq203 rfl rfl rfl ?_
      exact kGo.weak (km_Le.s (km_Le.s (km_Le.s (km_Le.s (km_Le.n (km_Le.s km_Le.nil)))))) h
    · replace h := h.2 c
      refine g_goto 202 gq203 rfl rfl ?_
      refine g_iinc 205 gq203 rfl rfl rfl rfl ?_
      refine g_goto 91 gq203 rfl rfl ?_
      exact kGo.weak (km_Le.s (km_Le.s (km_Le.s (km_Le.s (km_Le.n (km_Le.n km_Le.nil)))))) h
  · replace h := h.2 c
    refine g_iload 115 gq203 rfl rfl rfl ?_
    have c24 := h.1
    replace h := h.2
    refine g_if_ne 141 118 gq203 rfl rfl rfl c24 (fun c => ?_) (fun c => ?_)
    · replace h := h.1 c
      refine g_iconst 142 gq203 rfl rfl ?_
      refine g_goto 146 gq203 rfl rfl ?_
      refine g_istore 148 gq203 rfl rfl rfl ?_
      refine g_iinc 151 gq203 rfl rfl rfl rfl ?_
      refine g_goto 104 gq203 rfl rfl ?_
      exact kGo.weak (km_Le.s (km_Le.s (km_Le.s (km_Le.s (km_Le.s (km_Le.s km_Le.nil)))))) h
    · replace h := h.2 c
      refine g_aload_n 119 gq203 rfl rfl rfl ?_
      refine g_getA 122 314 gq203 rfl rfl rfl rfl rfl rfl rfl ?_
      refine g_iload 124 gq203 rfl rfl rfl ?_
      have c38 := h.1
      replace h := h.2
      refine g_iald 125 gq203 rfl rfl rfl c38 ?_
      refine g_iload_n 126 gq203 rfl rfl rfl ?_
      have c42 := h.1
      replace h := h.2
      have c44 := h.1
      replace h := h.2
      refine g_icmp_ne 145 129 gq203 rfl rfl rfl c42 c44 (fun c => ?_) (fun c => ?_)
      · replace h := h.1 c
        refine g_iconst 146 gq203 rfl rfl ?_
        refine g_istore 148 gq203 rfl rfl rfl ?_
        refine g_iinc 151 gq203 rfl rfl rfl rfl ?_
        refine g_goto 104 gq203 rfl rfl ?_
        exact kGo.weak (km_Le.s (km_Le.s (km_Le.s (km_Le.s (km_Le.s (km_Le.s km_Le.nil)))))) h
      · replace h := h.2 c
        refine g_aload_n 130 gq203 rfl rfl rfl ?_
        refine g_getA 133 313 gq203 rfl rfl rfl rfl rfl rfl rfl ?_
        refine g_iload 135 gq203 rfl rfl rfl ?_
        refine g_iald 136 gq203 rfl rfl rfl c38 ?_
        refine g_iconst 137 gq203 rfl rfl ?_
        have c59 := h.1
        replace h := h.2
        refine g_irem 138 gq203 rfl rfl c59 (by omega) ?_
        have c62 := h.1
        replace h := h.2
        refine g_if_ne 145 141 gq203 rfl rfl rfl c62 (fun c => ?_) (fun c => ?_)
        · replace h := h.1 c
          refine g_iconst 146 gq203 rfl rfl ?_
          refine g_istore 148 gq203 rfl rfl rfl ?_
          refine g_iinc 151 gq203 rfl rfl rfl rfl ?_
          refine g_goto 104 gq203 rfl rfl ?_
          exact kGo.weak (km_Le.s (km_Le.s (km_Le.s (km_Le.s (km_Le.s (km_Le.s km_Le.nil)))))) h
        · replace h := h.2 c
          refine g_iconst 142 gq203 rfl rfl ?_
          refine g_goto 146 gq203 rfl rfl ?_
          refine g_istore 148 gq203 rfl rfl rfl ?_
          refine g_iinc 151 gq203 rfl rfl rfl rfl ?_
          refine g_goto 104 gq203 rfl rfl ?_
          exact kGo.weak (km_Le.s (km_Le.s (km_Le.s (km_Le.s (km_Le.s (km_Le.s km_Le.nil)))))) h
set_option maxRecDepth 10000 in
theorem b203_165 {xs : Nat → Int32} {Lx d : Nat} {V : km_V} {Q : Option Value → km_V → Prop} {x2 x3 x5 : Int} {q1 : Nat} (hq1 : km_sh[q1]? = some (11, 78))
    (h : (kR x5) ∧ (kR (V 299 25)) ∧ (((V 299 25) ≤ x5 →
    kGo xs Lx (d + 2) 203 91 [some (.ref 299), some (.ref q1), some (kI (x2 + 1)), some (kI (x3 + 1)), none, none] [] V Q) ∧
   (x5 < (V 299 25) →
    (0 ≤ x5 ∧ x5 < (16 : Nat)) ∧ (kR (V 314 (Int.toNat x5))) ∧ (kR x3) ∧ (((V 314 (Int.toNat x5)) ≠ x3 →
      kGo xs Lx (d + 2) 203 165 [some (.ref 299), some (.ref q1), some (kI x2), some (kI x3), none, some (kI (x5 + 1))] [] V Q) ∧
     ((V 314 (Int.toNat x5)) = x3 →
      kGo xs Lx (d + 2) 203 165 [some (.ref 299), some (.ref q1), some (kI x2), some (kI x3), none, some (kI (x5 + 1))] [] (up V 331 (Int.toNat x5) x2) Q))))) :
    kGo xs Lx (d + 2) 203 165 [some (.ref 299), some (.ref q1), some (kI x2), some (kI x3), none, some (kI x5)] [] V Q := by
  refine g_iload 167 gq203 rfl rfl rfl ?_
  refine g_aload_n 168 gq203 rfl rfl rfl ?_
  refine g_getI 171 gq203 rfl rfl rfl rfl rfl rfl ?_
  have c3 := h.1
  replace h := h.2
  have c5 := h.1
  replace h := h.2
  refine g_icmp_ge 199 174 gq203 rfl rfl rfl c3 c5 (fun c => ?_) (fun c => ?_)
  · replace h := h.1 c
    refine g_iinc 202 gq203 rfl rfl rfl rfl ?_
    refine g_iinc 205 gq203 rfl rfl rfl rfl ?_
    refine g_goto 91 gq203 rfl rfl ?_
    exact kGo.weak (km_Le.s (km_Le.s (km_Le.s (km_Le.s (km_Le.n (km_Le.n km_Le.nil)))))) h
  · replace h := h.2 c
    refine g_aload_n 175 gq203 rfl rfl rfl ?_
    refine g_getA 178 314 gq203 rfl rfl rfl rfl rfl rfl rfl ?_
    refine g_iload 180 gq203 rfl rfl rfl ?_
    have c17 := h.1
    replace h := h.2
    refine g_iald 181 gq203 rfl rfl rfl c17 ?_
    refine g_iload_n 182 gq203 rfl rfl rfl ?_
    have c21 := h.1
    replace h := h.2
    have c23 := h.1
    replace h := h.2
    refine g_icmp_ne 193 185 gq203 rfl rfl rfl c21 c23 (fun c => ?_) (fun c => ?_)
    · replace h := h.1 c
      refine g_iinc 196 gq203 rfl rfl rfl rfl ?_
      refine g_goto 165 gq203 rfl rfl ?_
      exact kGo.weak (km_Le.s (km_Le.s (km_Le.s (km_Le.s (km_Le.n (km_Le.s km_Le.nil)))))) h
    · replace h := h.2 c
      refine g_aload_n 186 gq203 rfl rfl rfl ?_
      refine g_getA 189 331 gq203 rfl rfl rfl rfl rfl rfl rfl ?_
      refine g_iload 191 gq203 rfl rfl rfl ?_
      refine g_iload_n 192 gq203 rfl rfl rfl ?_
      refine g_iast 193 gq203 rfl rfl rfl c17 ?_
      refine g_iinc 196 gq203 rfl rfl rfl rfl ?_
      refine g_goto 165 gq203 rfl rfl ?_
      exact kGo.weak (km_Le.s (km_Le.s (km_Le.s (km_Le.s (km_Le.n (km_Le.s km_Le.nil)))))) h
set_option maxRecDepth 10000 in
theorem b204_0 {xs : Nat → Int32} {Lx d : Nat} {V : km_V} {Q : Option Value → km_V → Prop} 
    (h : kCI xs Lx (d + 2) 203 6 [.ref 299, .ref 307] V (fun y1 W1 =>
  kGo xs Lx (d + 3) 204 11 [some (.ref 299), some (kI y1), some (kI 0), none] [] W1 Q)) :
    kGo xs Lx (d + 3) 204 0 [some (.ref 299), none, none, none] [] V Q := by
  refine g_aload_n 1 gq204 rfl rfl rfl ?_
  refine g_aload_n 2 gq204 rfl rfl rfl ?_
  refine g_getA 5 307 gq204 rfl rfl rfl rfl rfl rfl rfl ?_
  refine g_virt 203 _ (i := 328) gq204 rfl rfl gq203 rfl rfl rfl rfl rfl rfl ?_
  refine kGo.mono h (fun r W1 hr => ?_)
  obtain ⟨y1, rfl, h⟩ := hr
  refine g_istore_n 9 gq204 rfl rfl rfl ?_
  refine g_iconst 10 gq204 rfl rfl ?_
  refine g_istore_n 11 gq204 rfl rfl rfl ?_
  exact kGo.weak (km_Le.s (km_Le.s (km_Le.s (km_Le.n km_Le.nil)))) h
set_option maxRecDepth 10000 in
theorem b204_11 {xs : Nat → Int32} {Lx d : Nat} {V : km_V} {Q : Option Value → km_V → Prop} {x1 x2 : Int} 
    (h : (kR x2) ∧ ((96 ≤ x2 →
    kGo xs Lx (d + 3) 204 32 [some (.ref 299), some (kI x1), some (kI 0), none] [] V Q) ∧
   (x2 < 96 →
    (0 ≤ x2 ∧ x2 < (96 : Nat)) ∧ kGo xs Lx (d + 3) 204 11 [some (.ref 299), some (kI x1), some (kI (x2 + 1)), none] [] (up V 332 (Int.toNat x2) 0) Q))) :
    kGo xs Lx (d + 3) 204 11 [some (.ref 299), some (kI x1), some (kI x2), none] [] V Q := by
  refine g_iload_n 12 gq204 rfl rfl rfl ?_
  refine g_bipush 14 gq204 rfl rfl rfl ?_
  have c2 := h.1
  replace h := h.2
  refine g_icmp_ge 30 17 gq204 rfl rfl rfl c2 (by omega) (fun c => ?_) (fun c => ?_)
  · replace h := h.1 c
    refine g_iconst 31 gq204 rfl rfl ?_
    refine g_istore_n 32 gq204 rfl rfl rfl ?_
    exact kGo.weak (km_Le.s (km_Le.s (km_Le.s (km_Le.n km_Le.nil)))) h
  · replace h := h.2 c
    refine g_aload_n 18 gq204 rfl rfl rfl ?_
    refine g_getA 21 332 gq204 rfl rfl rfl rfl rfl rfl rfl ?_
    refine g_iload_n 22 gq204 rfl rfl rfl ?_
    refine g_lconst 23 0 gq204 rfl rfl rfl ?_
    have c14 := h.1
    replace h := h.2
    refine g_last 24 gq204 rfl rfl rfl c14 ?_
    refine g_iinc 27 gq204 rfl rfl rfl rfl ?_
    refine g_goto 11 gq204 rfl rfl ?_
    exact kGo.weak (km_Le.s (km_Le.s (km_Le.s (km_Le.n km_Le.nil)))) h
set_option maxRecDepth 10000 in
theorem b204_32 {xs : Nat → Int32} {Lx d : Nat} {V : km_V} {Q : Option Value → km_V → Prop} {x1 x2 : Int} 
    (h : (kR x2) ∧ (kR (V 307 (Int.toNat 1))) ∧ (((V 307 (Int.toNat 1)) ≤ x2 →
    Q (some (kI x1)) V) ∧
   (x2 < (V 307 (Int.toNat 1)) →
    kCI xs Lx (d + 2) 190 4 [.ref 299, kI x2, kI 0] V (fun y1 W1 =>
    kCI xs Lx (d + 2) 190 4 [.ref 299, kI x2, kI 1] W1 (fun y2 W2 =>
    (0 ≤ y2 ∧ y2 < (16 : Nat)) ∧ (0 ≤ ((12 * x2) + (W2 331 (Int.toNat y2))) ∧ ((12 * x2) + (W2 331 (Int.toNat y2))) < (96 : Nat)) ∧ (0 ≤ y1 ∧ y1 < (16 : Nat)) ∧ (0 ≤ ((12 * x2) + ((up W2 332 (Int.toNat ((12 * x2) + (W2 331 (Int.toNat y2)))) ((W2 332 (Int.toNat ((12 * x2) + (W2 331 (Int.toNat y2))))) + 2)) 331 (Int.toNat y1))) ∧ ((12 * x2) + ((up W2 332 (Int.toNat ((12 * x2) + (W2 331 (Int.toNat y2)))) ((W2 332 (Int.toNat ((12 * x2) + (W2 331 (Int.toNat y2))))) + 2)) 331 (Int.toNat y1))) < (96 : Nat)) ∧ (0 ≤ ((up (up W2 332 (Int.toNat ((12 * x2) + (W2 331 (Int.toNat y2)))) ((W2 332 (Int.toNat ((12 * x2) + (W2 331 (Int.toNat y2))))) + 2)) 332 (Int.toNat ((12 * x2) + ((up W2 332 (Int.toNat ((12 * x2) + (W2 331 (Int.toNat y2)))) ((W2 332 (Int.toNat ((12 * x2) + (W2 331 (Int.toNat y2))))) + 2)) 331 (Int.toNat y1)))) (((up W2 332 (Int.toNat ((12 * x2) + (W2 331 (Int.toNat y2)))) ((W2 332 (Int.toNat ((12 * x2) + (W2 331 (Int.toNat y2))))) + 2)) 332 (Int.toNat ((12 * x2) + ((up W2 332 (Int.toNat ((12 * x2) + (W2 331 (Int.toNat y2)))) ((W2 332 (Int.toNat ((12 * x2) + (W2 331 (Int.toNat y2))))) + 2)) 331 (Int.toNat y1))))) - 1)) 316 (Int.toNat y1)) ∧ ((up (up W2 332 (Int.toNat ((12 * x2) + (W2 331 (Int.toNat y2)))) ((W2 332 (Int.toNat ((12 * x2) + (W2 331 (Int.toNat y2))))) + 2)) 332 (Int.toNat ((12 * x2) + ((up W2 332 (Int.toNat ((12 * x2) + (W2 331 (Int.toNat y2)))) ((W2 332 (Int.toNat ((12 * x2) + (W2 331 (Int.toNat y2))))) + 2)) 331 (Int.toNat y1)))) (((up W2 332 (Int.toNat ((12 * x2) + (W2 331 (Int.toNat y2)))) ((W2 332 (Int.toNat ((12 * x2) + (W2 331 (Int.toNat y2))))) + 2)) 332 (Int.toNat ((12 * x2) + ((up W2 332 (Int.toNat ((12 * x2) + (W2 331 (Int.toNat y2)))) ((W2 332 (Int.toNat ((12 * x2) + (W2 331 (Int.toNat y2))))) + 2)) 331 (Int.toNat y1))))) - 1)) 316 (Int.toNat y1)) < (16 : Nat)) ∧ (0 ≤ ((12 * x2) + ((up (up W2 332 (Int.toNat ((12 * x2) + (W2 331 (Int.toNat y2)))) ((W2 332 (Int.toNat ((12 * x2) + (W2 331 (Int.toNat y2))))) + 2)) 332 (Int.toNat ((12 * x2) + ((up W2 332 (Int.toNat ((12 * x2) + (W2 331 (Int.toNat y2)))) ((W2 332 (Int.toNat ((12 * x2) + (W2 331 (Int.toNat y2))))) + 2)) 331 (Int.toNat y1)))) (((up W2 332 (Int.toNat ((12 * x2) + (W2 331 (Int.toNat y2)))) ((W2 332 (Int.toNat ((12 * x2) + (W2 331 (Int.toNat y2))))) + 2)) 332 (Int.toNat ((12 * x2) + ((up W2 332 (Int.toNat ((12 * x2) + (W2 331 (Int.toNat y2)))) ((W2 332 (Int.toNat ((12 * x2) + (W2 331 (Int.toNat y2))))) + 2)) 331 (Int.toNat y1))))) - 1)) 331 (Int.toNat ((up (up W2 332 (Int.toNat ((12 * x2) + (W2 331 (Int.toNat y2)))) ((W2 332 (Int.toNat ((12 * x2) + (W2 331 (Int.toNat y2))))) + 2)) 332 (Int.toNat ((12 * x2) + ((up W2 332 (Int.toNat ((12 * x2) + (W2 331 (Int.toNat y2)))) ((W2 332 (Int.toNat ((12 * x2) + (W2 331 (Int.toNat y2))))) + 2)) 331 (Int.toNat y1)))) (((up W2 332 (Int.toNat ((12 * x2) + (W2 331 (Int.toNat y2)))) ((W2 332 (Int.toNat ((12 * x2) + (W2 331 (Int.toNat y2))))) + 2)) 332 (Int.toNat ((12 * x2) + ((up W2 332 (Int.toNat ((12 * x2) + (W2 331 (Int.toNat y2)))) ((W2 332 (Int.toNat ((12 * x2) + (W2 331 (Int.toNat y2))))) + 2)) 331 (Int.toNat y1))))) - 1)) 316 (Int.toNat y1))))) ∧ ((12 * x2) + ((up (up W2 332 (Int.toNat ((12 * x2) + (W2 331 (Int.toNat y2)))) ((W2 332 (Int.toNat ((12 * x2) + (W2 331 (Int.toNat y2))))) + 2)) 332 (Int.toNat ((12 * x2) + ((up W2 332 (Int.toNat ((12 * x2) + (W2 331 (Int.toNat y2)))) ((W2 332 (Int.toNat ((12 * x2) + (W2 331 (Int.toNat y2))))) + 2)) 331 (Int.toNat y1)))) (((up W2 332 (Int.toNat ((12 * x2) + (W2 331 (Int.toNat y2)))) ((W2 332 (Int.toNat ((12 * x2) + (W2 331 (Int.toNat y2))))) + 2)) 332 (Int.toNat ((12 * x2) + ((up W2 332 (Int.toNat ((12 * x2) + (W2 331 (Int.toNat y2)))) ((W2 332 (Int.toNat ((12 * x2) + (W2 331 (Int.toNat y2))))) + 2)) 331 (Int.toNat y1))))) - 1)) 331 (Int.toNat ((up (up W2 332 (Int.toNat ((12 * x2) + (W2 331 (Int.toNat y2)))) ((W2 332 (Int.toNat ((12 * x2) + (W2 331 (Int.toNat y2))))) + 2)) 332 (Int.toNat ((12 * x2) + ((up W2 332 (Int.toNat ((12 * x2) + (W2 331 (Int.toNat y2)))) ((W2 332 (Int.toNat ((12 * x2) + (W2 331 (Int.toNat y2))))) + 2)) 331 (Int.toNat y1)))) (((up W2 332 (Int.toNat ((12 * x2) + (W2 331 (Int.toNat y2)))) ((W2 332 (Int.toNat ((12 * x2) + (W2 331 (Int.toNat y2))))) + 2)) 332 (Int.toNat ((12 * x2) + ((up W2 332 (Int.toNat ((12 * x2) + (W2 331 (Int.toNat y2)))) ((W2 332 (Int.toNat ((12 * x2) + (W2 331 (Int.toNat y2))))) + 2)) 331 (Int.toNat y1))))) - 1)) 316 (Int.toNat y1))))) < (96 : Nat)) ∧ kGo xs Lx (d + 3) 204 32 [some (.ref 299), some (kI x1), some (kI (x2 + 1)), none] [] (up (up (up W2 332 (Int.toNat ((12 * x2) + (W2 331 (Int.toNat y2)))) ((W2 332 (Int.toNat ((12 * x2) + (W2 331 (Int.toNat y2))))) + 2)) 332 (Int.toNat ((12 * x2) + ((up W2 332 (Int.toNat ((12 * x2) + (W2 331 (Int.toNat y2)))) ((W2 332 (Int.toNat ((12 * x2) + (W2 331 (Int.toNat y2))))) + 2)) 331 (Int.toNat y1)))) (((up W2 332 (Int.toNat ((12 * x2) + (W2 331 (Int.toNat y2)))) ((W2 332 (Int.toNat ((12 * x2) + (W2 331 (Int.toNat y2))))) + 2)) 332 (Int.toNat ((12 * x2) + ((up W2 332 (Int.toNat ((12 * x2) + (W2 331 (Int.toNat y2)))) ((W2 332 (Int.toNat ((12 * x2) + (W2 331 (Int.toNat y2))))) + 2)) 331 (Int.toNat y1))))) - 1)) 332 (Int.toNat ((12 * x2) + ((up (up W2 332 (Int.toNat ((12 * x2) + (W2 331 (Int.toNat y2)))) ((W2 332 (Int.toNat ((12 * x2) + (W2 331 (Int.toNat y2))))) + 2)) 332 (Int.toNat ((12 * x2) + ((up W2 332 (Int.toNat ((12 * x2) + (W2 331 (Int.toNat y2)))) ((W2 332 (Int.toNat ((12 * x2) + (W2 331 (Int.toNat y2))))) + 2)) 331 (Int.toNat y1)))) (((up W2 332 (Int.toNat ((12 * x2) + (W2 331 (Int.toNat y2)))) ((W2 332 (Int.toNat ((12 * x2) + (W2 331 (Int.toNat y2))))) + 2)) 332 (Int.toNat ((12 * x2) + ((up W2 332 (Int.toNat ((12 * x2) + (W2 331 (Int.toNat y2)))) ((W2 332 (Int.toNat ((12 * x2) + (W2 331 (Int.toNat y2))))) + 2)) 331 (Int.toNat y1))))) - 1)) 331 (Int.toNat ((up (up W2 332 (Int.toNat ((12 * x2) + (W2 331 (Int.toNat y2)))) ((W2 332 (Int.toNat ((12 * x2) + (W2 331 (Int.toNat y2))))) + 2)) 332 (Int.toNat ((12 * x2) + ((up W2 332 (Int.toNat ((12 * x2) + (W2 331 (Int.toNat y2)))) ((W2 332 (Int.toNat ((12 * x2) + (W2 331 (Int.toNat y2))))) + 2)) 331 (Int.toNat y1)))) (((up W2 332 (Int.toNat ((12 * x2) + (W2 331 (Int.toNat y2)))) ((W2 332 (Int.toNat ((12 * x2) + (W2 331 (Int.toNat y2))))) + 2)) 332 (Int.toNat ((12 * x2) + ((up W2 332 (Int.toNat ((12 * x2) + (W2 331 (Int.toNat y2)))) ((W2 332 (Int.toNat ((12 * x2) + (W2 331 (Int.toNat y2))))) + 2)) 331 (Int.toNat y1))))) - 1)) 316 (Int.toNat y1)))))) (((up (up W2 332 (Int.toNat ((12 * x2) + (W2 331 (Int.toNat y2)))) ((W2 332 (Int.toNat ((12 * x2) + (W2 331 (Int.toNat y2))))) + 2)) 332 (Int.toNat ((12 * x2) + ((up W2 332 (Int.toNat ((12 * x2) + (W2 331 (Int.toNat y2)))) ((W2 332 (Int.toNat ((12 * x2) + (W2 331 (Int.toNat y2))))) + 2)) 331 (Int.toNat y1)))) (((up W2 332 (Int.toNat ((12 * x2) + (W2 331 (Int.toNat y2)))) ((W2 332 (Int.toNat ((12 * x2) + (W2 331 (Int.toNat y2))))) + 2)) 332 (Int.toNat ((12 * x2) + ((up W2 332 (Int.toNat ((12 * x2) + (W2 331 (Int.toNat y2)))) ((W2 332 (Int.toNat ((12 * x2) + (W2 331 (Int.toNat y2))))) + 2)) 331 (Int.toNat y1))))) - 1)) 332 (Int.toNat ((12 * x2) + ((up (up W2 332 (Int.toNat ((12 * x2) + (W2 331 (Int.toNat y2)))) ((W2 332 (Int.toNat ((12 * x2) + (W2 331 (Int.toNat y2))))) + 2)) 332 (Int.toNat ((12 * x2) + ((up W2 332 (Int.toNat ((12 * x2) + (W2 331 (Int.toNat y2)))) ((W2 332 (Int.toNat ((12 * x2) + (W2 331 (Int.toNat y2))))) + 2)) 331 (Int.toNat y1)))) (((up W2 332 (Int.toNat ((12 * x2) + (W2 331 (Int.toNat y2)))) ((W2 332 (Int.toNat ((12 * x2) + (W2 331 (Int.toNat y2))))) + 2)) 332 (Int.toNat ((12 * x2) + ((up W2 332 (Int.toNat ((12 * x2) + (W2 331 (Int.toNat y2)))) ((W2 332 (Int.toNat ((12 * x2) + (W2 331 (Int.toNat y2))))) + 2)) 331 (Int.toNat y1))))) - 1)) 331 (Int.toNat ((up (up W2 332 (Int.toNat ((12 * x2) + (W2 331 (Int.toNat y2)))) ((W2 332 (Int.toNat ((12 * x2) + (W2 331 (Int.toNat y2))))) + 2)) 332 (Int.toNat ((12 * x2) + ((up W2 332 (Int.toNat ((12 * x2) + (W2 331 (Int.toNat y2)))) ((W2 332 (Int.toNat ((12 * x2) + (W2 331 (Int.toNat y2))))) + 2)) 331 (Int.toNat y1)))) (((up W2 332 (Int.toNat ((12 * x2) + (W2 331 (Int.toNat y2)))) ((W2 332 (Int.toNat ((12 * x2) + (W2 331 (Int.toNat y2))))) + 2)) 332 (Int.toNat ((12 * x2) + ((up W2 332 (Int.toNat ((12 * x2) + (W2 331 (Int.toNat y2)))) ((W2 332 (Int.toNat ((12 * x2) + (W2 331 (Int.toNat y2))))) + 2)) 331 (Int.toNat y1))))) - 1)) 316 (Int.toNat y1))))))) - 1)) Q))))) :
    kGo xs Lx (d + 3) 204 32 [some (.ref 299), some (kI x1), some (kI x2), none] [] V Q := by
  refine g_iload_n 33 gq204 rfl rfl rfl ?_
  refine g_aload_n 34 gq204 rfl rfl rfl ?_
  refine g_getA 37 307 gq204 rfl rfl rfl rfl rfl rfl rfl ?_
  refine g_iconst 38 gq204 rfl rfl ?_
  refine g_iald 39 gq204 rfl rfl rfl (by omega) ?_
  have c5 := h.1
  replace h := h.2
  have c7 := h.1
  replace h := h.2
  refine g_icmp_ge 127 42 gq204 rfl rfl rfl c5 c7 (fun c => ?_) (fun c => ?_)
  · replace h := h.1 c
    refine g_iload_n 128 gq204 rfl rfl rfl ?_
    exact g_iret gq204 rfl rfl h
  · replace h := h.2 c
    refine g_aload_n 43 gq204 rfl rfl rfl ?_
    refine g_iload_n 44 gq204 rfl rfl rfl ?_
    refine g_iconst 45 gq204 rfl rfl ?_
    refine g_virt 190 _ (i := 331) gq204 rfl rfl gq190 rfl rfl rfl rfl rfl rfl ?_
    refine kGo.mono h (fun r W1 hr => ?_)
    obtain ⟨y1, rfl, h⟩ := hr
    refine g_istore_n 49 gq204 rfl rfl rfl ?_
    refine g_aload_n 50 gq204 rfl rfl rfl ?_
    refine g_getA 53 332 gq204 rfl rfl rfl rfl rfl rfl rfl ?_
    refine g_bipush 55 gq204 rfl rfl rfl ?_
    refine g_iload_n 56 gq204 rfl rfl rfl ?_
    refine g_imul 57 gq204 rfl rfl ?_
    refine g_aload_n 58 gq204 rfl rfl rfl ?_
    refine g_getA 61 331 gq204 rfl rfl rfl rfl rfl rfl rfl ?_
    refine g_aload_n 62 gq204 rfl rfl rfl ?_
    refine g_iload_n 63 gq204 rfl rfl rfl ?_
    refine g_iconst 64 gq204 rfl rfl ?_
    refine g_virt 190 _ (i := 331) gq204 rfl rfl gq190 rfl rfl rfl rfl rfl rfl ?_
    refine kGo.mono h (fun r W2 hr => ?_)
    obtain ⟨y2, rfl, h⟩ := hr
    have c34 := h.1
    replace h := h.2
    refine g_iald 68 gq204 rfl rfl rfl c34 ?_
    refine g_iadd 69 gq204 rfl rfl ?_
    refine g_dup2 70 gq204 rfl rfl rfl rfl ?_
    have c39 := h.1
    replace h := h.2
    refine g_lald 71 gq204 rfl rfl rfl c39 ?_
    refine g_ldc2 74 (2) gq204 rfl rfl rfl rfl ?_
    refine g_ladd 75 gq204 rfl rfl ?_
    refine g_last 76 gq204 rfl rfl rfl c39 ?_
    refine g_aload_n 77 gq204 rfl rfl rfl ?_
    refine g_getA 80 332 gq204 rfl rfl rfl rfl rfl rfl rfl ?_
    refine g_bipush 82 gq204 rfl rfl rfl ?_
    refine g_iload_n 83 gq204 rfl rfl rfl ?_
    refine g_imul 84 gq204 rfl rfl ?_
    refine g_aload_n 85 gq204 rfl rfl rfl ?_
    refine g_getA 88 331 gq204 rfl rfl rfl rfl rfl rfl rfl ?_
    refine g_iload_n 89 gq204 rfl rfl rfl ?_
    have c53 := h.1
    replace h := h.2
    refine g_iald 90 gq204 rfl rfl rfl c53 ?_
    refine g_iadd 91 gq204 rfl rfl ?_
    refine g_dup2 92 gq204 rfl rfl rfl rfl ?_
    have c58 := h.1
    replace h := h.2
    refine g_lald 93 gq204 rfl rfl rfl c58 ?_
    refine g_lconst 94 1 gq204 rfl rfl rfl ?_
    refine g_lsub 95 gq204 rfl rfl ?_
    refine g_last 96 gq204 rfl rfl rfl c58 ?_
    refine g_aload_n 97 gq204 rfl rfl rfl ?_
    refine g_getA 100 332 gq204 rfl rfl rfl rfl rfl rfl rfl ?_
    refine g_bipush 102 gq204 rfl rfl rfl ?_
    refine g_iload_n 103 gq204 rfl rfl rfl ?_
    refine g_imul 104 gq204 rfl rfl ?_
    refine g_aload_n 105 gq204 rfl rfl rfl ?_
    refine g_getA 108 331 gq204 rfl rfl rfl rfl rfl rfl rfl ?_
    refine g_aload_n 109 gq204 rfl rfl rfl ?_
    refine g_getA 112 316 gq204 rfl rfl rfl rfl rfl rfl rfl ?_
    refine g_iload_n 113 gq204 rfl rfl rfl ?_
    refine g_iald 114 gq204 rfl rfl rfl c53 ?_
    have c75 := h.1
    replace h := h.2
    refine g_iald 115 gq204 rfl rfl rfl c75 ?_
    refine g_iadd 116 gq204 rfl rfl ?_
    refine g_dup2 117 gq204 rfl rfl rfl rfl ?_
    have c80 := h.1
    replace h := h.2
    refine g_lald 118 gq204 rfl rfl rfl c80 ?_
    refine g_lconst 119 1 gq204 rfl rfl rfl ?_
    refine g_lsub 120 gq204 rfl rfl ?_
    refine g_last 121 gq204 rfl rfl rfl c80 ?_
    refine g_iinc 124 gq204 rfl rfl rfl rfl ?_
    refine g_goto 32 gq204 rfl rfl ?_
    exact kGo.weak (km_Le.s (km_Le.s (km_Le.s (km_Le.n km_Le.nil)))) h
set_option maxRecDepth 10000 in
theorem b205_0 {xs : Nat → Int32} {Lx d : Nat} {V : km_V} {Q : Option Value → km_V → Prop} {a1 : Int} 
    (h : (kR a1) ∧ ((a1 = 2 →
    kCI xs Lx (d + 3) 204 4 [.ref 299] V (fun y1 W1 =>
    (∀ z2 : Int, z2 = (W1 307 (Int.toNat 1)) → kGo xs Lx (d + 4) 205 55 [some (.ref 299), some (kI a1), some (kI y1), some (kI z2), some (kI 0), some (kI 0), none, none] [] W1 Q))) ∧
   (a1 ≠ 2 →
    ((a1 = 3 →
      kCI xs Lx (d + 3) 204 4 [.ref 299] V (fun y3 W3 =>
      (∀ z4 : Int, z4 = (W3 307 (Int.toNat 1)) → kGo xs Lx (d + 4) 205 55 [some (.ref 299), some (kI a1), some (kI y3), some (kI z4), some (kI 0), some (kI 0), none, none] [] W3 Q))) ∧
     (a1 ≠ 3 →
      ((a1 = 5 →
        kCI xs Lx (d + 3) 204 4 [.ref 299] V (fun y5 W5 =>
        (∀ z6 : Int, z6 = (W5 307 (Int.toNat 1)) → kGo xs Lx (d + 4) 205 55 [some (.ref 299), some (kI a1), some (kI y5), some (kI z6), some (kI 0), some (kI 0), none, none] [] W5 Q))) ∧
       (a1 ≠ 5 →
        ((a1 = 7 →
          kCI xs Lx (d + 3) 204 4 [.ref 299] V (fun y7 W7 =>
          (∀ z8 : Int, z8 = (W7 307 (Int.toNat 1)) → kGo xs Lx (d + 4) 205 55 [some (.ref 299), some (kI a1), some (kI y7), some (kI z8), some (kI 0), some (kI 0), none, none] [] W7 Q))) ∧
         (a1 ≠ 7 →
          ((a1 = 11 →
            kCI xs Lx (d + 3) 204 4 [.ref 299] V (fun y9 W9 =>
            (∀ z10 : Int, z10 = (W9 307 (Int.toNat 1)) → kGo xs Lx (d + 4) 205 55 [some (.ref 299), some (kI a1), some (kI y9), some (kI z10), some (kI 0), some (kI 0), none, none] [] W9 Q))) ∧
           (a1 ≠ 11 →
            ((a1 = 13 →
              kCI xs Lx (d + 3) 204 4 [.ref 299] V (fun y11 W11 =>
              (∀ z12 : Int, z12 = (W11 307 (Int.toNat 1)) → kGo xs Lx (d + 4) 205 55 [some (.ref 299), some (kI a1), some (kI y11), some (kI z12), some (kI 0), some (kI 0), none, none] [] W11 Q))) ∧
             (a1 ≠ 13 →
              Q (some (kJ (-1))) V))))))))))))) :
    kGo xs Lx (d + 4) 205 0 [some (.ref 299), some (kI a1), none, none, none, none, none, none] [] V Q := by
  refine g_iload_n 1 gq205 rfl rfl rfl ?_
  refine g_iconst 2 gq205 rfl rfl ?_
  have c2 := h.1
  replace h := h.2
  refine g_icmp_eq 37 5 gq205 rfl rfl rfl c2 (by omega) (fun c => ?_) (fun c => ?_)
  · replace h := h.1 c
    refine g_aload_n 38 gq205 rfl rfl rfl ?_
    refine g_virt 204 _ (i := 359) gq205 rfl rfl gq204 rfl rfl rfl rfl rfl rfl ?_
    refine kGo.mono h (fun r W1 hr => ?_)
    obtain ⟨y1, rfl, h⟩ := hr
    refine g_istore_n 42 gq205 rfl rfl rfl ?_
    refine g_aload_n 43 gq205 rfl rfl rfl ?_
    refine g_getA 46 307 gq205 rfl rfl rfl rfl rfl rfl rfl ?_
    refine g_iconst 47 gq205 rfl rfl ?_
    refine g_iald 48 gq205 rfl rfl rfl (by omega) ?_
    refine g_istore_n 49 gq205 rfl rfl rfl ?_
    replace h := h _ rfl
    refine g_iconst 50 gq205 rfl rfl ?_
    refine g_istore 52 gq205 rfl rfl rfl ?_
    refine g_iconst 53 gq205 rfl rfl ?_
    refine g_istore 55 gq205 rfl rfl rfl ?_
    exact kGo.weak (km_Le.s (km_Le.s (km_Le.s (km_Le.s (km_Le.s (km_Le.s (km_Le.n (km_Le.n km_Le.nil)))))))) h
  · replace h := h.2 c
    refine g_iload_n 6 gq205 rfl rfl rfl ?_
    refine g_iconst 7 gq205 rfl rfl ?_
    refine g_icmp_eq 37 10 gq205 rfl rfl rfl c2 (by omega) (fun c => ?_) (fun c => ?_)
    · replace h := h.1 c
      refine g_aload_n 38 gq205 rfl rfl rfl ?_
      refine g_virt 204 _ (i := 359) gq205 rfl rfl gq204 rfl rfl rfl rfl rfl rfl ?_
      refine kGo.mono h (fun r W3 hr => ?_)
      obtain ⟨y3, rfl, h⟩ := hr
      refine g_istore_n 42 gq205 rfl rfl rfl ?_
      refine g_aload_n 43 gq205 rfl rfl rfl ?_
      refine g_getA 46 307 gq205 rfl rfl rfl rfl rfl rfl rfl ?_
      refine g_iconst 47 gq205 rfl rfl ?_
      refine g_iald 48 gq205 rfl rfl rfl (by omega) ?_
      refine g_istore_n 49 gq205 rfl rfl rfl ?_
      replace h := h _ rfl
      refine g_iconst 50 gq205 rfl rfl ?_
      refine g_istore 52 gq205 rfl rfl rfl ?_
      refine g_iconst 53 gq205 rfl rfl ?_
      refine g_istore 55 gq205 rfl rfl rfl ?_
      exact kGo.weak (km_Le.s (km_Le.s (km_Le.s (km_Le.s (km_Le.s (km_Le.s (km_Le.n (km_Le.n km_Le.nil)))))))) h
    · replace h := h.2 c
      refine g_iload_n 11 gq205 rfl rfl rfl ?_
      refine g_iconst 12 gq205 rfl rfl ?_
      refine g_icmp_eq 37 15 gq205 rfl rfl rfl c2 (by omega) (fun c => ?_) (fun c => ?_)
      · replace h := h.1 c
        refine g_aload_n 38 gq205 rfl rfl rfl ?_
        refine g_virt 204 _ (i := 359) gq205 rfl rfl gq204 rfl rfl rfl rfl rfl rfl ?_
        refine kGo.mono h (fun r W5 hr => ?_)
        obtain ⟨y5, rfl, h⟩ := hr
        refine g_istore_n 42 gq205 rfl rfl rfl ?_
        refine g_aload_n 43 gq205 rfl rfl rfl ?_
        refine g_getA 46 307 gq205 rfl rfl rfl rfl rfl rfl rfl ?_
        refine g_iconst 47 gq205 rfl rfl ?_
        refine g_iald 48 gq205 rfl rfl rfl (by omega) ?_
        refine g_istore_n 49 gq205 rfl rfl rfl ?_
        replace h := h _ rfl
        refine g_iconst 50 gq205 rfl rfl ?_
        refine g_istore 52 gq205 rfl rfl rfl ?_
        refine g_iconst 53 gq205 rfl rfl ?_
        refine g_istore 55 gq205 rfl rfl rfl ?_
        exact kGo.weak (km_Le.s (km_Le.s (km_Le.s (km_Le.s (km_Le.s (km_Le.s (km_Le.n (km_Le.n km_Le.nil)))))))) h
      · replace h := h.2 c
        refine g_iload_n 16 gq205 rfl rfl rfl ?_
        refine g_bipush 18 gq205 rfl rfl rfl ?_
        refine g_icmp_eq 37 21 gq205 rfl rfl rfl c2 (by omega) (fun c => ?_) (fun c => ?_)
        · replace h := h.1 c
          refine g_aload_n 38 gq205 rfl rfl rfl ?_
          refine g_virt 204 _ (i := 359) gq205 rfl rfl gq204 rfl rfl rfl rfl rfl rfl ?_
          refine kGo.mono h (fun r W7 hr => ?_)
          obtain ⟨y7, rfl, h⟩ := hr
          refine g_istore_n 42 gq205 rfl rfl rfl ?_
          refine g_aload_n 43 gq205 rfl rfl rfl ?_
          refine g_getA 46 307 gq205 rfl rfl rfl rfl rfl rfl rfl ?_
          refine g_iconst 47 gq205 rfl rfl ?_
          refine g_iald 48 gq205 rfl rfl rfl (by omega) ?_
          refine g_istore_n 49 gq205 rfl rfl rfl ?_
          replace h := h _ rfl
          refine g_iconst 50 gq205 rfl rfl ?_
          refine g_istore 52 gq205 rfl rfl rfl ?_
          refine g_iconst 53 gq205 rfl rfl ?_
          refine g_istore 55 gq205 rfl rfl rfl ?_
          exact kGo.weak (km_Le.s (km_Le.s (km_Le.s (km_Le.s (km_Le.s (km_Le.s (km_Le.n (km_Le.n km_Le.nil)))))))) h
        · replace h := h.2 c
          refine g_iload_n 22 gq205 rfl rfl rfl ?_
          refine g_bipush 24 gq205 rfl rfl rfl ?_
          refine g_icmp_eq 37 27 gq205 rfl rfl rfl c2 (by omega) (fun c => ?_) (fun c => ?_)
          · replace h := h.1 c
            refine g_aload_n 38 gq205 rfl rfl rfl ?_
            refine g_virt 204 _ (i := 359) gq205 rfl rfl gq204 rfl rfl rfl rfl rfl rfl ?_
            refine kGo.mono h (fun r W9 hr => ?_)
            obtain ⟨y9, rfl, h⟩ := hr
            refine g_istore_n 42 gq205 rfl rfl rfl ?_
            refine g_aload_n 43 gq205 rfl rfl rfl ?_
            refine g_getA 46 307 gq205 rfl rfl rfl rfl rfl rfl rfl ?_
            refine g_iconst 47 gq205 rfl rfl ?_
            refine g_iald 48 gq205 rfl rfl rfl (by omega) ?_
            refine g_istore_n 49 gq205 rfl rfl rfl ?_
            replace h := h _ rfl
            refine g_iconst 50 gq205 rfl rfl ?_
            refine g_istore 52 gq205 rfl rfl rfl ?_
            refine g_iconst 53 gq205 rfl rfl ?_
            refine g_istore 55 gq205 rfl rfl rfl ?_
            exact kGo.weak (km_Le.s (km_Le.s (km_Le.s (km_Le.s (km_Le.s (km_Le.s (km_Le.n (km_Le.n km_Le.nil)))))))) h
          · replace h := h.2 c
            refine g_iload_n 28 gq205 rfl rfl rfl ?_
            refine g_bipush 30 gq205 rfl rfl rfl ?_
            refine g_icmp_eq 37 33 gq205 rfl rfl rfl c2 (by omega) (fun c => ?_) (fun c => ?_)
            · replace h := h.1 c
              refine g_aload_n 38 gq205 rfl rfl rfl ?_
              refine g_virt 204 _ (i := 359) gq205 rfl rfl gq204 rfl rfl rfl rfl rfl rfl ?_
              refine kGo.mono h (fun r W11 hr => ?_)
              obtain ⟨y11, rfl, h⟩ := hr
              refine g_istore_n 42 gq205 rfl rfl rfl ?_
              refine g_aload_n 43 gq205 rfl rfl rfl ?_
              refine g_getA 46 307 gq205 rfl rfl rfl rfl rfl rfl rfl ?_
              refine g_iconst 47 gq205 rfl rfl ?_
              refine g_iald 48 gq205 rfl rfl rfl (by omega) ?_
              refine g_istore_n 49 gq205 rfl rfl rfl ?_
              replace h := h _ rfl
              refine g_iconst 50 gq205 rfl rfl ?_
              refine g_istore 52 gq205 rfl rfl rfl ?_
              refine g_iconst 53 gq205 rfl rfl ?_
              refine g_istore 55 gq205 rfl rfl rfl ?_
              exact kGo.weak (km_Le.s (km_Le.s (km_Le.s (km_Le.s (km_Le.s (km_Le.s (km_Le.n (km_Le.n km_Le.nil)))))))) h
            · replace h := h.2 c
              refine g_ldc2 36 (-1) gq205 rfl rfl rfl rfl ?_
              exact g_lret gq205 rfl rfl h
set_option maxRecDepth 10000 in
theorem b205_55 {xs : Nat → Int32} {Lx d : Nat} {V : km_V} {Q : Option Value → km_V → Prop} {x1 x2 x3 x4 x5 : Int} 
    (h : (kR x5) ∧ (kR x2) ∧ ((x2 ≤ x5 →
    kGo xs Lx (d + 4) 205 165 [none, some (kI x1), some (kI x2), none, none, some (kJ 1), none, some (kI x4)] [] V Q) ∧
   (x5 < x2 →
    kGo xs Lx (d + 4) 205 65 [some (.ref 299), some (kI x1), some (kI x2), some (kI x3), some (kI x4), some (kI x5), some (kI x4), none] [] V Q))) :
    kGo xs Lx (d + 4) 205 55 [some (.ref 299), some (kI x1), some (kI x2), some (kI x3), some (kI x4), some (kI x5), none, none] [] V Q := by
  refine g_iload 57 gq205 rfl rfl rfl ?_
  refine g_iload_n 58 gq205 rfl rfl rfl ?_
  have c2 := h.1
  replace h := h.2
  have c4 := h.1
  replace h := h.2
  refine g_icmp_ge 158 61 gq205 rfl rfl rfl c2 c4 (fun c => ?_) (fun c => ?_)
  · replace h := h.1 c
    refine g_lconst 159 1 gq205 rfl rfl rfl ?_
    refine g_lstore 161 gq205 rfl rfl rfl ?_
    refine g_iload 163 gq205 rfl rfl rfl ?_
    refine g_istore 165 gq205 rfl rfl rfl ?_
    exact kGo.weak (km_Le.n (km_Le.s (km_Le.s (km_Le.n (km_Le.n (km_Le.s (km_Le.n (km_Le.s km_Le.nil)))))))) h
  · replace h := h.2 c
    refine g_iload 63 gq205 rfl rfl rfl ?_
    refine g_istore 65 gq205 rfl rfl rfl ?_
    exact kGo.weak (km_Le.s (km_Le.s (km_Le.s (km_Le.s (km_Le.s (km_Le.s (km_Le.s (km_Le.n km_Le.nil)))))))) h
set_option maxRecDepth 10000 in
theorem b205_165 {xs : Nat → Int32} {Lx d : Nat} {V : km_V} {Q : Option Value → km_V → Prop} {x1 x2 x5 x7 : Int} 
    (h : (kR x7) ∧ (kR x2) ∧ ((x2 ≤ x7 →
    Q (some (kJ x5)) V) ∧
   (x7 < x2 →
    (kR x1) ∧ kGo xs Lx (d + 4) 205 165 [none, some (kI x1), some (kI x2), none, none, some (kJ (x5 * x1)), none, some (kI (x7 + 1))] [] V Q))) :
    kGo xs Lx (d + 4) 205 165 [none, some (kI x1), some (kI x2), none, none, some (kJ x5), none, some (kI x7)] [] V Q := by
  refine g_iload 167 gq205 rfl rfl rfl ?_
  refine g_iload_n 168 gq205 rfl rfl rfl ?_
  have c2 := h.1
  replace h := h.2
  have c4 := h.1
  replace h := h.2
  refine g_icmp_ge 184 171 gq205 rfl rfl rfl c2 c4 (fun c => ?_) (fun c => ?_)
  · replace h := h.1 c
    refine g_lload 186 gq205 rfl rfl rfl ?_
    exact g_lret gq205 rfl rfl h
  · replace h := h.2 c
    refine g_lload 173 gq205 rfl rfl rfl ?_
    refine g_iload_n 174 gq205 rfl rfl rfl ?_
    have c13 := h.1
    replace h := h.2
    refine g_i2l 175 gq205 rfl rfl c13 ?_
    refine g_lmul 176 gq205 rfl rfl ?_
    refine g_lstore 178 gq205 rfl rfl rfl ?_
    refine g_iinc 181 gq205 rfl rfl rfl rfl ?_
    refine g_goto 165 gq205 rfl rfl ?_
    exact kGo.weak (km_Le.n (km_Le.s (km_Le.s (km_Le.n (km_Le.n (km_Le.s (km_Le.n (km_Le.s km_Le.nil)))))))) h
set_option maxRecDepth 10000 in
theorem b205_65 {xs : Nat → Int32} {Lx d : Nat} {V : km_V} {Q : Option Value → km_V → Prop} {x1 x2 x3 x4 x5 x6 : Int} 
    (h : (kR x6) ∧ (kR x3) ∧ ((x3 ≤ x6 →
    kGo xs Lx (d + 4) 205 55 [some (.ref 299), some (kI x1), some (kI x2), some (kI x3), some (kI x4), some (kI (x5 + 1)), none, none] [] V Q) ∧
   (x6 < x3 →
    (0 ≤ ((12 * x6) + x5) ∧ ((12 * x6) + x5) < (96 : Nat)) ∧ kCJ xs Lx (d + 3) 206 3 [kJ (V 332 (Int.toNat ((12 * x6) + x5))), kI x1] V (fun y1 W1 =>
    (kR64 y1) ∧ (kR (kcmp y1 0)) ∧ (((kcmp y1 0) ≠ 0 →
      kCV xs Lx (d + 3) 207 6 [.ref 299, kI x6, kI x4] W1 (fun W2 =>
      kGo xs Lx (d + 4) 205 119 [some (.ref 299), some (kI x1), some (kI x2), some (kI x3), some (kI x4), some (kI x5), none, some (kI 0)] [] W2 Q)) ∧
     ((kcmp y1 0) = 0 →
      kGo xs Lx (d + 4) 205 65 [some (.ref 299), some (kI x1), some (kI x2), some (kI x3), some (kI x4), some (kI x5), some (kI (x6 + 1)), none] [] W1 Q)))))) :
    kGo xs Lx (d + 4) 205 65 [some (.ref 299), some (kI x1), some (kI x2), some (kI x3), some (kI x4), some (kI x5), some (kI x6), none] [] V Q := by
  refine g_iload 67 gq205 rfl rfl rfl ?_
  refine g_iload_n 68 gq205 rfl rfl rfl ?_
  have c2 := h.1
  replace h := h.2
  have c4 := h.1
  replace h := h.2
  refine g_icmp_ge 99 71 gq205 rfl rfl rfl c2 c4 (fun c => ?_) (fun c => ?_)
  · replace h := h.1 c
    refine g_iload 101 gq205 rfl rfl rfl ?_
    refine g_iload_n 102 gq205 rfl rfl rfl ?_
    refine g_icmp_lt 108 105 gq205 rfl rfl rfl c2 c4 (fun c => ?_) (fun c => ?_)
    · exfalso; omega
    refine g_goto 152 gq205 rfl rfl ?_
    refine g_iinc 155 gq205 rfl rfl rfl rfl ?_
    refine g_goto 55 gq205 rfl rfl ?_
    exact kGo.weak (km_Le.s (km_Le.s (km_Le.s (km_Le.s (km_Le.s (km_Le.s (km_Le.n (km_Le.n km_Le.nil)))))))) h
  · replace h := h.2 c
    refine g_aload_n 72 gq205 rfl rfl rfl ?_
    refine g_getA 75 332 gq205 rfl rfl rfl rfl rfl rfl rfl ?_
    refine g_bipush 77 gq205 rfl rfl rfl ?_
    refine g_iload 79 gq205 rfl rfl rfl ?_
    refine g_imul 80 gq205 rfl rfl ?_
    refine g_iload 82 gq205 rfl rfl rfl ?_
    refine g_iadd 83 gq205 rfl rfl ?_
    have c24 := h.1
    replace h := h.2
    refine g_lald 84 gq205 rfl rfl rfl c24 ?_
    refine g_iload_n 85 gq205 rfl rfl rfl ?_
    refine g_static 206 _ (i := 363) gq205 rfl rfl gq206 rfl rfl rfl rfl ?_
    refine kGo.mono h (fun r W1 hr => ?_)
    obtain ⟨y1, rfl, h⟩ := hr
    refine g_lconst 89 0 gq205 rfl rfl rfl ?_
    have c32 := h.1
    replace h := h.2
    refine g_lcmp 90 gq205 rfl rfl c32 (by omega) ?_
    have c35 := h.1
    replace h := h.2
    refine g_if_ne 99 93 gq205 rfl rfl rfl c35 (fun c => ?_) (fun c => ?_)
    · replace h := h.1 c
      refine g_iload 101 gq205 rfl rfl rfl ?_
      refine g_iload_n 102 gq205 rfl rfl rfl ?_
      refine g_icmp_lt 108 105 gq205 rfl rfl rfl c2 c4 (fun c => ?_) (fun c => ?_)
      rotate_left
      · exfalso; omega
      refine g_aload_n 109 gq205 rfl rfl rfl ?_
      refine g_iload 111 gq205 rfl rfl rfl ?_
      refine g_iload 113 gq205 rfl rfl rfl ?_
      refine g_virt 207 _ (i := 366) gq205 rfl rfl gq207 rfl rfl rfl rfl rfl rfl ?_
      refine kGo.mono h (fun r W2 hr => ?_)
      obtain ⟨rfl, h⟩ := hr
      refine g_iconst 117 gq205 rfl rfl ?_
      refine g_istore 119 gq205 rfl rfl rfl ?_
      exact kGo.weak (km_Le.s (km_Le.s (km_Le.s (km_Le.s (km_Le.s (km_Le.s (km_Le.n (km_Le.s km_Le.nil)))))))) h
    · replace h := h.2 c
      refine g_iinc 96 gq205 rfl rfl rfl rfl ?_
      refine g_goto 65 gq205 rfl rfl ?_
      exact kGo.weak (km_Le.s (km_Le.s (km_Le.s (km_Le.s (km_Le.s (km_Le.s (km_Le.s (km_Le.n km_Le.nil)))))))) h
set_option maxRecDepth 10000 in
theorem b205_119 {xs : Nat → Int32} {Lx d : Nat} {V : km_V} {Q : Option Value → km_V → Prop} {x1 x2 x3 x4 x5 x7 : Int} 
    (h : (kR x7) ∧ (kR x3) ∧ ((x3 ≤ x7 →
    kGo xs Lx (d + 4) 205 55 [some (.ref 299), some (kI x1), some (kI x2), some (kI x3), some (kI (x4 + 1)), some (kI (x5 + 1)), none, none] [] V Q) ∧
   (x7 < x3 →
    (kR x4) ∧ ((x7 = x4 →
      kGo xs Lx (d + 4) 205 119 [some (.ref 299), some (kI x1), some (kI x2), some (kI x3), some (kI x4), some (kI x5), none, some (kI (x7 + 1))] [] V Q) ∧
     (x7 ≠ x4 →
      kCV xs Lx (d + 3) 208 10 [.ref 299, kI x7, kI x4, kI x5, kI x1] V (fun W1 =>
      kGo xs Lx (d + 4) 205 119 [some (.ref 299), some (kI x1), some (kI x2), some (kI x3), some (kI x4), some (kI x5), none, some (kI (x7 + 1))] [] W1 Q)))))) :
    kGo xs Lx (d + 4) 205 119 [some (.ref 299), some (kI x1), some (kI x2), some (kI x3), some (kI x4), some (kI x5), none, some (kI x7)] [] V Q := by
  refine g_iload 121 gq205 rfl rfl rfl ?_
  refine g_iload_n 122 gq205 rfl rfl rfl ?_
  have c2 := h.1
  replace h := h.2
  have c4 := h.1
  replace h := h.2
  refine g_icmp_ge 149 125 gq205 rfl rfl rfl c2 c4 (fun c => ?_) (fun c => ?_)
  · replace h := h.1 c
    refine g_iinc 152 gq205 rfl rfl rfl rfl ?_
    refine g_iinc 155 gq205 rfl rfl rfl rfl ?_
    refine g_goto 55 gq205 rfl rfl ?_
    exact kGo.weak (km_Le.s (km_Le.s (km_Le.s (km_Le.s (km_Le.s (km_Le.s (km_Le.n (km_Le.n km_Le.nil)))))))) h
  · replace h := h.2 c
    refine g_iload 127 gq205 rfl rfl rfl ?_
    refine g_iload 129 gq205 rfl rfl rfl ?_
    have c15 := h.1
    replace h := h.2
    refine g_icmp_eq 143 132 gq205 rfl rfl rfl c2 c15 (fun c => ?_) (fun c => ?_)
    · replace h := h.1 c
      refine g_iinc 146 gq205 rfl rfl rfl rfl ?_
      refine g_goto 119 gq205 rfl rfl ?_
      exact kGo.weak (km_Le.s (km_Le.s (km_Le.s (km_Le.s (km_Le.s (km_Le.s (km_Le.n (km_Le.s km_Le.nil)))))))) h
    · replace h := h.2 c
      refine g_aload_n 133 gq205 rfl rfl rfl ?_
      refine g_iload 135 gq205 rfl rfl rfl ?_
      refine g_iload 137 gq205 rfl rfl rfl ?_
      refine g_iload 139 gq205 rfl rfl rfl ?_
      refine g_iload_n 140 gq205 rfl rfl rfl ?_
      refine g_virt 208 _ (i := 369) gq205 rfl rfl gq208 rfl rfl rfl rfl rfl rfl ?_
      refine kGo.mono h (fun r W1 hr => ?_)
      obtain ⟨rfl, h⟩ := hr
      refine g_iinc 146 gq205 rfl rfl rfl rfl ?_
      refine g_goto 119 gq205 rfl rfl ?_
      exact kGo.weak (km_Le.s (km_Le.s (km_Le.s (km_Le.s (km_Le.s (km_Le.s (km_Le.n (km_Le.s km_Le.nil)))))))) h
set_option maxRecDepth 10000 in
theorem b206_0 {xs : Nat → Int32} {Lx d : Nat} {V : km_V} {Q : Option Value → km_V → Prop} {a0 a2 : Int} 
    (h : (kR a2) ∧ (kR64 a0) ∧ (kR64 a2 ∧ a2 ≠ 0) ∧ (kR64 ((Int.tmod a0 a2) + a2)) ∧ Q (some (kJ (Int.tmod ((Int.tmod a0 a2) + a2) a2))) V) :
    kGo xs Lx (d + 0) 206 0 [some (kJ a0), none, some (kI a2)] [] V Q := by
  refine g_lload_n 1 gq206 rfl rfl rfl ?_
  refine g_iload_n 2 gq206 rfl rfl rfl ?_
  have c2 := h.1
  replace h := h.2
  refine g_i2l 3 gq206 rfl rfl c2 ?_
  have c5 := h.1
  replace h := h.2
  have c7 := h.1
  replace h := h.2
  refine g_lremT 4 gq206 rfl rfl c5 c7 ?_
  refine g_iload_n 5 gq206 rfl rfl rfl ?_
  refine g_i2l 6 gq206 rfl rfl c2 ?_
  refine g_ladd 7 gq206 rfl rfl ?_
  refine g_iload_n 8 gq206 rfl rfl rfl ?_
  refine g_i2l 9 gq206 rfl rfl c2 ?_
  have c15 := h.1
  replace h := h.2
  refine g_lremT 10 gq206 rfl rfl c15 c7 ?_
  exact g_lret gq206 rfl rfl h
set_option maxRecDepth 10000 in
theorem b207_0 {xs : Nat → Int32} {Lx d : Nat} {V : km_V} {Q : Option Value → km_V → Prop} {a1 a2 : Int} 
    (h : kGo xs Lx (d + 0) 207 2 [some (.ref 299), some (kI a1), some (kI a2), some (kI 0), none, none] [] V Q) :
    kGo xs Lx (d + 0) 207 0 [some (.ref 299), some (kI a1), some (kI a2), none, none, none] [] V Q := by
  refine g_iconst 1 gq207 rfl rfl ?_
  refine g_istore_n 2 gq207 rfl rfl rfl ?_
  exact kGo.weak (km_Le.s (km_Le.s (km_Le.s (km_Le.s (km_Le.n (km_Le.n km_Le.nil)))))) h
set_option maxRecDepth 10000 in
theorem b207_2 {xs : Nat → Int32} {Lx d : Nat} {V : km_V} {Q : Option Value → km_V → Prop} {x1 x2 x3 : Int} 
    (h : (kR x3) ∧ ((12 ≤ x3 →
    Q none V) ∧
   (x3 < 12 →
    (0 ≤ ((12 * x1) + x3) ∧ ((12 * x1) + x3) < (96 : Nat)) ∧ (∀ z1 : Int, z1 = (V 332 (Int.toNat ((12 * x1) + x3))) → (0 ≤ ((12 * x2) + x3) ∧ ((12 * x2) + x3) < (96 : Nat)) ∧ kGo xs Lx (d + 0) 207 2 [some (.ref 299), some (kI x1), some (kI x2), some (kI (x3 + 1)), none, none] [] (up (up V 332 (Int.toNat ((12 * x1) + x3)) (V 332 (Int.toNat ((12 * x2) + x3)))) 332 (Int.toNat ((12 * x2) + x3)) z1) Q)))) :
    kGo xs Lx (d + 0) 207 2 [some (.ref 299), some (kI x1), some (kI x2), some (kI x3), none, none] [] V Q := by
  refine g_iload_n 3 gq207 rfl rfl rfl ?_
  refine g_bipush 5 gq207 rfl rfl rfl ?_
  have c2 := h.1
  replace h := h.2
  refine g_icmp_ge 62 8 gq207 rfl rfl rfl c2 (by omega) (fun c => ?_) (fun c => ?_)
  · replace h := h.1 c
    exact g_vret gq207 rfl rfl h
  · replace h := h.2 c
    refine g_aload_n 9 gq207 rfl rfl rfl ?_
    refine g_getA 12 332 gq207 rfl rfl rfl rfl rfl rfl rfl ?_
    refine g_bipush 14 gq207 rfl rfl rfl ?_
    refine g_iload_n 15 gq207 rfl rfl rfl ?_
    refine g_imul 16 gq207 rfl rfl ?_
    refine g_iload_n 17 gq207 rfl rfl rfl ?_
    refine g_iadd 18 gq207 rfl rfl ?_
    have c15 := h.1
    replace h := h.2
    refine g_lald 19 gq207 rfl rfl rfl c15 ?_
    refine g_lstore 21 gq207 rfl rfl rfl ?_
    replace h := h _ rfl
    refine g_aload_n 22 gq207 rfl rfl rfl ?_
    refine g_getA 25 332 gq207 rfl rfl rfl rfl rfl rfl rfl ?_
    refine g_bipush 27 gq207 rfl rfl rfl ?_
    refine g_iload_n 28 gq207 rfl rfl rfl ?_
    refine g_imul 29 gq207 rfl rfl ?_
    refine g_iload_n 30 gq207 rfl rfl rfl ?_
    refine g_iadd 31 gq207 rfl rfl ?_
    refine g_aload_n 32 gq207 rfl rfl rfl ?_
    refine g_getA 35 332 gq207 rfl rfl rfl rfl rfl rfl rfl ?_
    refine g_bipush 37 gq207 rfl rfl rfl ?_
    refine g_iload_n 38 gq207 rfl rfl rfl ?_
    refine g_imul 39 gq207 rfl rfl ?_
    refine g_iload_n 40 gq207 rfl rfl rfl ?_
    refine g_iadd 41 gq207 rfl rfl ?_
    have c34 := h.1
    replace h := h.2
    refine g_lald 42 gq207 rfl rfl rfl c34 ?_
    refine g_last 43 gq207 rfl rfl rfl c15 ?_
    refine g_aload_n 44 gq207 rfl rfl rfl ?_
    refine g_getA 47 332 gq207 rfl rfl rfl rfl rfl rfl rfl ?_
    refine g_bipush 49 gq207 rfl rfl rfl ?_
    refine g_iload_n 50 gq207 rfl rfl rfl ?_
    refine g_imul 51 gq207 rfl rfl ?_
    refine g_iload_n 52 gq207 rfl rfl rfl ?_
    refine g_iadd 53 gq207 rfl rfl ?_
    refine g_lload 55 gq207 rfl rfl rfl ?_
    refine g_last 56 gq207 rfl rfl rfl c34 ?_
    refine g_iinc 59 gq207 rfl rfl rfl rfl ?_
    refine g_goto 2 gq207 rfl rfl ?_
    exact kGo.weak (km_Le.s (km_Le.s (km_Le.s (km_Le.s (km_Le.n (km_Le.n km_Le.nil)))))) h
set_option maxRecDepth 10000 in
theorem b208_0 {xs : Nat → Int32} {Lx d : Nat} {V : km_V} {Q : Option Value → km_V → Prop} {a1 a2 a3 a4 : Int} 
    (h : (0 ≤ ((12 * a1) + a3) ∧ ((12 * a1) + a3) < (96 : Nat)) ∧ kCJ xs Lx (d + 0) 206 3 [kJ (V 332 (Int.toNat ((12 * a1) + a3))), kI a4] V (fun y1 W1 =>
  (0 ≤ ((12 * a2) + a3) ∧ ((12 * a2) + a3) < (96 : Nat)) ∧ kCJ xs Lx (d + 0) 206 3 [kJ (W1 332 (Int.toNat ((12 * a2) + a3))), kI a4] W1 (fun y2 W2 =>
  kGo xs Lx (d + 1) 208 39 [some (.ref 299), some (kI a1), some (kI a2), none, some (kI a4), some (kJ y1), none, some (kJ y2), none, some (kI 0)] [] W2 Q))) :
    kGo xs Lx (d + 1) 208 0 [some (.ref 299), some (kI a1), some (kI a2), some (kI a3), some (kI a4), none, none, none, none, none] [] V Q := by
  refine g_aload_n 1 gq208 rfl rfl rfl ?_
  refine g_getA 4 332 gq208 rfl rfl rfl rfl rfl rfl rfl ?_
  refine g_bipush 6 gq208 rfl rfl rfl ?_
  refine g_iload_n 7 gq208 rfl rfl rfl ?_
  refine g_imul 8 gq208 rfl rfl ?_
  refine g_iload_n 9 gq208 rfl rfl rfl ?_
  refine g_iadd 10 gq208 rfl rfl ?_
  have c7 := h.1
  replace h := h.2
  refine g_lald 11 gq208 rfl rfl rfl c7 ?_
  refine g_iload 13 gq208 rfl rfl rfl ?_
  refine g_static 206 _ (i := 363) gq208 rfl rfl gq206 rfl rfl rfl rfl ?_
  refine kGo.mono h (fun r W1 hr => ?_)
  obtain ⟨y1, rfl, h⟩ := hr
  refine g_lstore 18 gq208 rfl rfl rfl ?_
  refine g_aload_n 19 gq208 rfl rfl rfl ?_
  refine g_getA 22 332 gq208 rfl rfl rfl rfl rfl rfl rfl ?_
  refine g_bipush 24 gq208 rfl rfl rfl ?_
  refine g_iload_n 25 gq208 rfl rfl rfl ?_
  refine g_imul 26 gq208 rfl rfl ?_
  refine g_iload_n 27 gq208 rfl rfl rfl ?_
  refine g_iadd 28 gq208 rfl rfl ?_
  have c22 := h.1
  replace h := h.2
  refine g_lald 29 gq208 rfl rfl rfl c22 ?_
  refine g_iload 31 gq208 rfl rfl rfl ?_
  refine g_static 206 _ (i := 363) gq208 rfl rfl gq206 rfl rfl rfl rfl ?_
  refine kGo.mono h (fun r W2 hr => ?_)
  obtain ⟨y2, rfl, h⟩ := hr
  refine g_lstore 36 gq208 rfl rfl rfl ?_
  refine g_iconst 37 gq208 rfl rfl ?_
  refine g_istore 39 gq208 rfl rfl rfl ?_
  exact kGo.weak (km_Le.s (km_Le.s (km_Le.s (km_Le.n (km_Le.s (km_Le.s (km_Le.n (km_Le.s (km_Le.n (km_Le.s km_Le.nil)))))))))) h
set_option maxRecDepth 10000 in
theorem b208_39 {xs : Nat → Int32} {Lx d : Nat} {V : km_V} {Q : Option Value → km_V → Prop} {x1 x2 x4 x5 x7 x9 : Int} 
    (h : (kR x9) ∧ ((12 ≤ x9 →
    Q none V) ∧
   (x9 < 12 →
    (0 ≤ ((12 * x1) + x9) ∧ ((12 * x1) + x9) < (96 : Nat)) ∧ (0 ≤ ((12 * x2) + x9) ∧ ((12 * x2) + x9) < (96 : Nat)) ∧ kCJ xs Lx (d + 0) 206 3 [kJ (((V 332 (Int.toNat ((12 * x1) + x9))) * x7) - ((V 332 (Int.toNat ((12 * x2) + x9))) * x5)), kI x4] V (fun y1 W1 =>
    kGo xs Lx (d + 1) 208 39 [some (.ref 299), some (kI x1), some (kI x2), none, some (kI x4), some (kJ x5), none, some (kJ x7), none, some (kI (x9 + 1))] [] (up W1 332 (Int.toNat ((12 * x1) + x9)) y1) Q)))) :
    kGo xs Lx (d + 1) 208 39 [some (.ref 299), some (kI x1), some (kI x2), none, some (kI x4), some (kJ x5), none, some (kJ x7), none, some (kI x9)] [] V Q := by
  refine g_iload 41 gq208 rfl rfl rfl ?_
  refine g_bipush 43 gq208 rfl rfl rfl ?_
  have c2 := h.1
  replace h := h.2
  refine g_icmp_ge 100 46 gq208 rfl rfl rfl c2 (by omega) (fun c => ?_) (fun c => ?_)
  · replace h := h.1 c
    exact g_vret gq208 rfl rfl h
  · replace h := h.2 c
    refine g_aload_n 47 gq208 rfl rfl rfl ?_
    refine g_getA 50 332 gq208 rfl rfl rfl rfl rfl rfl rfl ?_
    refine g_bipush 52 gq208 rfl rfl rfl ?_
    refine g_iload_n 53 gq208 rfl rfl rfl ?_
    refine g_imul 54 gq208 rfl rfl ?_
    refine g_iload 56 gq208 rfl rfl rfl ?_
    refine g_iadd 57 gq208 rfl rfl ?_
    refine g_aload_n 58 gq208 rfl rfl rfl ?_
    refine g_getA 61 332 gq208 rfl rfl rfl rfl rfl rfl rfl ?_
    refine g_bipush 63 gq208 rfl rfl rfl ?_
    refine g_iload_n 64 gq208 rfl rfl rfl ?_
    refine g_imul 65 gq208 rfl rfl ?_
    refine g_iload 67 gq208 rfl rfl rfl ?_
    refine g_iadd 68 gq208 rfl rfl ?_
    have c22 := h.1
    replace h := h.2
    refine g_lald 69 gq208 rfl rfl rfl c22 ?_
    refine g_lload 71 gq208 rfl rfl rfl ?_
    refine g_lmul 72 gq208 rfl rfl ?_
    refine g_aload_n 73 gq208 rfl rfl rfl ?_
    refine g_getA 76 332 gq208 rfl rfl rfl rfl rfl rfl rfl ?_
    refine g_bipush 78 gq208 rfl rfl rfl ?_
    refine g_iload_n 79 gq208 rfl rfl rfl ?_
    refine g_imul 80 gq208 rfl rfl ?_
    refine g_iload 82 gq208 rfl rfl rfl ?_
    refine g_iadd 83 gq208 rfl rfl ?_
    have c34 := h.1
    replace h := h.2
    refine g_lald 84 gq208 rfl rfl rfl c34 ?_
    refine g_lload 86 gq208 rfl rfl rfl ?_
    refine g_lmul 87 gq208 rfl rfl ?_
    refine g_lsub 88 gq208 rfl rfl ?_
    refine g_iload 90 gq208 rfl rfl rfl ?_
    refine g_static 206 _ (i := 363) gq208 rfl rfl gq206 rfl rfl rfl rfl ?_
    refine kGo.mono h (fun r W1 hr => ?_)
    obtain ⟨y1, rfl, h⟩ := hr
    refine g_last 94 gq208 rfl rfl rfl c22 ?_
    refine g_iinc 97 gq208 rfl rfl rfl rfl ?_
    refine g_goto 39 gq208 rfl rfl ?_
    exact kGo.weak (km_Le.s (km_Le.s (km_Le.s (km_Le.n (km_Le.s (km_Le.s (km_Le.n (km_Le.s (km_Le.n (km_Le.s km_Le.nil)))))))))) h
set_option maxRecDepth 10000 in
theorem b209_0 {xs : Nat → Int32} {Lx d : Nat} {V : km_V} {Q : Option Value → km_V → Prop} 
    (h : (kR (V 307 (Int.toNat 0))) ∧ (((V 307 (Int.toNat 0)) ≠ 0 →
    (∀ z1 : Int, z1 = (V 307 (Int.toNat 1)) → (kR z1) ∧ ((z1 ≠ 0 →
      kCI xs Lx (d + 3) 204 4 [.ref 299] V (fun y2 W2 =>
      (kR y2) ∧ ((y2 ≤ z1 →
        kGo xs Lx (d + 4) 209 53 [some (.ref 299), some (kI z1), some (kJ 1), none, some (kI 0), none, none, none] [] W2 Q) ∧
       (z1 < y2 →
        Q (some (kJ 0)) W2)))) ∧
     (z1 = 0 →
      (((V 307 (Int.toNat 0)) ≠ 1 →
        Q (some (kJ 0)) V) ∧
       ((V 307 (Int.toNat 0)) = 1 →
        Q (some (kJ 1)) V)))))) ∧
   ((V 307 (Int.toNat 0)) = 0 →
    Q (some (kJ 0)) V))) :
    kGo xs Lx (d + 4) 209 0 [some (.ref 299), none, none, none, none, none, none, none] [] V Q := by
  refine g_aload_n 1 gq209 rfl rfl rfl ?_
  refine g_getA 4 307 gq209 rfl rfl rfl rfl rfl rfl rfl ?_
  refine g_iconst 5 gq209 rfl rfl ?_
  refine g_iald 6 gq209 rfl rfl rfl (by omega) ?_
  have c4 := h.1
  replace h := h.2
  refine g_if_ne 11 9 gq209 rfl rfl rfl c4 (fun c => ?_) (fun c => ?_)
  · replace h := h.1 c
    refine g_aload_n 12 gq209 rfl rfl rfl ?_
    refine g_getA 15 307 gq209 rfl rfl rfl rfl rfl rfl rfl ?_
    refine g_iconst 16 gq209 rfl rfl ?_
    refine g_iald 17 gq209 rfl rfl rfl (by omega) ?_
    refine g_istore_n 18 gq209 rfl rfl rfl ?_
    replace h := h _ rfl
    refine g_iload_n 19 gq209 rfl rfl rfl ?_
    have c15 := h.1
    replace h := h.2
    refine g_if_ne 38 22 gq209 rfl rfl rfl c15 (fun c => ?_) (fun c => ?_)
    · replace h := h.1 c
      refine g_aload_n 39 gq209 rfl rfl rfl ?_
      refine g_virt 204 _ (i := 359) gq209 rfl rfl gq204 rfl rfl rfl rfl rfl rfl ?_
      refine kGo.mono h (fun r W2 hr => ?_)
      obtain ⟨y2, rfl, h⟩ := hr
      refine g_iload_n 43 gq209 rfl rfl rfl ?_
      have c24 := h.1
      replace h := h.2
      refine g_icmp_le 48 46 gq209 rfl rfl rfl c24 c15 (fun c => ?_) (fun c => ?_)
      · replace h := h.1 c
        refine g_lconst 49 1 gq209 rfl rfl rfl ?_
        refine g_lstore_n 50 gq209 rfl rfl rfl ?_
        refine g_iconst 51 gq209 rfl rfl ?_
        refine g_istore 53 gq209 rfl rfl rfl ?_
        exact kGo.weak (km_Le.s (km_Le.s (km_Le.s (km_Le.n (km_Le.s (km_Le.n (km_Le.n (km_Le.n km_Le.nil)))))))) h
      · replace h := h.2 c
        refine g_lconst 47 0 gq209 rfl rfl rfl ?_
        exact g_lret gq209 rfl rfl h
    · replace h := h.2 c
      refine g_aload_n 23 gq209 rfl rfl rfl ?_
      refine g_getA 26 307 gq209 rfl rfl rfl rfl rfl rfl rfl ?_
      refine g_iconst 27 gq209 rfl rfl ?_
      refine g_iald 28 gq209 rfl rfl rfl (by omega) ?_
      refine g_iconst 29 gq209 rfl rfl ?_
      refine g_icmp_ne 36 32 gq209 rfl rfl rfl c4 (by omega) (fun c => ?_) (fun c => ?_)
      · replace h := h.1 c
        refine g_lconst 37 0 gq209 rfl rfl rfl ?_
        exact g_lret gq209 rfl rfl h
      · replace h := h.2 c
        refine g_lconst 33 1 gq209 rfl rfl rfl ?_
        refine g_goto 37 gq209 rfl rfl ?_
        exact g_lret gq209 rfl rfl h
  · replace h := h.2 c
    refine g_lconst 10 0 gq209 rfl rfl rfl ?_
    exact g_lret gq209 rfl rfl h
set_option maxRecDepth 10000 in
theorem b209_53 {xs : Nat → Int32} {Lx d : Nat} {V : km_V} {Q : Option Value → km_V → Prop} {x1 x2 x4 : Int} 
    (h : (kR x4) ∧ (kR (x1 - 1)) ∧ (((x1 - 1) ≤ x4 →
    (kR64 x2) ∧ (kR (kcmp x2 0)) ∧ ((0 ≤ (kcmp x2 0) →
      Q (some (kJ x2)) V) ∧
     ((kcmp x2 0) < 0 →
      Q (some (kJ (-x2))) V))) ∧
   (x4 < (x1 - 1) →
    kGo xs Lx (d + 4) 209 65 [some (.ref 299), some (kI x1), some (kJ x2), none, some (kI x4), some (kI x4), none, none] [] V Q))) :
    kGo xs Lx (d + 4) 209 53 [some (.ref 299), some (kI x1), some (kJ x2), none, some (kI x4), none, none, none] [] V Q := by
  refine g_iload 55 gq209 rfl rfl rfl ?_
  refine g_iload_n 56 gq209 rfl rfl rfl ?_
  refine g_iconst 57 gq209 rfl rfl ?_
  refine g_isub 58 gq209 rfl rfl ?_
  have c4 := h.1
  replace h := h.2
  have c6 := h.1
  replace h := h.2
  refine g_icmp_ge 243 61 gq209 rfl rfl rfl c4 c6 (fun c => ?_) (fun c => ?_)
  · replace h := h.1 c
    refine g_lload_n 244 gq209 rfl rfl rfl ?_
    refine g_lconst 245 0 gq209 rfl rfl rfl ?_
    have c12 := h.1
    replace h := h.2
    refine g_lcmp 246 gq209 rfl rfl c12 (by omega) ?_
    have c15 := h.1
    replace h := h.2
    refine g_if_ge 254 249 gq209 rfl rfl rfl c15 (fun c => ?_) (fun c => ?_)
    · replace h := h.1 c
      refine g_lload_n 255 gq209 rfl rfl rfl ?_
      exact g_lret gq209 rfl rfl h
    · replace h := h.2 c
      refine g_lload_n 250 gq209 rfl rfl rfl ?_
      refine g_lneg 251 gq209 rfl rfl ?_
      refine g_goto 255 gq209 rfl rfl ?_
      exact g_lret gq209 rfl rfl h
  · replace h := h.2 c
    refine g_iload 63 gq209 rfl rfl rfl ?_
    refine g_istore 65 gq209 rfl rfl rfl ?_
    exact kGo.weak (km_Le.s (km_Le.s (km_Le.s (km_Le.n (km_Le.s (km_Le.s (km_Le.n (km_Le.n km_Le.nil)))))))) h
set_option maxRecDepth 10000 in
theorem b209_65 {xs : Nat → Int32} {Lx d : Nat} {V : km_V} {Q : Option Value → km_V → Prop} {x1 x2 x4 x5 : Int} 
    (h : (kR x5) ∧ (kR (x1 - 1)) ∧ (((x1 - 1) ≤ x5 →
    ((x5 ≠ (x1 - 1) →
      kCV xs Lx (d + 3) 207 6 [.ref 299, kI x5, kI x4] V (fun W1 =>
      kGo xs Lx (d + 4) 209 121 [some (.ref 299), some (kI x1), some (kJ x2), none, some (kI x4), none, some (kI (x4 + 1)), none] [] W1 Q)) ∧
     (x5 = (x1 - 1) →
      Q (some (kJ 0)) V))) ∧
   (x5 < (x1 - 1) →
    (0 ≤ ((12 * x5) + x4) ∧ ((12 * x5) + x4) < (96 : Nat)) ∧ (kR64 (V 332 (Int.toNat ((12 * x5) + x4)))) ∧ (kR (kcmp (V 332 (Int.toNat ((12 * x5) + x4))) 0)) ∧ (((kcmp (V 332 (Int.toNat ((12 * x5) + x4))) 0) ≠ 0 →
      ((x5 ≠ (x1 - 1) →
        kCV xs Lx (d + 3) 207 6 [.ref 299, kI x5, kI x4] V (fun W2 =>
        kGo xs Lx (d + 4) 209 121 [some (.ref 299), some (kI x1), some (kJ x2), none, some (kI x4), none, some (kI (x4 + 1)), none] [] W2 Q)) ∧
       (x5 = (x1 - 1) →
        Q (some (kJ 0)) V))) ∧
     ((kcmp (V 332 (Int.toNat ((12 * x5) + x4))) 0) = 0 →
      kGo xs Lx (d + 4) 209 65 [some (.ref 299), some (kI x1), some (kJ x2), none, some (kI x4), some (kI (x5 + 1)), none, none] [] V Q))))) :
    kGo xs Lx (d + 4) 209 65 [some (.ref 299), some (kI x1), some (kJ x2), none, some (kI x4), some (kI x5), none, none] [] V Q := by
  refine g_iload 67 gq209 rfl rfl rfl ?_
  refine g_iload_n 68 gq209 rfl rfl rfl ?_
  refine g_iconst 69 gq209 rfl rfl ?_
  refine g_isub 70 gq209 rfl rfl ?_
  have c4 := h.1
  replace h := h.2
  have c6 := h.1
  replace h := h.2
  refine g_icmp_ge 97 73 gq209 rfl rfl rfl c4 c6 (fun c => ?_) (fun c => ?_)
  · replace h := h.1 c
    refine g_iload 99 gq209 rfl rfl rfl ?_
    refine g_iload_n 100 gq209 rfl rfl rfl ?_
    refine g_iconst 101 gq209 rfl rfl ?_
    refine g_isub 102 gq209 rfl rfl ?_
    refine g_icmp_ne 107 105 gq209 rfl rfl rfl c4 c6 (fun c => ?_) (fun c => ?_)
    · replace h := h.1 c
      refine g_aload_n 108 gq209 rfl rfl rfl ?_
      refine g_iload 110 gq209 rfl rfl rfl ?_
      refine g_iload 112 gq209 rfl rfl rfl ?_
      refine g_virt 207 _ (i := 366) gq209 rfl rfl gq207 rfl rfl rfl rfl rfl rfl ?_
      refine kGo.mono h (fun r W1 hr => ?_)
      obtain ⟨rfl, h⟩ := hr
      refine g_iload 117 gq209 rfl rfl rfl ?_
      refine g_iconst 118 gq209 rfl rfl ?_
      refine g_iadd 119 gq209 rfl rfl ?_
      refine g_istore 121 gq209 rfl rfl rfl ?_
      exact kGo.weak (km_Le.s (km_Le.s (km_Le.s (km_Le.n (km_Le.s (km_Le.n (km_Le.s (km_Le.n km_Le.nil)))))))) h
    · replace h := h.2 c
      refine g_lconst 106 0 gq209 rfl rfl rfl ?_
      exact g_lret gq209 rfl rfl h
  · replace h := h.2 c
    refine g_aload_n 74 gq209 rfl rfl rfl ?_
    refine g_getA 77 332 gq209 rfl rfl rfl rfl rfl rfl rfl ?_
    refine g_bipush 79 gq209 rfl rfl rfl ?_
    refine g_iload 81 gq209 rfl rfl rfl ?_
    refine g_imul 82 gq209 rfl rfl ?_
    refine g_iload 84 gq209 rfl rfl rfl ?_
    refine g_iadd 85 gq209 rfl rfl ?_
    have c38 := h.1
    replace h := h.2
    refine g_lald 86 gq209 rfl rfl rfl c38 ?_
    refine g_lconst 87 0 gq209 rfl rfl rfl ?_
    have c42 := h.1
    replace h := h.2
    refine g_lcmp 88 gq209 rfl rfl c42 (by omega) ?_
    have c45 := h.1
    replace h := h.2
    refine g_if_ne 97 91 gq209 rfl rfl rfl c45 (fun c => ?_) (fun c => ?_)
    · replace h := h.1 c
      refine g_iload 99 gq209 rfl rfl rfl ?_
      refine g_iload_n 100 gq209 rfl rfl rfl ?_
      refine g_iconst 101 gq209 rfl rfl ?_
      refine g_isub 102 gq209 rfl rfl ?_
      refine g_icmp_ne 107 105 gq209 rfl rfl rfl c4 c6 (fun c => ?_) (fun c => ?_)
      · replace h := h.1 c
        refine g_aload_n 108 gq209 rfl rfl rfl ?_
        refine g_iload 110 gq209 rfl rfl rfl ?_
        refine g_iload 112 gq209 rfl rfl rfl ?_
        refine g_virt 207 _ (i := 366) gq209 rfl rfl gq207 rfl rfl rfl rfl rfl rfl ?_
        refine kGo.mono h (fun r W2 hr => ?_)
        obtain ⟨rfl, h⟩ := hr
        refine g_iload 117 gq209 rfl rfl rfl ?_
        refine g_iconst 118 gq209 rfl rfl ?_
        refine g_iadd 119 gq209 rfl rfl ?_
        refine g_istore 121 gq209 rfl rfl rfl ?_
        exact kGo.weak (km_Le.s (km_Le.s (km_Le.s (km_Le.n (km_Le.s (km_Le.n (km_Le.s (km_Le.n km_Le.nil)))))))) h
      · replace h := h.2 c
        refine g_lconst 106 0 gq209 rfl rfl rfl ?_
        exact g_lret gq209 rfl rfl h
    · replace h := h.2 c
      refine g_iinc 94 gq209 rfl rfl rfl rfl ?_
      refine g_goto 65 gq209 rfl rfl ?_
      exact kGo.weak (km_Le.s (km_Le.s (km_Le.s (km_Le.n (km_Le.s (km_Le.s (km_Le.n (km_Le.n km_Le.nil)))))))) h
set_option maxRecDepth 10000 in
theorem b209_121 {xs : Nat → Int32} {Lx d : Nat} {V : km_V} {Q : Option Value → km_V → Prop} {x1 x2 x4 x6 : Int} 
    (h : (kR x6) ∧ (kR (x1 - 1)) ∧ (((x1 - 1) ≤ x6 →
    (0 ≤ ((12 * x4) + x4) ∧ ((12 * x4) + x4) < (96 : Nat)) ∧ (∀ z1 : Int, z1 = (V 332 (Int.toNat ((12 * x4) + x4))) → kGo xs Lx (d + 4) 209 53 [some (.ref 299), some (kI x1), some (kJ z1), none, some (kI (x4 + 1)), none, none, none] [] V Q)) ∧
   (x6 < (x1 - 1) →
    kGo xs Lx (d + 4) 209 134 [some (.ref 299), some (kI x1), some (kJ x2), none, some (kI x4), none, some (kI x6), some (kI (x1 - 2))] [] V Q))) :
    kGo xs Lx (d + 4) 209 121 [some (.ref 299), some (kI x1), some (kJ x2), none, some (kI x4), none, some (kI x6), none] [] V Q := by
  refine g_iload 123 gq209 rfl rfl rfl ?_
  refine g_iload_n 124 gq209 rfl rfl rfl ?_
  refine g_iconst 125 gq209 rfl rfl ?_
  refine g_isub 126 gq209 rfl rfl ?_
  have c4 := h.1
  replace h := h.2
  have c6 := h.1
  replace h := h.2
  refine g_icmp_ge 223 129 gq209 rfl rfl rfl c4 c6 (fun c => ?_) (fun c => ?_)
  · replace h := h.1 c
    refine g_aload_n 224 gq209 rfl rfl rfl ?_
    refine g_getA 227 332 gq209 rfl rfl rfl rfl rfl rfl rfl ?_
    refine g_bipush 229 gq209 rfl rfl rfl ?_
    refine g_iload 231 gq209 rfl rfl rfl ?_
    refine g_imul 232 gq209 rfl rfl ?_
    refine g_iload 234 gq209 rfl rfl rfl ?_
    refine g_iadd 235 gq209 rfl rfl ?_
    have c17 := h.1
    replace h := h.2
    refine g_lald 236 gq209 rfl rfl rfl c17 ?_
    refine g_lstore_n 237 gq209 rfl rfl rfl ?_
    replace h := h _ rfl
    refine g_iinc 240 gq209 rfl rfl rfl rfl ?_
    refine g_goto 53 gq209 rfl rfl ?_
    exact kGo.weak (km_Le.s (km_Le.s (km_Le.s (km_Le.n (km_Le.s (km_Le.n (km_Le.n (km_Le.n km_Le.nil)))))))) h
  · replace h := h.2 c
    refine g_iload_n 130 gq209 rfl rfl rfl ?_
    refine g_iconst 131 gq209 rfl rfl ?_
    refine g_isub 132 gq209 rfl rfl ?_
    refine g_istore 134 gq209 rfl rfl rfl ?_
    exact kGo.weak (km_Le.s (km_Le.s (km_Le.s (km_Le.n (km_Le.s (km_Le.n (km_Le.s (km_Le.s km_Le.nil)))))))) h
set_option maxRecDepth 10000 in
theorem b209_134 {xs : Nat → Int32} {Lx d : Nat} {V : km_V} {Q : Option Value → km_V → Prop} {x1 x2 x4 x6 x7 : Int} 
    (h : (kR x7) ∧ (kR x4) ∧ ((x7 ≤ x4 →
    kGo xs Lx (d + 4) 209 121 [some (.ref 299), some (kI x1), some (kJ x2), none, some (kI x4), none, some (kI (x6 + 1)), none] [] V Q) ∧
   (x4 < x7 →
    (0 ≤ ((12 * x6) + x7) ∧ ((12 * x6) + x7) < (96 : Nat)) ∧ (0 ≤ ((12 * x4) + x4) ∧ ((12 * x4) + x4) < (96 : Nat)) ∧ (0 ≤ ((12 * x6) + x4) ∧ ((12 * x6) + x4) < (96 : Nat)) ∧ (0 ≤ ((12 * x4) + x7) ∧ ((12 * x4) + x7) < (96 : Nat)) ∧ (kR64 (((V 332 (Int.toNat ((12 * x6) + x7))) * (V 332 (Int.toNat ((12 * x4) + x4)))) - ((V 332 (Int.toNat ((12 * x6) + x4))) * (V 332 (Int.toNat ((12 * x4) + x7)))))) ∧ (kR64 x2 ∧ x2 ≠ 0) ∧ kGo xs Lx (d + 4) 209 134 [some (.ref 299), some (kI x1), some (kJ x2), none, some (kI x4), none, some (kI x6), some (kI (x7 + (-1)))] [] (up V 332 (Int.toNat ((12 * x6) + x7)) (Int.tdiv (((V 332 (Int.toNat ((12 * x6) + x7))) * (V 332 (Int.toNat ((12 * x4) + x4)))) - ((V 332 (Int.toNat ((12 * x6) + x4))) * (V 332 (Int.toNat ((12 * x4) + x7))))) x2)) Q))) :
    kGo xs Lx (d + 4) 209 134 [some (.ref 299), some (kI x1), some (kJ x2), none, some (kI x4), none, some (kI x6), some (kI x7)] [] V Q := by
  refine g_iload 136 gq209 rfl rfl rfl ?_
  refine g_iload 138 gq209 rfl rfl rfl ?_
  have c2 := h.1
  replace h := h.2
  have c4 := h.1
  replace h := h.2
  refine g_icmp_le 217 141 gq209 rfl rfl rfl c2 c4 (fun c => ?_) (fun c => ?_)
  · replace h := h.1 c
    refine g_iinc 220 gq209 rfl rfl rfl rfl ?_
    refine g_goto 121 gq209 rfl rfl ?_
    exact kGo.weak (km_Le.s (km_Le.s (km_Le.s (km_Le.n (km_Le.s (km_Le.n (km_Le.s (km_Le.n km_Le.nil)))))))) h
  · replace h := h.2 c
    refine g_aload_n 142 gq209 rfl rfl rfl ?_
    refine g_getA 145 332 gq209 rfl rfl rfl rfl rfl rfl rfl ?_
    refine g_bipush 147 gq209 rfl rfl rfl ?_
    refine g_iload 149 gq209 rfl rfl rfl ?_
    refine g_imul 150 gq209 rfl rfl ?_
    refine g_iload 152 gq209 rfl rfl rfl ?_
    refine g_iadd 153 gq209 rfl rfl ?_
    refine g_aload_n 154 gq209 rfl rfl rfl ?_
    refine g_getA 157 332 gq209 rfl rfl rfl rfl rfl rfl rfl ?_
    refine g_bipush 159 gq209 rfl rfl rfl ?_
    refine g_iload 161 gq209 rfl rfl rfl ?_
    refine g_imul 162 gq209 rfl rfl ?_
    refine g_iload 164 gq209 rfl rfl rfl ?_
    refine g_iadd 165 gq209 rfl rfl ?_
    have c26 := h.1
    replace h := h.2
    refine g_lald 166 gq209 rfl rfl rfl c26 ?_
    refine g_aload_n 167 gq209 rfl rfl rfl ?_
    refine g_getA 170 332 gq209 rfl rfl rfl rfl rfl rfl rfl ?_
    refine g_bipush 172 gq209 rfl rfl rfl ?_
    refine g_iload 174 gq209 rfl rfl rfl ?_
    refine g_imul 175 gq209 rfl rfl ?_
    refine g_iload 177 gq209 rfl rfl rfl ?_
    refine g_iadd 178 gq209 rfl rfl ?_
    have c36 := h.1
    replace h := h.2
    refine g_lald 179 gq209 rfl rfl rfl c36 ?_
    refine g_lmul 180 gq209 rfl rfl ?_
    refine g_aload_n 181 gq209 rfl rfl rfl ?_
    refine g_getA 184 332 gq209 rfl rfl rfl rfl rfl rfl rfl ?_
    refine g_bipush 186 gq209 rfl rfl rfl ?_
    refine g_iload 188 gq209 rfl rfl rfl ?_
    refine g_imul 189 gq209 rfl rfl ?_
    refine g_iload 191 gq209 rfl rfl rfl ?_
    refine g_iadd 192 gq209 rfl rfl ?_
    have c47 := h.1
    replace h := h.2
    refine g_lald 193 gq209 rfl rfl rfl c47 ?_
    refine g_aload_n 194 gq209 rfl rfl rfl ?_
    refine g_getA 197 332 gq209 rfl rfl rfl rfl rfl rfl rfl ?_
    refine g_bipush 199 gq209 rfl rfl rfl ?_
    refine g_iload 201 gq209 rfl rfl rfl ?_
    refine g_imul 202 gq209 rfl rfl ?_
    refine g_iload 204 gq209 rfl rfl rfl ?_
    refine g_iadd 205 gq209 rfl rfl ?_
    have c57 := h.1
    replace h := h.2
    refine g_lald 206 gq209 rfl rfl rfl c57 ?_
    refine g_lmul 207 gq209 rfl rfl ?_
    refine g_lsub 208 gq209 rfl rfl ?_
    refine g_lload_n 209 gq209 rfl rfl rfl ?_
    have c63 := h.1
    replace h := h.2
    have c65 := h.1
    replace h := h.2
    refine g_ldivT 210 gq209 rfl rfl c63 c65 ?_
    refine g_last 211 gq209 rfl rfl rfl c26 ?_
    refine g_iinc 214 gq209 rfl rfl rfl rfl ?_
    refine g_goto 134 gq209 rfl rfl ?_
    exact kGo.weak (km_Le.s (km_Le.s (km_Le.s (km_Le.n (km_Le.s (km_Le.n (km_Le.s (km_Le.s km_Le.nil)))))))) h
set_option maxRecDepth 10000 in
theorem b210_0 {xs : Nat → Int32} {Lx d : Nat} {V : km_V} {Q : Option Value → km_V → Prop} 
    (h : kGo xs Lx (d + 5) 210 4 [some (.ref 299), some (kI (-1)), some (kI 0), none] [] V Q) :
    kGo xs Lx (d + 5) 210 0 [some (.ref 299), none, none, none] [] V Q := by
  refine g_iconst 1 gq210 rfl rfl ?_
  refine g_istore_n 2 gq210 rfl rfl rfl ?_
  refine g_iconst 3 gq210 rfl rfl ?_
  refine g_istore_n 4 gq210 rfl rfl rfl ?_
  exact kGo.weak (km_Le.s (km_Le.s (km_Le.s (km_Le.n km_Le.nil)))) h
set_option maxRecDepth 10000 in
theorem b210_4 {xs : Nat → Int32} {Lx d : Nat} {V : km_V} {Q : Option Value → km_V → Prop} {x1 x2 : Int} 
    (h : (0 ≤ (V 307 (Int.toNat 1)) ∧ (V 307 (Int.toNat 1)) < 32) ∧ (kR x2) ∧ (kR (1 * ((2 ^ Int.toNat (V 307 (Int.toNat 1)) : Nat) : Int))) ∧ (((1 * ((2 ^ Int.toNat (V 307 (Int.toNat 1)) : Nat) : Int)) ≤ x2 →
    Q (some (kI x1)) V) ∧
   (x2 < (1 * ((2 ^ Int.toNat (V 307 (Int.toNat 1)) : Nat) : Int)) →
    (kR x1) ∧ ((x1 < 0 →
      kCV xs Lx (d + 4) 156 3 [.ref 307, .ref 326] V (fun W1 =>
      kGo xs Lx (d + 5) 210 44 [some (.ref 299), some (kI x1), some (kI x2), some (kI 0)] [] W1 Q)) ∧
     (0 ≤ x1 →
      kCI xs Lx (d + 4) 155 3 [kI x2] V (fun y2 W2 =>
      (kR y2) ∧ ((y2 < x1 →
        kCV xs Lx (d + 4) 156 3 [.ref 307, .ref 326] W2 (fun W3 =>
        kGo xs Lx (d + 5) 210 44 [some (.ref 299), some (kI x1), some (kI x2), some (kI 0)] [] W3 Q)) ∧
       (x1 ≤ y2 →
        kGo xs Lx (d + 5) 210 4 [some (.ref 299), some (kI x1), some (kI (x2 + 1)), none] [] W2 Q)))))))) :
    kGo xs Lx (d + 5) 210 4 [some (.ref 299), some (kI x1), some (kI x2), none] [] V Q := by
  refine g_iload_n 5 gq210 rfl rfl rfl ?_
  refine g_iconst 6 gq210 rfl rfl ?_
  refine g_aload_n 7 gq210 rfl rfl rfl ?_
  refine g_getA 10 307 gq210 rfl rfl rfl rfl rfl rfl rfl ?_
  refine g_iconst 11 gq210 rfl rfl ?_
  refine g_iald 12 gq210 rfl rfl rfl (by omega) ?_
  have c6 := h.1
  replace h := h.2
  refine g_ishl 13 gq210 rfl rfl c6 ?_
  have c9 := h.1
  replace h := h.2
  have c11 := h.1
  replace h := h.2
  refine g_icmp_ge 113 16 gq210 rfl rfl rfl c9 c11 (fun c => ?_) (fun c => ?_)
  · replace h := h.1 c
    refine g_iload_n 114 gq210 rfl rfl rfl ?_
    exact g_iret gq210 rfl rfl h
  · replace h := h.2 c
    refine g_iload_n 17 gq210 rfl rfl rfl ?_
    have c19 := h.1
    replace h := h.2
    refine g_if_lt 31 20 gq210 rfl rfl rfl c19 (fun c => ?_) (fun c => ?_)
    · replace h := h.1 c
      refine g_aload_n 32 gq210 rfl rfl rfl ?_
      refine g_getA 35 307 gq210 rfl rfl rfl rfl rfl rfl rfl ?_
      refine g_aload_n 36 gq210 rfl rfl rfl ?_
      refine g_getA 39 326 gq210 rfl rfl rfl rfl rfl rfl rfl ?_
      refine g_static 156 _ (i := 209) gq210 rfl rfl gq156 rfl rfl rfl rfl ?_
      refine kGo.mono h (fun r W1 hr => ?_)
      obtain ⟨rfl, h⟩ := hr
      refine g_iconst 43 gq210 rfl rfl ?_
      refine g_istore_n 44 gq210 rfl rfl rfl ?_
      exact kGo.weak (km_Le.s (km_Le.s (km_Le.s (km_Le.s km_Le.nil)))) h
    · replace h := h.2 c
      refine g_iload_n 21 gq210 rfl rfl rfl ?_
      refine g_static 155 _ (i := 340) gq210 rfl rfl gq155 rfl rfl rfl rfl ?_
      refine kGo.mono h (fun r W2 hr => ?_)
      obtain ⟨y2, rfl, h⟩ := hr
      refine g_iload_n 25 gq210 rfl rfl rfl ?_
      have c39 := h.1
      replace h := h.2
      refine g_icmp_lt 31 28 gq210 rfl rfl rfl c39 c19 (fun c => ?_) (fun c => ?_)
      · replace h := h.1 c
        refine g_aload_n 32 gq210 rfl rfl rfl ?_
        refine g_getA 35 307 gq210 rfl rfl rfl rfl rfl rfl rfl ?_
        refine g_aload_n 36 gq210 rfl rfl rfl ?_
        refine g_getA 39 326 gq210 rfl rfl rfl rfl rfl rfl rfl ?_
        refine g_static 156 _ (i := 209) gq210 rfl rfl gq156 rfl rfl rfl rfl ?_
        refine kGo.mono h (fun r W3 hr => ?_)
        obtain ⟨rfl, h⟩ := hr
        refine g_iconst 43 gq210 rfl rfl ?_
        refine g_istore_n 44 gq210 rfl rfl rfl ?_
        exact kGo.weak (km_Le.s (km_Le.s (km_Le.s (km_Le.s km_Le.nil)))) h
      · replace h := h.2 c
        refine g_goto 107 gq210 rfl rfl ?_
        refine g_iinc 110 gq210 rfl rfl rfl rfl ?_
        refine g_goto 4 gq210 rfl rfl ?_
        exact kGo.weak (km_Le.s (km_Le.s (km_Le.s (km_Le.n km_Le.nil)))) h
set_option maxRecDepth 10000 in
theorem b210_44 {xs : Nat → Int32} {Lx d : Nat} {V : km_V} {Q : Option Value → km_V → Prop} {x1 x2 x3 : Int} 
    (h : (kR x3) ∧ (kR (V 307 (Int.toNat 1))) ∧ (((V 307 (Int.toNat 1)) ≤ x3 →
    kCI xs Lx (d + 4) 171 5 [.ref 299, .ref 326] V (fun y1 W1 =>
    (kR (W1 326 (Int.toNat 1))) ∧ (((W1 326 (Int.toNat 1)) ≤ 0 →
      kCI xs Lx (d + 4) 155 3 [kI x2] W1 (fun y2 W2 =>
      kGo xs Lx (d + 5) 210 4 [some (.ref 299), some (kI y2), some (kI (x2 + 1)), none] [] (up W2 299 49 x2) Q)) ∧
     (0 < (W1 326 (Int.toNat 1)) →
      kGo xs Lx (d + 5) 210 4 [some (.ref 299), some (kI x1), some (kI (x2 + 1)), none] [] W1 Q)))) ∧
   (x3 < (V 307 (Int.toNat 1)) →
    ((kR x2 ∧ (0 ≤ x3 ∧ x3 < 32))) ∧ (kR (khas x2 x3)) ∧ (((khas x2 x3) = 0 →
      kGo xs Lx (d + 5) 210 44 [some (.ref 299), some (kI x1), some (kI x2), some (kI (x3 + 1))] [] V Q) ∧
     ((khas x2 x3) ≠ 0 →
      kCV xs Lx (d + 4) 175 4 [.ref 326, kI x3] V (fun W3 =>
      kGo xs Lx (d + 5) 210 44 [some (.ref 299), some (kI x1), some (kI x2), some (kI (x3 + 1))] [] W3 Q)))))) :
    kGo xs Lx (d + 5) 210 44 [some (.ref 299), some (kI x1), some (kI x2), some (kI x3)] [] V Q := by
  refine g_iload_n 45 gq210 rfl rfl rfl ?_
  refine g_aload_n 46 gq210 rfl rfl rfl ?_
  refine g_getA 49 307 gq210 rfl rfl rfl rfl rfl rfl rfl ?_
  refine g_iconst 50 gq210 rfl rfl ?_
  refine g_iald 51 gq210 rfl rfl rfl (by omega) ?_
  have c5 := h.1
  replace h := h.2
  have c7 := h.1
  replace h := h.2
  refine g_icmp_ge 76 54 gq210 rfl rfl rfl c5 c7 (fun c => ?_) (fun c => ?_)
  · replace h := h.1 c
    refine g_aload_n 77 gq210 rfl rfl rfl ?_
    refine g_aload_n 78 gq210 rfl rfl rfl ?_
    refine g_getA 81 326 gq210 rfl rfl rfl rfl rfl rfl rfl ?_
    refine g_virt 171 _ (i := 321) gq210 rfl rfl gq171 rfl rfl rfl rfl rfl rfl ?_
    refine kGo.mono h (fun r W1 hr => ?_)
    obtain ⟨y1, rfl, h⟩ := hr
    refine g_istore_n 85 gq210 rfl rfl rfl ?_
    refine g_aload_n 86 gq210 rfl rfl rfl ?_
    refine g_getA 89 326 gq210 rfl rfl rfl rfl rfl rfl rfl ?_
    refine g_iconst 90 gq210 rfl rfl ?_
    refine g_iald 91 gq210 rfl rfl rfl (by omega) ?_
    have c22 := h.1
    replace h := h.2
    refine g_if_le 97 94 gq210 rfl rfl rfl c22 (fun c => ?_) (fun c => ?_)
    · replace h := h.1 c
      refine g_iload_n 98 gq210 rfl rfl rfl ?_
      refine g_static 155 _ (i := 340) gq210 rfl rfl gq155 rfl rfl rfl rfl ?_
      refine kGo.mono h (fun r W2 hr => ?_)
      obtain ⟨y2, rfl, h⟩ := hr
      refine g_istore_n 102 gq210 rfl rfl rfl ?_
      refine g_aload_n 103 gq210 rfl rfl rfl ?_
      refine g_iload_n 104 gq210 rfl rfl rfl ?_
      refine g_putI 107 gq210 rfl rfl rfl rfl rfl rfl rfl rfl ?_
      refine g_iinc 110 gq210 rfl rfl rfl rfl ?_
      refine g_goto 4 gq210 rfl rfl ?_
      exact kGo.weak (km_Le.s (km_Le.s (km_Le.s (km_Le.n km_Le.nil)))) h
    · replace h := h.2 c
      refine g_goto 107 gq210 rfl rfl ?_
      refine g_iinc 110 gq210 rfl rfl rfl rfl ?_
      refine g_goto 4 gq210 rfl rfl ?_
      exact kGo.weak (km_Le.s (km_Le.s (km_Le.s (km_Le.n km_Le.nil)))) h
  · replace h := h.2 c
    refine g_iload_n 55 gq210 rfl rfl rfl ?_
    refine g_iload_n 56 gq210 rfl rfl rfl ?_
    have c45 := h.1
    replace h := h.2
    refine g_static 154 _ (i := 250) gq210 rfl rfl gq154 rfl rfl rfl rfl ?_
    refine sp_has c45 ?_
    have c49 := h.1
    replace h := h.2
    refine g_if_eq 70 62 gq210 rfl rfl rfl c49 (fun c => ?_) (fun c => ?_)
    · replace h := h.1 c
      refine g_iinc 73 gq210 rfl rfl rfl rfl ?_
      refine g_goto 44 gq210 rfl rfl ?_
      exact kGo.weak (km_Le.s (km_Le.s (km_Le.s (km_Le.s km_Le.nil)))) h
    · replace h := h.2 c
      refine g_aload_n 63 gq210 rfl rfl rfl ?_
      refine g_getA 66 326 gq210 rfl rfl rfl rfl rfl rfl rfl ?_
      refine g_iload_n 67 gq210 rfl rfl rfl ?_
      refine g_static 175 _ (i := 324) gq210 rfl rfl gq175 rfl rfl rfl rfl ?_
      refine kGo.mono h (fun r W3 hr => ?_)
      obtain ⟨rfl, h⟩ := hr
      refine g_iinc 73 gq210 rfl rfl rfl rfl ?_
      refine g_goto 44 gq210 rfl rfl ?_
      exact kGo.weak (km_Le.s (km_Le.s (km_Le.s (km_Le.s km_Le.nil)))) h
set_option maxRecDepth 10000 in
theorem b211_0 {xs : Nat → Int32} {Lx d : Nat} {V : km_V} {Q : Option Value → km_V → Prop} {a1 : Int} 
    (h : (kR a1) ∧ (kR (kin a1 0 1)) ∧ (((kin a1 0 1) ≠ 0 →
    kCI xs Lx (d + 5) 210 4 [.ref 299] V (fun y1 W1 =>
    (kR y1) ∧ ((0 ≤ y1 →
      ((a1 ≠ 0 →
        Q (some (kI (W1 299 49))) W1) ∧
       (a1 = 0 →
        Q (some (kI y1)) W1))) ∧
     (y1 < 0 →
      Q (some (kI (-2))) W1)))) ∧
   ((kin a1 0 1) = 0 →
    Q (some (kI (-1))) V))) :
    kGo xs Lx (d + 6) 211 0 [some (.ref 299), some (kI a1), none] [] V Q := by
  refine g_iload_n 1 gq211 rfl rfl rfl ?_
  refine g_iconst 2 gq211 rfl rfl ?_
  refine g_iconst 3 gq211 rfl rfl ?_
  have c3 := h.1
  replace h := h.2
  refine g_static 153 _ (i := 246) gq211 rfl rfl gq153 rfl rfl rfl rfl ?_
  refine sp_in c3 (by omega) (by omega) ?_
  have c7 := h.1
  replace h := h.2
  refine g_if_ne 11 9 gq211 rfl rfl rfl c7 (fun c => ?_) (fun c => ?_)
  · replace h := h.1 c
    refine g_aload_n 12 gq211 rfl rfl rfl ?_
    refine g_virt 210 _ (i := 376) gq211 rfl rfl gq210 rfl rfl rfl rfl rfl rfl ?_
    refine kGo.mono h (fun r W1 hr => ?_)
    obtain ⟨y1, rfl, h⟩ := hr
    refine g_istore_n 16 gq211 rfl rfl rfl ?_
    refine g_iload_n 17 gq211 rfl rfl rfl ?_
    have c17 := h.1
    replace h := h.2
    refine g_if_ge 25 20 gq211 rfl rfl rfl c17 (fun c => ?_) (fun c => ?_)
    · replace h := h.1 c
      refine g_iload_n 26 gq211 rfl rfl rfl ?_
      refine g_if_ne 33 29 gq211 rfl rfl rfl c3 (fun c => ?_) (fun c => ?_)
      · replace h := h.1 c
        refine g_aload_n 34 gq211 rfl rfl rfl ?_
        refine g_getI 37 gq211 rfl rfl rfl rfl rfl rfl ?_
        exact g_iret gq211 rfl rfl h
      · replace h := h.2 c
        refine g_iload_n 30 gq211 rfl rfl rfl ?_
        refine g_goto 37 gq211 rfl rfl ?_
        exact g_iret gq211 rfl rfl h
    · replace h := h.2 c
      refine g_bipush 22 gq211 rfl rfl rfl ?_
      refine g_goto 37 gq211 rfl rfl ?_
      exact g_iret gq211 rfl rfl h
  · replace h := h.2 c
    refine g_iconst 10 gq211 rfl rfl ?_
    exact g_iret gq211 rfl rfl h
set_option maxRecDepth 10000 in
theorem b212_0 {xs : Nat → Int32} {Lx d : Nat} {V : km_V} {Q : Option Value → km_V → Prop} {a1 : Int} 
    (h : kGo xs Lx (d + 5) 212 2 [some (.ref 299), some (kI a1), some (kI 0)] [] V Q) :
    kGo xs Lx (d + 5) 212 0 [some (.ref 299), some (kI a1), none] [] V Q := by
  refine g_iconst 1 gq212 rfl rfl ?_
  refine g_istore_n 2 gq212 rfl rfl rfl ?_
  exact kGo.weak (km_Le.s (km_Le.s (km_Le.s km_Le.nil))) h
set_option maxRecDepth 10000 in
theorem b212_2 {xs : Nat → Int32} {Lx d : Nat} {V : km_V} {Q : Option Value → km_V → Prop} {x1 x2 : Int} 
    (h : (kR x2) ∧ ((78 ≤ x2 →
    kCI xs Lx (d + 4) 171 5 [.ref 299, .ref 326] V (fun y1 W1 =>
    (kR (W1 326 (Int.toNat 1))) ∧ (kR (W1 307 (Int.toNat 1))) ∧ (((W1 307 (Int.toNat 1)) ≤ (W1 326 (Int.toNat 1)) →
      Q (some (kI 0)) W1) ∧
     ((W1 326 (Int.toNat 1)) < (W1 307 (Int.toNat 1)) →
      Q (some (kI 1)) W1)))) ∧
   (x2 < 78 →
    (0 ≤ ((78 * x1) + x2) ∧ ((78 * x1) + x2) < (312 : Nat)) ∧ (0 ≤ x2 ∧ x2 < (78 : Nat)) ∧ kGo xs Lx (d + 5) 212 2 [some (.ref 299), some (kI x1), some (kI (x2 + 1))] [] (up V 326 (Int.toNat x2) (V 333 (Int.toNat ((78 * x1) + x2)))) Q))) :
    kGo xs Lx (d + 5) 212 2 [some (.ref 299), some (kI x1), some (kI x2)] [] V Q := by
  refine g_iload_n 3 gq212 rfl rfl rfl ?_
  refine g_bipush 5 gq212 rfl rfl rfl ?_
  have c2 := h.1
  replace h := h.2
  refine g_icmp_ge 31 8 gq212 rfl rfl rfl c2 (by omega) (fun c => ?_) (fun c => ?_)
  · replace h := h.1 c
    refine g_aload_n 32 gq212 rfl rfl rfl ?_
    refine g_aload_n 33 gq212 rfl rfl rfl ?_
    refine g_getA 36 326 gq212 rfl rfl rfl rfl rfl rfl rfl ?_
    refine g_virt 171 _ (i := 321) gq212 rfl rfl gq171 rfl rfl rfl rfl rfl rfl ?_
    refine kGo.mono h (fun r W1 hr => ?_)
    obtain ⟨y1, rfl, h⟩ := hr
    refine g_istore_n 40 gq212 rfl rfl rfl ?_
    refine g_aload_n 41 gq212 rfl rfl rfl ?_
    refine g_getA 44 326 gq212 rfl rfl rfl rfl rfl rfl rfl ?_
    refine g_iconst 45 gq212 rfl rfl ?_
    refine g_iald 46 gq212 rfl rfl rfl (by omega) ?_
    refine g_aload_n 47 gq212 rfl rfl rfl ?_
    refine g_getA 50 307 gq212 rfl rfl rfl rfl rfl rfl rfl ?_
    refine g_iconst 51 gq212 rfl rfl ?_
    refine g_iald 52 gq212 rfl rfl rfl (by omega) ?_
    have c21 := h.1
    replace h := h.2
    have c23 := h.1
    replace h := h.2
    refine g_icmp_ge 59 55 gq212 rfl rfl rfl c21 c23 (fun c => ?_) (fun c => ?_)
    · replace h := h.1 c
      refine g_iconst 60 gq212 rfl rfl ?_
      exact g_zret gq212 rfl rfl (by omega) h
    · replace h := h.2 c
      refine g_iconst 56 gq212 rfl rfl ?_
      refine g_goto 60 gq212 rfl rfl ?_
      exact g_zret gq212 rfl rfl (by omega) h
  · replace h := h.2 c
    refine g_aload_n 9 gq212 rfl rfl rfl ?_
    refine g_getA 12 326 gq212 rfl rfl rfl rfl rfl rfl rfl ?_
    refine g_iload_n 13 gq212 rfl rfl rfl ?_
    refine g_aload_n 14 gq212 rfl rfl rfl ?_
    refine g_getA 17 333 gq212 rfl rfl rfl rfl rfl rfl rfl ?_
    refine g_bipush 19 gq212 rfl rfl rfl ?_
    refine g_iload_n 20 gq212 rfl rfl rfl ?_
    refine g_imul 21 gq212 rfl rfl ?_
    refine g_iload_n 22 gq212 rfl rfl rfl ?_
    refine g_iadd 23 gq212 rfl rfl ?_
    have c44 := h.1
    replace h := h.2
    refine g_iald 24 gq212 rfl rfl rfl c44 ?_
    have c47 := h.1
    replace h := h.2
    refine g_iast 25 gq212 rfl rfl rfl c47 ?_
    refine g_iinc 28 gq212 rfl rfl rfl rfl ?_
    refine g_goto 2 gq212 rfl rfl ?_
    exact kGo.weak (km_Le.s (km_Le.s (km_Le.s km_Le.nil))) h

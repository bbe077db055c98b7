set_option maxRecDepth 10000 in
theorem b213_0 {xs : Nat → Int32} {Lx d : Nat} {V : km_V} {Q : Option Value → km_V → Prop} {a1 : Int} 
    (h : (kR a1) ∧ (kR (kin a1 0 3)) ∧ (((kin a1 0 3) ≠ 0 →
    kGo xs Lx (d + 6) 213 13 [some (.ref 299), some (kI a1), some (kI 0), none, none] [] V Q) ∧
   ((kin a1 0 3) = 0 →
    Q (some (kI (-1))) V))) :
    kGo xs Lx (d + 6) 213 0 [some (.ref 299), some (kI a1), none, none, none] [] V Q := by
  refine g_iload_n 1 gq213 rfl rfl rfl ?_
  refine g_iconst 2 gq213 rfl rfl ?_
  refine g_iconst 3 gq213 rfl rfl ?_
  have c3 := h.1
  replace h := h.2
  refine g_static 153 _ (i := 246) gq213 rfl rfl gq153 rfl rfl rfl rfl ?_
  refine sp_in c3 (by omega) (by omega) ?_
  have c7 := h.1
  replace h := h.2
  refine g_if_ne 11 9 gq213 rfl rfl rfl c7 (fun c => ?_) (fun c => ?_)
  · replace h := h.1 c
    refine g_iconst 12 gq213 rfl rfl ?_
    refine g_istore_n 13 gq213 rfl rfl rfl ?_
    exact kGo.weak (km_Le.s (km_Le.s (km_Le.s (km_Le.n (km_Le.n km_Le.nil))))) h
  · replace h := h.2 c
    refine g_iconst 10 gq213 rfl rfl ?_
    exact g_iret gq213 rfl rfl h
set_option maxRecDepth 10000 in
theorem b213_13 {xs : Nat → Int32} {Lx d : Nat} {V : km_V} {Q : Option Value → km_V → Prop} {x1 x2 : Int} 
    (h : (kR x2) ∧ ((78 ≤ x2 →
    kCI xs Lx (d + 5) 212 3 [.ref 299, kI 0] (up V 334 (Int.toNat 0) 0) (fun y1 W1 =>
    (kR y1) ∧ ((y1 = 0 →
      kGo xs Lx (d + 6) 213 56 [some (.ref 299), some (kI x1), some (kI 0), none, none] [] W1 Q) ∧
     (y1 ≠ 0 →
      Q (some (kI 1)) W1)))) ∧
   (x2 < 78 →
    (0 ≤ x2 ∧ x2 < (78 : Nat)) ∧ (0 ≤ x2 ∧ x2 < (312 : Nat)) ∧ kGo xs Lx (d + 6) 213 13 [some (.ref 299), some (kI x1), some (kI (x2 + 1)), none, none] [] (up V 333 (Int.toNat x2) (V 307 (Int.toNat x2))) Q))) :
    kGo xs Lx (d + 6) 213 13 [some (.ref 299), some (kI x1), some (kI x2), none, none] [] V Q := by
  refine g_iload_n 14 gq213 rfl rfl rfl ?_
  refine g_bipush 16 gq213 rfl rfl rfl ?_
  have c2 := h.1
  replace h := h.2
  refine g_icmp_ge 37 19 gq213 rfl rfl rfl c2 (by omega) (fun c => ?_) (fun c => ?_)
  · replace h := h.1 c
    refine g_aload_n 38 gq213 rfl rfl rfl ?_
    refine g_getA 41 334 gq213 rfl rfl rfl rfl rfl rfl rfl ?_
    refine g_iconst 42 gq213 rfl rfl ?_
    refine g_iconst 43 gq213 rfl rfl ?_
    refine g_iast 44 gq213 rfl rfl rfl (by omega) ?_
    refine g_iconst 45 gq213 rfl rfl ?_
    refine g_istore_n 46 gq213 rfl rfl rfl ?_
    refine g_aload_n 47 gq213 rfl rfl rfl ?_
    refine g_iconst 48 gq213 rfl rfl ?_
    refine g_virt 212 _ (i := 379) gq213 rfl rfl gq212 rfl rfl rfl rfl rfl rfl ?_
    refine kGo.mono h (fun r W1 hr => ?_)
    obtain ⟨y1, rfl, h⟩ := hr
    have c18 := h.1
    replace h := h.2
    refine g_if_eq 56 54 gq213 rfl rfl rfl c18 (fun c => ?_) (fun c => ?_)
    · replace h := h.1 c
      exact kGo.weak (km_Le.s (km_Le.s (km_Le.s (km_Le.n (km_Le.n km_Le.nil))))) h
    · replace h := h.2 c
      refine g_iconst 55 gq213 rfl rfl ?_
      exact g_iret gq213 rfl rfl h
  · replace h := h.2 c
    refine g_aload_n 20 gq213 rfl rfl rfl ?_
    refine g_getA 23 333 gq213 rfl rfl rfl rfl rfl rfl rfl ?_
    refine g_iload_n 24 gq213 rfl rfl rfl ?_
    refine g_aload_n 25 gq213 rfl rfl rfl ?_
    refine g_getA 28 307 gq213 rfl rfl rfl rfl rfl rfl rfl ?_
    refine g_iload_n 29 gq213 rfl rfl rfl ?_
    have c33 := h.1
    replace h := h.2
    refine g_iald 30 gq213 rfl rfl rfl c33 ?_
    have c36 := h.1
    replace h := h.2
    refine g_iast 31 gq213 rfl rfl rfl c36 ?_
    refine g_iinc 34 gq213 rfl rfl rfl rfl ?_
    refine g_goto 13 gq213 rfl rfl ?_
    exact kGo.weak (km_Le.s (km_Le.s (km_Le.s (km_Le.n (km_Le.n km_Le.nil))))) h
set_option maxRecDepth 10000 in
theorem b213_56 {xs : Nat → Int32} {Lx d : Nat} {V : km_V} {Q : Option Value → km_V → Prop} {x1 x2 : Int} 
    (h : (kR x2) ∧ ((x2 < 0 →
    Q (some (kI 0)) V) ∧
   (0 ≤ x2 →
    kGo xs Lx (d + 6) 213 62 [some (.ref 299), some (kI x1), some (kI x2), some (kI 0), none] [] V Q))) :
    kGo xs Lx (d + 6) 213 56 [some (.ref 299), some (kI x1), some (kI x2), none, none] [] V Q := by
  refine g_iload_n 57 gq213 rfl rfl rfl ?_
  have c1 := h.1
  replace h := h.2
  refine g_if_lt 244 60 gq213 rfl rfl rfl c1 (fun c => ?_) (fun c => ?_)
  · replace h := h.1 c
    refine g_iconst 245 gq213 rfl rfl ?_
    exact g_iret gq213 rfl rfl h
  · replace h := h.2 c
    refine g_iconst 61 gq213 rfl rfl ?_
    refine g_istore_n 62 gq213 rfl rfl rfl ?_
    exact kGo.weak (km_Le.s (km_Le.s (km_Le.s (km_Le.s (km_Le.n km_Le.nil))))) h
set_option maxRecDepth 10000 in
theorem b213_62 {xs : Nat → Int32} {Lx d : Nat} {V : km_V} {Q : Option Value → km_V → Prop} {x1 x2 x3 : Int} 
    (h : (kR x3) ∧ ((78 ≤ x3 →
    kCI xs Lx (d + 5) 161 4 [.ref 299, .ref 326] V (fun y1 W1 =>
    kGo xs Lx (d + 6) 213 100 [some (.ref 299), some (kI x1), some (kI x2), some (kI y1), none] [] W1 Q)) ∧
   (x3 < 78 →
    (0 ≤ ((78 * x2) + x3) ∧ ((78 * x2) + x3) < (312 : Nat)) ∧ (0 ≤ x3 ∧ x3 < (78 : Nat)) ∧ kGo xs Lx (d + 6) 213 62 [some (.ref 299), some (kI x1), some (kI x2), some (kI (x3 + 1)), none] [] (up V 326 (Int.toNat x3) (V 333 (Int.toNat ((78 * x2) + x3)))) Q))) :
    kGo xs Lx (d + 6) 213 62 [some (.ref 299), some (kI x1), some (kI x2), some (kI x3), none] [] V Q := by
  refine g_iload_n 63 gq213 rfl rfl rfl ?_
  refine g_bipush 65 gq213 rfl rfl rfl ?_
  have c2 := h.1
  replace h := h.2
  refine g_icmp_ge 91 68 gq213 rfl rfl rfl c2 (by omega) (fun c => ?_) (fun c => ?_)
  · replace h := h.1 c
    refine g_aload_n 92 gq213 rfl rfl rfl ?_
    refine g_aload_n 93 gq213 rfl rfl rfl ?_
    refine g_getA 96 326 gq213 rfl rfl rfl rfl rfl rfl rfl ?_
    refine g_virt 161 _ (i := 277) gq213 rfl rfl gq161 rfl rfl rfl rfl rfl rfl ?_
    refine kGo.mono h (fun r W1 hr => ?_)
    obtain ⟨y1, rfl, h⟩ := hr
    refine g_istore_n 100 gq213 rfl rfl rfl ?_
    exact kGo.weak (km_Le.s (km_Le.s (km_Le.s (km_Le.s (km_Le.n km_Le.nil))))) h
  · replace h := h.2 c
    refine g_aload_n 69 gq213 rfl rfl rfl ?_
    refine g_getA 72 326 gq213 rfl rfl rfl rfl rfl rfl rfl ?_
    refine g_iload_n 73 gq213 rfl rfl rfl ?_
    refine g_aload_n 74 gq213 rfl rfl rfl ?_
    refine g_getA 77 333 gq213 rfl rfl rfl rfl rfl rfl rfl ?_
    refine g_bipush 79 gq213 rfl rfl rfl ?_
    refine g_iload_n 80 gq213 rfl rfl rfl ?_
    refine g_imul 81 gq213 rfl rfl ?_
    refine g_iload_n 82 gq213 rfl rfl rfl ?_
    refine g_iadd 83 gq213 rfl rfl ?_
    have c25 := h.1
    replace h := h.2
    refine g_iald 84 gq213 rfl rfl rfl c25 ?_
    have c28 := h.1
    replace h := h.2
    refine g_iast 85 gq213 rfl rfl rfl c28 ?_
    refine g_iinc 88 gq213 rfl rfl rfl rfl ?_
    refine g_goto 62 gq213 rfl rfl ?_
    exact kGo.weak (km_Le.s (km_Le.s (km_Le.s (km_Le.s (km_Le.n km_Le.nil))))) h
set_option maxRecDepth 10000 in
theorem b213_100 {xs : Nat → Int32} {Lx d : Nat} {V : km_V} {Q : Option Value → km_V → Prop} {x1 x2 x3 : Int} 
    (h : (0 ≤ x2 ∧ x2 < (4 : Nat)) ∧ (kR (V 334 (Int.toNat x2))) ∧ (kR x3) ∧ ((x3 ≤ (V 334 (Int.toNat x2)) →
    (kR x2) ∧ (kR x1) ∧ ((x2 = x1 →
      kGo xs Lx (d + 6) 213 56 [some (.ref 299), some (kI x1), some (kI (x2 + (-1))), none, none] [] V Q) ∧
     (x2 ≠ x1 →
      kGo xs Lx (d + 6) 213 56 [some (.ref 299), some (kI x1), some (kI (x2 + (-1))), none, none] [] V Q))) ∧
   ((V 334 (Int.toNat x2)) < x3 →
    kCI xs Lx (d + 5) 166 8 [.ref 299, .ref 326, kI (V 334 (Int.toNat x2))] V (fun y1 W1 =>
    (kR y1) ∧ ((y1 = 3 →
      (kR x2) ∧ (kR x1) ∧ ((x2 = x1 →
        kGo xs Lx (d + 6) 213 56 [some (.ref 299), some (kI x1), some (kI (x2 + (-1))), none, none] [] W1 Q) ∧
       (x2 ≠ x1 →
        (kR (W1 334 (Int.toNat x2))) ∧ (((W1 334 (Int.toNat x2)) < x3 →
          kCV xs Lx (d + 5) 173 7 [.ref 299, .ref 326, kI (W1 334 (Int.toNat x2))] W1 (fun W2 =>
          kGo xs Lx (d + 6) 213 192 [some (.ref 299), some (kI x1), some (kI (x2 + 1)), none, some (kI 0)] [] (up W2 334 (Int.toNat x2) ((W2 334 (Int.toNat x2)) + 1)) Q)) ∧
         (x3 ≤ (W1 334 (Int.toNat x2)) →
          kGo xs Lx (d + 6) 213 56 [some (.ref 299), some (kI x1), some (kI (x2 + (-1))), none, none] [] W1 Q))))) ∧
     (y1 ≠ 3 →
      kGo xs Lx (d + 6) 213 100 [some (.ref 299), some (kI x1), some (kI x2), some (kI x3), none] [] (up W1 334 (Int.toNat x2) ((W1 334 (Int.toNat x2)) + 1)) Q)))))) :
    kGo xs Lx (d + 6) 213 100 [some (.ref 299), some (kI x1), some (kI x2), some (kI x3), none] [] V Q := by
  refine g_aload_n 101 gq213 rfl rfl rfl ?_
  refine g_getA 104 334 gq213 rfl rfl rfl rfl rfl rfl rfl ?_
  refine g_iload_n 105 gq213 rfl rfl rfl ?_
  have c3 := h.1
  replace h := h.2
  refine g_iald 106 gq213 rfl rfl rfl c3 ?_
  refine g_iload_n 107 gq213 rfl rfl rfl ?_
  have c7 := h.1
  replace h := h.2
  have c9 := h.1
  replace h := h.2
  refine g_icmp_ge 141 110 gq213 rfl rfl rfl c7 c9 (fun c => ?_) (fun c => ?_)
  · replace h := h.1 c
    refine g_iload_n 142 gq213 rfl rfl rfl ?_
    refine g_iload_n 143 gq213 rfl rfl rfl ?_
    have c15 := h.1
    replace h := h.2
    have c17 := h.1
    replace h := h.2
    refine g_icmp_eq 156 146 gq213 rfl rfl rfl c15 c17 (fun c => ?_) (fun c => ?_)
    · replace h := h.1 c
      refine g_iinc 159 gq213 rfl rfl rfl rfl ?_
      refine g_goto 56 gq213 rfl rfl ?_
      exact kGo.weak (km_Le.s (km_Le.s (km_Le.s (km_Le.n (km_Le.n km_Le.nil))))) h
    · replace h := h.2 c
      refine g_aload_n 147 gq213 rfl rfl rfl ?_
      refine g_getA 150 334 gq213 rfl rfl rfl rfl rfl rfl rfl ?_
      refine g_iload_n 151 gq213 rfl rfl rfl ?_
      refine g_iald 152 gq213 rfl rfl rfl c3 ?_
      refine g_iload_n 153 gq213 rfl rfl rfl ?_
      refine g_icmp_lt 162 156 gq213 rfl rfl rfl c7 c9 (fun c => ?_) (fun c => ?_)
      · exfalso; omega
      refine g_iinc 159 gq213 rfl rfl rfl rfl ?_
      refine g_goto 56 gq213 rfl rfl ?_
      exact kGo.weak (km_Le.s (km_Le.s (km_Le.s (km_Le.n (km_Le.n km_Le.nil))))) h
  · replace h := h.2 c
    refine g_aload_n 111 gq213 rfl rfl rfl ?_
    refine g_aload_n 112 gq213 rfl rfl rfl ?_
    refine g_getA 115 326 gq213 rfl rfl rfl rfl rfl rfl rfl ?_
    refine g_aload_n 116 gq213 rfl rfl rfl ?_
    refine g_getA 119 334 gq213 rfl rfl rfl rfl rfl rfl rfl ?_
    refine g_iload_n 120 gq213 rfl rfl rfl ?_
    refine g_iald 121 gq213 rfl rfl rfl c3 ?_
    refine g_virt 166 _ (i := 290) gq213 rfl rfl gq166 rfl rfl rfl rfl rfl rfl ?_
    refine kGo.mono h (fun r W1 hr => ?_)
    obtain ⟨y1, rfl, h⟩ := hr
    refine g_iconst 125 gq213 rfl rfl ?_
    have c47 := h.1
    replace h := h.2
    refine g_icmp_eq 141 128 gq213 rfl rfl rfl c47 (by omega) (fun c => ?_) (fun c => ?_)
    · replace h := h.1 c
      refine g_iload_n 142 gq213 rfl rfl rfl ?_
      refine g_iload_n 143 gq213 rfl rfl rfl ?_
      have c53 := h.1
      replace h := h.2
      have c55 := h.1
      replace h := h.2
      refine g_icmp_eq 156 146 gq213 rfl rfl rfl c53 c55 (fun c => ?_) (fun c => ?_)
      · replace h := h.1 c
        refine g_iinc 159 gq213 rfl rfl rfl rfl ?_
        refine g_goto 56 gq213 rfl rfl ?_
        exact kGo.weak (km_Le.s (km_Le.s (km_Le.s (km_Le.n (km_Le.n km_Le.nil))))) h
      · replace h := h.2 c
        refine g_aload_n 147 gq213 rfl rfl rfl ?_
        refine g_getA 150 334 gq213 rfl rfl rfl rfl rfl rfl rfl ?_
        refine g_iload_n 151 gq213 rfl rfl rfl ?_
        refine g_iald 152 gq213 rfl rfl rfl c3 ?_
        refine g_iload_n 153 gq213 rfl rfl rfl ?_
        have c68 := h.1
        replace h := h.2
        refine g_icmp_lt 162 156 gq213 rfl rfl rfl c68 c9 (fun c => ?_) (fun c => ?_)
        · replace h := h.1 c
          refine g_aload_n 163 gq213 rfl rfl rfl ?_
          refine g_aload_n 164 gq213 rfl rfl rfl ?_
          refine g_getA 167 326 gq213 rfl rfl rfl rfl rfl rfl rfl ?_
          refine g_aload_n 168 gq213 rfl rfl rfl ?_
          refine g_getA 171 334 gq213 rfl rfl rfl rfl rfl rfl rfl ?_
          refine g_iload_n 172 gq213 rfl rfl rfl ?_
          refine g_iald 173 gq213 rfl rfl rfl c3 ?_
          refine g_virt 173 _ (i := 318) gq213 rfl rfl gq173 rfl rfl rfl rfl rfl rfl ?_
          refine kGo.mono h (fun r W2 hr => ?_)
          obtain ⟨rfl, h⟩ := hr
          refine g_aload_n 177 gq213 rfl rfl rfl ?_
          refine g_getA 180 334 gq213 rfl rfl rfl rfl rfl rfl rfl ?_
          refine g_iload_n 181 gq213 rfl rfl rfl ?_
          refine g_dup2 182 gq213 rfl rfl rfl rfl ?_
          refine g_iald 183 gq213 rfl rfl rfl c3 ?_
          refine g_iconst 184 gq213 rfl rfl ?_
          refine g_iadd 185 gq213 rfl rfl ?_
          refine g_iast 186 gq213 rfl rfl rfl c3 ?_
          refine g_iinc 189 gq213 rfl rfl rfl rfl ?_
          refine g_iconst 190 gq213 rfl rfl ?_
          refine g_istore 192 gq213 rfl rfl rfl ?_
          exact kGo.weak (km_Le.s (km_Le.s (km_Le.s (km_Le.n (km_Le.s km_Le.nil))))) h
        · replace h := h.2 c
          refine g_iinc 159 gq213 rfl rfl rfl rfl ?_
          refine g_goto 56 gq213 rfl rfl ?_
          exact kGo.weak (km_Le.s (km_Le.s (km_Le.s (km_Le.n (km_Le.n km_Le.nil))))) h
    · replace h := h.2 c
      refine g_aload_n 129 gq213 rfl rfl rfl ?_
      refine g_getA 132 334 gq213 rfl rfl rfl rfl rfl rfl rfl ?_
      refine g_iload_n 133 gq213 rfl rfl rfl ?_
      refine g_dup2 134 gq213 rfl rfl rfl rfl ?_
      refine g_iald 135 gq213 rfl rfl rfl c3 ?_
      refine g_iconst 136 gq213 rfl rfl ?_
      refine g_iadd 137 gq213 rfl rfl ?_
      refine g_iast 138 gq213 rfl rfl rfl c3 ?_
      refine g_goto 100 gq213 rfl rfl ?_
      exact kGo.weak (km_Le.s (km_Le.s (km_Le.s (km_Le.s (km_Le.n km_Le.nil))))) h
set_option maxRecDepth 10000 in
theorem b213_192 {xs : Nat → Int32} {Lx d : Nat} {V : km_V} {Q : Option Value → km_V → Prop} {x1 x2 x4 : Int} 
    (h : (kR x4) ∧ ((78 ≤ x4 →
    (0 ≤ x2 ∧ x2 < (4 : Nat)) ∧ kCI xs Lx (d + 5) 212 3 [.ref 299, kI x2] (up V 334 (Int.toNat x2) 0) (fun y1 W1 =>
    (kR y1) ∧ ((y1 = 0 →
      kGo xs Lx (d + 6) 213 56 [some (.ref 299), some (kI x1), some (kI x2), none, none] [] W1 Q) ∧
     (y1 ≠ 0 →
      Q (some (kI 1)) W1)))) ∧
   (x4 < 78 →
    (0 ≤ x4 ∧ x4 < (78 : Nat)) ∧ (0 ≤ ((78 * x2) + x4) ∧ ((78 * x2) + x4) < (312 : Nat)) ∧ kGo xs Lx (d + 6) 213 192 [some (.ref 299), some (kI x1), some (kI x2), none, some (kI (x4 + 1))] [] (up V 333 (Int.toNat ((78 * x2) + x4)) (V 326 (Int.toNat x4))) Q))) :
    kGo xs Lx (d + 6) 213 192 [some (.ref 299), some (kI x1), some (kI x2), none, some (kI x4)] [] V Q := by
  refine g_iload 194 gq213 rfl rfl rfl ?_
  refine g_bipush 196 gq213 rfl rfl rfl ?_
  have c2 := h.1
  replace h := h.2
  refine g_icmp_ge 224 199 gq213 rfl rfl rfl c2 (by omega) (fun c => ?_) (fun c => ?_)
  · replace h := h.1 c
    refine g_aload_n 225 gq213 rfl rfl rfl ?_
    refine g_getA 228 334 gq213 rfl rfl rfl rfl rfl rfl rfl ?_
    refine g_iload_n 229 gq213 rfl rfl rfl ?_
    refine g_iconst 230 gq213 rfl rfl ?_
    have c10 := h.1
    replace h := h.2
    refine g_iast 231 gq213 rfl rfl rfl c10 ?_
    refine g_aload_n 232 gq213 rfl rfl rfl ?_
    refine g_iload_n 233 gq213 rfl rfl rfl ?_
    refine g_virt 212 _ (i := 379) gq213 rfl rfl gq212 rfl rfl rfl rfl rfl rfl ?_
    refine kGo.mono h (fun r W1 hr => ?_)
    obtain ⟨y1, rfl, h⟩ := hr
    have c18 := h.1
    replace h := h.2
    refine g_if_eq 241 239 gq213 rfl rfl rfl c18 (fun c => ?_) (fun c => ?_)
    · replace h := h.1 c
      refine g_goto 56 gq213 rfl rfl ?_
      exact kGo.weak (km_Le.s (km_Le.s (km_Le.s (km_Le.n (km_Le.n km_Le.nil))))) h
    · replace h := h.2 c
      refine g_iconst 240 gq213 rfl rfl ?_
      exact g_iret gq213 rfl rfl h
  · replace h := h.2 c
    refine g_aload_n 200 gq213 rfl rfl rfl ?_
    refine g_getA 203 333 gq213 rfl rfl rfl rfl rfl rfl rfl ?_
    refine g_bipush 205 gq213 rfl rfl rfl ?_
    refine g_iload_n 206 gq213 rfl rfl rfl ?_
    refine g_imul 207 gq213 rfl rfl ?_
    refine g_iload 209 gq213 rfl rfl rfl ?_
    refine g_iadd 210 gq213 rfl rfl ?_
    refine g_aload_n 211 gq213 rfl rfl rfl ?_
    refine g_getA 214 326 gq213 rfl rfl rfl rfl rfl rfl rfl ?_
    refine g_iload 216 gq213 rfl rfl rfl ?_
    have c38 := h.1
    replace h := h.2
    refine g_iald 217 gq213 rfl rfl rfl c38 ?_
    have c41 := h.1
    replace h := h.2
    refine g_iast 218 gq213 rfl rfl rfl c41 ?_
    refine g_iinc 221 gq213 rfl rfl rfl rfl ?_
    refine g_goto 192 gq213 rfl rfl ?_
    exact kGo.weak (km_Le.s (km_Le.s (km_Le.s (km_Le.n (km_Le.s km_Le.nil))))) h
set_option maxRecDepth 10000 in
theorem b214_0 {xs : Nat → Int32} {Lx d : Nat} {V : km_V} {Q : Option Value → km_V → Prop} 
    (h : (kR (V 307 (Int.toNat 0))) ∧ (kR (V 326 (Int.toNat 0))) ∧ (((V 307 (Int.toNat 0)) ≠ (V 326 (Int.toNat 0)) →
    Q (some (kI 0)) V) ∧
   ((V 307 (Int.toNat 0)) = (V 326 (Int.toNat 0)) →
    (kR (V 307 (Int.toNat 1))) ∧ (kR (V 326 (Int.toNat 1))) ∧ (((V 307 (Int.toNat 1)) = (V 326 (Int.toNat 1)) →
      kGo xs Lx (d + 0) 214 34 [some (.ref 299), some (kI 0), none] [] V Q) ∧
     ((V 307 (Int.toNat 1)) ≠ (V 326 (Int.toNat 1)) →
      Q (some (kI 0)) V))))) :
    kGo xs Lx (d + 0) 214 0 [some (.ref 299), none, none] [] V Q := by
  refine g_aload_n 1 gq214 rfl rfl rfl ?_
  refine g_getA 4 307 gq214 rfl rfl rfl rfl rfl rfl rfl ?_
  refine g_iconst 5 gq214 rfl rfl ?_
  refine g_iald 6 gq214 rfl rfl rfl (by omega) ?_
  refine g_aload_n 7 gq214 rfl rfl rfl ?_
  refine g_getA 10 326 gq214 rfl rfl rfl rfl rfl rfl rfl ?_
  refine g_iconst 11 gq214 rfl rfl ?_
  refine g_iald 12 gq214 rfl rfl rfl (by omega) ?_
  have c8 := h.1
  replace h := h.2
  have c10 := h.1
  replace h := h.2
  refine g_icmp_ne 30 15 gq214 rfl rfl rfl c8 c10 (fun c => ?_) (fun c => ?_)
  · replace h := h.1 c
    refine g_iconst 31 gq214 rfl rfl ?_
    exact g_zret gq214 rfl rfl (by omega) h
  · replace h := h.2 c
    refine g_aload_n 16 gq214 rfl rfl rfl ?_
    refine g_getA 19 307 gq214 rfl rfl rfl rfl rfl rfl rfl ?_
    refine g_iconst 20 gq214 rfl rfl ?_
    refine g_iald 21 gq214 rfl rfl rfl (by omega) ?_
    refine g_aload_n 22 gq214 rfl rfl rfl ?_
    refine g_getA 25 326 gq214 rfl rfl rfl rfl rfl rfl rfl ?_
    refine g_iconst 26 gq214 rfl rfl ?_
    refine g_iald 27 gq214 rfl rfl rfl (by omega) ?_
    have c25 := h.1
    replace h := h.2
    have c27 := h.1
    replace h := h.2
    refine g_icmp_eq 32 30 gq214 rfl rfl rfl c25 c27 (fun c => ?_) (fun c => ?_)
    · replace h := h.1 c
      refine g_iconst 33 gq214 rfl rfl ?_
      refine g_istore_n 34 gq214 rfl rfl rfl ?_
      exact kGo.weak (km_Le.s (km_Le.s (km_Le.n km_Le.nil))) h
    · replace h := h.2 c
      refine g_iconst 31 gq214 rfl rfl ?_
      exact g_zret gq214 rfl rfl (by omega) h
set_option maxRecDepth 10000 in
theorem b214_34 {xs : Nat → Int32} {Lx d : Nat} {V : km_V} {Q : Option Value → km_V → Prop} {x1 : Int} 
    (h : (kR x1) ∧ (kR (V 307 (Int.toNat 0))) ∧ (((V 307 (Int.toNat 0)) ≤ x1 →
    kGo xs Lx (d + 0) 214 126 [some (.ref 299), some (kI 0), none] [] V Q) ∧
   (x1 < (V 307 (Int.toNat 0)) →
    (0 ≤ (2 + x1) ∧ (2 + x1) < (78 : Nat)) ∧ (kR (V 307 (Int.toNat (2 + x1)))) ∧ (kR (V 326 (Int.toNat (2 + x1)))) ∧ (((V 307 (Int.toNat (2 + x1))) = (V 326 (Int.toNat (2 + x1))) →
      kGo xs Lx (d + 0) 214 67 [some (.ref 299), some (kI x1), some (kI 0)] [] V Q) ∧
     ((V 307 (Int.toNat (2 + x1))) ≠ (V 326 (Int.toNat (2 + x1))) →
      Q (some (kI 0)) V))))) :
    kGo xs Lx (d + 0) 214 34 [some (.ref 299), some (kI x1), none] [] V Q := by
  refine g_iload_n 35 gq214 rfl rfl rfl ?_
  refine g_aload_n 36 gq214 rfl rfl rfl ?_
  refine g_getA 39 307 gq214 rfl rfl rfl rfl rfl rfl rfl ?_
  refine g_iconst 40 gq214 rfl rfl ?_
  refine g_iald 41 gq214 rfl rfl rfl (by omega) ?_
  have c5 := h.1
  replace h := h.2
  have c7 := h.1
  replace h := h.2
  refine g_icmp_ge 124 44 gq214 rfl rfl rfl c5 c7 (fun c => ?_) (fun c => ?_)
  · replace h := h.1 c
    refine g_iconst 125 gq214 rfl rfl ?_
    refine g_istore_n 126 gq214 rfl rfl rfl ?_
    exact kGo.weak (km_Le.s (km_Le.s (km_Le.n km_Le.nil))) h
  · replace h := h.2 c
    refine g_aload_n 45 gq214 rfl rfl rfl ?_
    refine g_getA 48 307 gq214 rfl rfl rfl rfl rfl rfl rfl ?_
    refine g_iconst 49 gq214 rfl rfl ?_
    refine g_iload_n 50 gq214 rfl rfl rfl ?_
    refine g_iadd 51 gq214 rfl rfl ?_
    have c20 := h.1
    replace h := h.2
    refine g_iald 52 gq214 rfl rfl rfl c20 ?_
    refine g_aload_n 53 gq214 rfl rfl rfl ?_
    refine g_getA 56 326 gq214 rfl rfl rfl rfl rfl rfl rfl ?_
    refine g_iconst 57 gq214 rfl rfl ?_
    refine g_iload_n 58 gq214 rfl rfl rfl ?_
    refine g_iadd 59 gq214 rfl rfl ?_
    refine g_iald 60 gq214 rfl rfl rfl c20 ?_
    have c29 := h.1
    replace h := h.2
    have c31 := h.1
    replace h := h.2
    refine g_icmp_eq 65 63 gq214 rfl rfl rfl c29 c31 (fun c => ?_) (fun c => ?_)
    · replace h := h.1 c
      refine g_iconst 66 gq214 rfl rfl ?_
      refine g_istore_n 67 gq214 rfl rfl rfl ?_
      exact kGo.weak (km_Le.s (km_Le.s (km_Le.s km_Le.nil))) h
    · replace h := h.2 c
      refine g_iconst 64 gq214 rfl rfl ?_
      exact g_zret gq214 rfl rfl (by omega) h
set_option maxRecDepth 10000 in
theorem b214_126 {xs : Nat → Int32} {Lx d : Nat} {V : km_V} {Q : Option Value → km_V → Prop} {x1 : Int} 
    (h : (kR x1) ∧ (kR (V 307 (Int.toNat 1))) ∧ (((V 307 (Int.toNat 1)) ≤ x1 →
    Q (some (kI 1)) V) ∧
   (x1 < (V 307 (Int.toNat 1)) →
    (0 ≤ (70 + x1) ∧ (70 + x1) < (78 : Nat)) ∧ (kR (V 307 (Int.toNat (70 + x1)))) ∧ (kR (V 326 (Int.toNat (70 + x1)))) ∧ (((V 307 (Int.toNat (70 + x1))) = (V 326 (Int.toNat (70 + x1))) →
      kGo xs Lx (d + 0) 214 126 [some (.ref 299), some (kI (x1 + 1)), none] [] V Q) ∧
     ((V 307 (Int.toNat (70 + x1))) ≠ (V 326 (Int.toNat (70 + x1))) →
      Q (some (kI 0)) V))))) :
    kGo xs Lx (d + 0) 214 126 [some (.ref 299), some (kI x1), none] [] V Q := by
  refine g_iload_n 127 gq214 rfl rfl rfl ?_
  refine g_aload_n 128 gq214 rfl rfl rfl ?_
  refine g_getA 131 307 gq214 rfl rfl rfl rfl rfl rfl rfl ?_
  refine g_iconst 132 gq214 rfl rfl ?_
  refine g_iald 133 gq214 rfl rfl rfl (by omega) ?_
  have c5 := h.1
  replace h := h.2
  have c7 := h.1
  replace h := h.2
  refine g_icmp_ge 165 136 gq214 rfl rfl rfl c5 c7 (fun c => ?_) (fun c => ?_)
  · replace h := h.1 c
    refine g_iconst 166 gq214 rfl rfl ?_
    exact g_zret gq214 rfl rfl (by omega) h
  · replace h := h.2 c
    refine g_aload_n 137 gq214 rfl rfl rfl ?_
    refine g_getA 140 307 gq214 rfl rfl rfl rfl rfl rfl rfl ?_
    refine g_bipush 142 gq214 rfl rfl rfl ?_
    refine g_iload_n 143 gq214 rfl rfl rfl ?_
    refine g_iadd 144 gq214 rfl rfl ?_
    have c19 := h.1
    replace h := h.2
    refine g_iald 145 gq214 rfl rfl rfl c19 ?_
    refine g_aload_n 146 gq214 rfl rfl rfl ?_
    refine g_getA 149 326 gq214 rfl rfl rfl rfl rfl rfl rfl ?_
    refine g_bipush 151 gq214 rfl rfl rfl ?_
    refine g_iload_n 152 gq214 rfl rfl rfl ?_
    refine g_iadd 153 gq214 rfl rfl ?_
    refine g_iald 154 gq214 rfl rfl rfl c19 ?_
    have c28 := h.1
    replace h := h.2
    have c30 := h.1
    replace h := h.2
    refine g_icmp_eq 159 157 gq214 rfl rfl rfl c28 c30 (fun c => ?_) (fun c => ?_)
    · replace h := h.1 c
      refine g_iinc 162 gq214 rfl rfl rfl rfl ?_
      refine g_goto 126 gq214 rfl rfl ?_
      exact kGo.weak (km_Le.s (km_Le.s (km_Le.n km_Le.nil))) h
    · replace h := h.2 c
      refine g_iconst 158 gq214 rfl rfl ?_
      exact g_zret gq214 rfl rfl (by omega) h
set_option maxRecDepth 10000 in
theorem b214_67 {xs : Nat → Int32} {Lx d : Nat} {V : km_V} {Q : Option Value → km_V → Prop} {x1 x2 : Int} 
    (h : (0 ≤ (2 + x1) ∧ (2 + x1) < (78 : Nat)) ∧ (kR x2) ∧ (kR (V 307 (Int.toNat (2 + x1)))) ∧ (((V 307 (Int.toNat (2 + x1))) ≤ x2 →
    kGo xs Lx (d + 0) 214 34 [some (.ref 299), some (kI (x1 + 1)), none] [] V Q) ∧
   (x2 < (V 307 (Int.toNat (2 + x1))) →
    (0 ≤ ((6 + (16 * x1)) + x2) ∧ ((6 + (16 * x1)) + x2) < (78 : Nat)) ∧ (kR (V 307 (Int.toNat ((6 + (16 * x1)) + x2)))) ∧ (kR (V 326 (Int.toNat ((6 + (16 * x1)) + x2)))) ∧ (((V 307 (Int.toNat ((6 + (16 * x1)) + x2))) = (V 326 (Int.toNat ((6 + (16 * x1)) + x2))) →
      kGo xs Lx (d + 0) 214 67 [some (.ref 299), some (kI x1), some (kI (x2 + 1))] [] V Q) ∧
     ((V 307 (Int.toNat ((6 + (16 * x1)) + x2))) ≠ (V 326 (Int.toNat ((6 + (16 * x1)) + x2))) →
      Q (some (kI 0)) V))))) :
    kGo xs Lx (d + 0) 214 67 [some (.ref 299), some (kI x1), some (kI x2)] [] V Q := by
  refine g_iload_n 68 gq214 rfl rfl rfl ?_
  refine g_aload_n 69 gq214 rfl rfl rfl ?_
  refine g_getA 72 307 gq214 rfl rfl rfl rfl rfl rfl rfl ?_
  refine g_iconst 73 gq214 rfl rfl ?_
  refine g_iload_n 74 gq214 rfl rfl rfl ?_
  refine g_iadd 75 gq214 rfl rfl ?_
  have c6 := h.1
  replace h := h.2
  refine g_iald 76 gq214 rfl rfl rfl c6 ?_
  have c9 := h.1
  replace h := h.2
  have c11 := h.1
  replace h := h.2
  refine g_icmp_ge 118 79 gq214 rfl rfl rfl c9 c11 (fun c => ?_) (fun c => ?_)
  · replace h := h.1 c
    refine g_iinc 121 gq214 rfl rfl rfl rfl ?_
    refine g_goto 34 gq214 rfl rfl ?_
    exact kGo.weak (km_Le.s (km_Le.s (km_Le.n km_Le.nil))) h
  · replace h := h.2 c
    refine g_aload_n 80 gq214 rfl rfl rfl ?_
    refine g_getA 83 307 gq214 rfl rfl rfl rfl rfl rfl rfl ?_
    refine g_bipush 85 gq214 rfl rfl rfl ?_
    refine g_bipush 87 gq214 rfl rfl rfl ?_
    refine g_iload_n 88 gq214 rfl rfl rfl ?_
    refine g_imul 89 gq214 rfl rfl ?_
    refine g_iadd 90 gq214 rfl rfl ?_
    refine g_iload_n 91 gq214 rfl rfl rfl ?_
    refine g_iadd 92 gq214 rfl rfl ?_
    have c28 := h.1
    replace h := h.2
    refine g_iald 93 gq214 rfl rfl rfl c28 ?_
    refine g_aload_n 94 gq214 rfl rfl rfl ?_
    refine g_getA 97 326 gq214 rfl rfl rfl rfl rfl rfl rfl ?_
    refine g_bipush 99 gq214 rfl rfl rfl ?_
    refine g_bipush 101 gq214 rfl rfl rfl ?_
    refine g_iload_n 102 gq214 rfl rfl rfl ?_
    refine g_imul 103 gq214 rfl rfl ?_
    refine g_iadd 104 gq214 rfl rfl ?_
    refine g_iload_n 105 gq214 rfl rfl rfl ?_
    refine g_iadd 106 gq214 rfl rfl ?_
    refine g_iald 107 gq214 rfl rfl rfl c28 ?_
    have c41 := h.1
    replace h := h.2
    have c43 := h.1
    replace h := h.2
    refine g_icmp_eq 112 110 gq214 rfl rfl rfl c41 c43 (fun c => ?_) (fun c => ?_)
    · replace h := h.1 c
      refine g_iinc 115 gq214 rfl rfl rfl rfl ?_
      refine g_goto 67 gq214 rfl rfl ?_
      exact kGo.weak (km_Le.s (km_Le.s (km_Le.s km_Le.nil))) h
    · replace h := h.2 c
      refine g_iconst 111 gq214 rfl rfl ?_
      exact g_zret gq214 rfl rfl (by omega) h
set_option maxRecDepth 10000 in
theorem b215_0 {xs : Nat → Int32} {Lx d : Nat} {V : km_V} {Q : Option Value → km_V → Prop} {a1 a2 : Int} 
    (h : kCI xs Lx (d + 2) 179 3 [.ref 299, kI a1] V (fun y1 W1 =>
  (kR y1) ∧ ((y1 = 0 →
    Q (some (kI (-1))) W1) ∧
   (y1 ≠ 0 →
    (kR a2) ∧ (kR (kin a2 0 2)) ∧ (((kin a2 0 2) ≠ 0 →
      ((a2 ≠ 2 →
        kCV xs Lx (d + 2) 196 5 [.ref 299, .ref 326] W1 (fun W2 =>
        kGo xs Lx (d + 3) 215 48 [some (.ref 299), none, some (kI a2), some (kI (-99))] [] W2 Q)) ∧
       (a2 = 2 →
        kCI xs Lx (d + 2) 214 3 [.ref 299] W1 (fun y3 W3 =>
        (kR y3) ∧ ((y3 = 0 →
          Q (some (kI 0)) W3) ∧
         (y3 ≠ 0 →
          Q (some (kI 1)) W3)))))) ∧
     ((kin a2 0 2) = 0 →
      Q (some (kI (-1))) W1)))))) :
    kGo xs Lx (d + 3) 215 0 [some (.ref 299), some (kI a1), some (kI a2), none] [] V Q := by
  refine g_aload_n 1 gq215 rfl rfl rfl ?_
  refine g_iload_n 2 gq215 rfl rfl rfl ?_
  refine g_virt 179 _ (i := 312) gq215 rfl rfl gq179 rfl rfl rfl rfl rfl rfl ?_
  refine kGo.mono h (fun r W1 hr => ?_)
  obtain ⟨y1, rfl, h⟩ := hr
  have c5 := h.1
  replace h := h.2
  refine g_if_eq 17 8 gq215 rfl rfl rfl c5 (fun c => ?_) (fun c => ?_)
  · replace h := h.1 c
    refine g_iconst 18 gq215 rfl rfl ?_
    exact g_iret gq215 rfl rfl h
  · replace h := h.2 c
    refine g_iload_n 9 gq215 rfl rfl rfl ?_
    refine g_iconst 10 gq215 rfl rfl ?_
    refine g_iconst 11 gq215 rfl rfl ?_
    have c15 := h.1
    replace h := h.2
    refine g_static 153 _ (i := 246) gq215 rfl rfl gq153 rfl rfl rfl rfl ?_
    refine sp_in c15 (by omega) (by omega) ?_
    have c19 := h.1
    replace h := h.2
    refine g_if_ne 19 17 gq215 rfl rfl rfl c19 (fun c => ?_) (fun c => ?_)
    · replace h := h.1 c
      refine g_iload_n 20 gq215 rfl rfl rfl ?_
      refine g_iconst 21 gq215 rfl rfl ?_
      refine g_icmp_ne 37 24 gq215 rfl rfl rfl c15 (by omega) (fun c => ?_) (fun c => ?_)
      · replace h := h.1 c
        refine g_aload_n 38 gq215 rfl rfl rfl ?_
        refine g_aload_n 39 gq215 rfl rfl rfl ?_
        refine g_getA 42 326 gq215 rfl rfl rfl rfl rfl rfl rfl ?_
        refine g_virt 196 _ (i := 349) gq215 rfl rfl gq196 rfl rfl rfl rfl rfl rfl ?_
        refine kGo.mono h (fun r W2 hr => ?_)
        obtain ⟨rfl, h⟩ := hr
        refine g_bipush 47 gq215 rfl rfl rfl ?_
        refine g_istore_n 48 gq215 rfl rfl rfl ?_
        exact kGo.weak (km_Le.s (km_Le.n (km_Le.s (km_Le.s km_Le.nil)))) h
      · replace h := h.2 c
        refine g_aload_n 25 gq215 rfl rfl rfl ?_
        refine g_virt 214 _ (i := 382) gq215 rfl rfl gq214 rfl rfl rfl rfl rfl rfl ?_
        refine kGo.mono h (fun r W3 hr => ?_)
        obtain ⟨y3, rfl, h⟩ := hr
        have c41 := h.1
        replace h := h.2
        refine g_if_eq 35 31 gq215 rfl rfl rfl c41 (fun c => ?_) (fun c => ?_)
        · replace h := h.1 c
          refine g_iconst 36 gq215 rfl rfl ?_
          exact g_iret gq215 rfl rfl h
        · replace h := h.2 c
          refine g_iconst 32 gq215 rfl rfl ?_
          refine g_goto 36 gq215 rfl rfl ?_
          exact g_iret gq215 rfl rfl h
    · replace h := h.2 c
      refine g_iconst 18 gq215 rfl rfl ?_
      exact g_iret gq215 rfl rfl h
set_option maxRecDepth 10000 in
theorem b215_48 {xs : Nat → Int32} {Lx d : Nat} {V : km_V} {Q : Option Value → km_V → Prop} {x2 x3 : Int} 
    (h : (kR x3) ∧ ((99 < x3 →
    kCV xs Lx (d + 2) 196 5 [.ref 299, .ref 307] V (fun W1 =>
    kGo xs Lx (d + 3) 215 89 [some (.ref 299), none, some (kI x2), some (kI (-99))] [] W1 Q)) ∧
   (x3 ≤ 99 →
    kCI xs Lx (d + 2) 199 6 [.ref 299, .ref 326, kI x3] V (fun y2 W2 =>
    (0 ≤ (100 + x3) ∧ (100 + x3) < (201 : Nat)) ∧ kGo xs Lx (d + 3) 215 48 [some (.ref 299), none, some (kI x2), some (kI (x3 + 1))] [] (up W2 330 (Int.toNat (100 + x3)) y2) Q)))) :
    kGo xs Lx (d + 3) 215 48 [some (.ref 299), none, some (kI x2), some (kI x3)] [] V Q := by
  refine g_iload_n 49 gq215 rfl rfl rfl ?_
  refine g_bipush 51 gq215 rfl rfl rfl ?_
  have c2 := h.1
  replace h := h.2
  refine g_icmp_gt 78 54 gq215 rfl rfl rfl c2 (by omega) (fun c => ?_) (fun c => ?_)
  · replace h := h.1 c
    refine g_aload_n 79 gq215 rfl rfl rfl ?_
    refine g_aload_n 80 gq215 rfl rfl rfl ?_
    refine g_getA 83 307 gq215 rfl rfl rfl rfl rfl rfl rfl ?_
    refine g_virt 196 _ (i := 349) gq215 rfl rfl gq196 rfl rfl rfl rfl rfl rfl ?_
    refine kGo.mono h (fun r W1 hr => ?_)
    obtain ⟨rfl, h⟩ := hr
    refine g_bipush 88 gq215 rfl rfl rfl ?_
    refine g_istore_n 89 gq215 rfl rfl rfl ?_
    exact kGo.weak (km_Le.s (km_Le.n (km_Le.s (km_Le.s km_Le.nil)))) h
  · replace h := h.2 c
    refine g_aload_n 55 gq215 rfl rfl rfl ?_
    refine g_getA 58 330 gq215 rfl rfl rfl rfl rfl rfl rfl ?_
    refine g_bipush 60 gq215 rfl rfl rfl ?_
    refine g_iload_n 61 gq215 rfl rfl rfl ?_
    refine g_iadd 62 gq215 rfl rfl ?_
    refine g_aload_n 63 gq215 rfl rfl rfl ?_
    refine g_aload_n 64 gq215 rfl rfl rfl ?_
    refine g_getA 67 326 gq215 rfl rfl rfl rfl rfl rfl rfl ?_
    refine g_iload_n 68 gq215 rfl rfl rfl ?_
    refine g_virt 199 _ (i := 352) gq215 rfl rfl gq199 rfl rfl rfl rfl rfl rfl ?_
    refine kGo.mono h (fun r W2 hr => ?_)
    obtain ⟨y2, rfl, h⟩ := hr
    have c28 := h.1
    replace h := h.2
    refine g_iast 72 gq215 rfl rfl rfl c28 ?_
    refine g_iinc 75 gq215 rfl rfl rfl rfl ?_
    refine g_goto 48 gq215 rfl rfl ?_
    exact kGo.weak (km_Le.s (km_Le.n (km_Le.s (km_Le.s km_Le.nil)))) h
set_option maxRecDepth 10000 in
theorem b215_89 {xs : Nat → Int32} {Lx d : Nat} {V : km_V} {Q : Option Value → km_V → Prop} {x2 x3 : Int} 
    (h : (kR x3) ∧ ((99 < x3 →
    Q (some (kI 1)) V) ∧
   (x3 ≤ 99 →
    kCI xs Lx (d + 2) 199 6 [.ref 299, .ref 307, kI x3] V (fun y1 W1 =>
    (kR x2) ∧ ((x2 ≠ 0 →
      (0 ≤ (100 + (-x3)) ∧ (100 + (-x3)) < (201 : Nat)) ∧ (kR y1) ∧ (kR (W1 330 (Int.toNat (100 + (-x3))))) ∧ ((y1 = (W1 330 (Int.toNat (100 + (-x3)))) →
        kGo xs Lx (d + 3) 215 89 [some (.ref 299), none, some (kI x2), some (kI (x3 + 1))] [] W1 Q) ∧
       (y1 ≠ (W1 330 (Int.toNat (100 + (-x3)))) →
        Q (some (kI 0)) W1))) ∧
     (x2 = 0 →
      (0 ≤ (100 + x3) ∧ (100 + x3) < (201 : Nat)) ∧ (kR y1) ∧ (kR (W1 330 (Int.toNat (100 + x3)))) ∧ ((y1 = (W1 330 (Int.toNat (100 + x3))) →
        kGo xs Lx (d + 3) 215 89 [some (.ref 299), none, some (kI x2), some (kI (x3 + 1))] [] W1 Q) ∧
       (y1 ≠ (W1 330 (Int.toNat (100 + x3))) →
        Q (some (kI 0)) W1)))))))) :
    kGo xs Lx (d + 3) 215 89 [some (.ref 299), none, some (kI x2), some (kI x3)] [] V Q := by
  refine g_iload_n 90 gq215 rfl rfl rfl ?_
  refine g_bipush 92 gq215 rfl rfl rfl ?_
  have c2 := h.1
  replace h := h.2
  refine g_icmp_gt 133 95 gq215 rfl rfl rfl c2 (by omega) (fun c => ?_) (fun c => ?_)
  · replace h := h.1 c
    refine g_iconst 134 gq215 rfl rfl ?_
    exact g_iret gq215 rfl rfl h
  · replace h := h.2 c
    refine g_aload_n 96 gq215 rfl rfl rfl ?_
    refine g_aload_n 97 gq215 rfl rfl rfl ?_
    refine g_getA 100 307 gq215 rfl rfl rfl rfl rfl rfl rfl ?_
    refine g_iload_n 101 gq215 rfl rfl rfl ?_
    refine g_virt 199 _ (i := 352) gq215 rfl rfl gq199 rfl rfl rfl rfl rfl rfl ?_
    refine kGo.mono h (fun r W1 hr => ?_)
    obtain ⟨y1, rfl, h⟩ := hr
    refine g_aload_n 105 gq215 rfl rfl rfl ?_
    refine g_getA 108 330 gq215 rfl rfl rfl rfl rfl rfl rfl ?_
    refine g_bipush 110 gq215 rfl rfl rfl ?_
    refine g_iload_n 111 gq215 rfl rfl rfl ?_
    have c20 := h.1
    replace h := h.2
    refine g_if_ne 118 114 gq215 rfl rfl rfl c20 (fun c => ?_) (fun c => ?_)
    · replace h := h.1 c
      refine g_iload_n 119 gq215 rfl rfl rfl ?_
      refine g_ineg 120 gq215 rfl rfl ?_
      refine g_iadd 121 gq215 rfl rfl ?_
      have c27 := h.1
      replace h := h.2
      refine g_iald 122 gq215 rfl rfl rfl c27 ?_
      have c30 := h.1
      replace h := h.2
      have c32 := h.1
      replace h := h.2
      refine g_icmp_eq 127 125 gq215 rfl rfl rfl c30 c32 (fun c => ?_) (fun c => ?_)
      · replace h := h.1 c
        refine g_iinc 130 gq215 rfl rfl rfl rfl ?_
        refine g_goto 89 gq215 rfl rfl ?_
        exact kGo.weak (km_Le.s (km_Le.n (km_Le.s (km_Le.s km_Le.nil)))) h
      · replace h := h.2 c
        refine g_iconst 126 gq215 rfl rfl ?_
        exact g_iret gq215 rfl rfl h
    · replace h := h.2 c
      refine g_iload_n 115 gq215 rfl rfl rfl ?_
      refine g_goto 120 gq215 rfl rfl ?_
      refine g_iadd 121 gq215 rfl rfl ?_
      have c46 := h.1
      replace h := h.2
      refine g_iald 122 gq215 rfl rfl rfl c46 ?_
      have c49 := h.1
      replace h := h.2
      have c51 := h.1
      replace h := h.2
      refine g_icmp_eq 127 125 gq215 rfl rfl rfl c49 c51 (fun c => ?_) (fun c => ?_)
      · replace h := h.1 c
        refine g_iinc 130 gq215 rfl rfl rfl rfl ?_
        refine g_goto 89 gq215 rfl rfl ?_
        exact kGo.weak (km_Le.s (km_Le.n (km_Le.s (km_Le.s km_Le.nil)))) h
      · replace h := h.2 c
        refine g_iconst 126 gq215 rfl rfl ?_
        exact g_iret gq215 rfl rfl h
set_option maxRecDepth 10000 in
theorem b216_0 {xs : Nat → Int32} {Lx d : Nat} {V : km_V} {Q : Option Value → km_V → Prop} 
    (h : kCV xs Lx (d + 1) 157 6 [.ref 299, .ref 307] V (fun W1 =>
  kGo xs Lx (d + 2) 216 10 [some (.ref 299), some (kI 0)] [] W1 Q)) :
    kGo xs Lx (d + 2) 216 0 [some (.ref 299), none] [] V Q := by
  refine g_aload_n 1 gq216 rfl rfl rfl ?_
  refine g_aload_n 2 gq216 rfl rfl rfl ?_
  refine g_getA 5 307 gq216 rfl rfl rfl rfl rfl rfl rfl ?_
  refine g_virt 157 _ (i := 263) gq216 rfl rfl gq157 rfl rfl rfl rfl rfl rfl ?_
  refine kGo.mono h (fun r W1 hr => ?_)
  obtain ⟨rfl, h⟩ := hr
  refine g_iconst 9 gq216 rfl rfl ?_
  refine g_istore_n 10 gq216 rfl rfl rfl ?_
  exact kGo.weak (km_Le.s (km_Le.s km_Le.nil)) h
set_option maxRecDepth 10000 in
theorem b216_10 {xs : Nat → Int32} {Lx d : Nat} {V : km_V} {Q : Option Value → km_V → Prop} {x1 : Int} 
    (h : (kR x1) ∧ (kR (V 299 25)) ∧ (((V 299 25) ≤ x1 →
    Q (some (kI 1)) V) ∧
   (x1 < (V 299 25) →
    (0 ≤ x1 ∧ x1 < (16 : Nat)) ∧ (0 ≤ (V 313 (Int.toNat x1)) ∧ (V 313 (Int.toNat x1)) ≤ 2147483647) ∧ (0 ≤ (V 315 (Int.toNat x1)) ∧ (V 315 (Int.toNat x1)) < (16 : Nat)) ∧ (0 ≤ (V 313 (Int.toNat (V 315 (Int.toNat x1)))) ∧ (V 313 (Int.toNat (V 315 (Int.toNat x1)))) ≤ 2147483647) ∧ (kR ((V 313 (Int.toNat x1)) % 2)) ∧ (kR ((V 313 (Int.toNat (V 315 (Int.toNat x1)))) % 2)) ∧ ((((V 313 (Int.toNat x1)) % 2) ≠ ((V 313 (Int.toNat (V 315 (Int.toNat x1)))) % 2) →
      kGo xs Lx (d + 2) 216 10 [some (.ref 299), some (kI (x1 + 1))] [] V Q) ∧
     (((V 313 (Int.toNat x1)) % 2) = ((V 313 (Int.toNat (V 315 (Int.toNat x1)))) % 2) →
      Q (some (kI 0)) V))))) :
    kGo xs Lx (d + 2) 216 10 [some (.ref 299), some (kI x1)] [] V Q := by
  refine g_iload_n 11 gq216 rfl rfl rfl ?_
  refine g_aload_n 12 gq216 rfl rfl rfl ?_
  refine g_getI 15 gq216 rfl rfl rfl rfl rfl rfl ?_
  have c3 := h.1
  replace h := h.2
  have c5 := h.1
  replace h := h.2
  refine g_icmp_ge 50 18 gq216 rfl rfl rfl c3 c5 (fun c => ?_) (fun c => ?_)
  · replace h := h.1 c
    refine g_iconst 51 gq216 rfl rfl ?_
    exact g_iret gq216 rfl rfl h
  · replace h := h.2 c
    refine g_aload_n 19 gq216 rfl rfl rfl ?_
    refine g_getA 22 313 gq216 rfl rfl rfl rfl rfl rfl rfl ?_
    refine g_iload_n 23 gq216 rfl rfl rfl ?_
    have c15 := h.1
    replace h := h.2
    refine g_iald 24 gq216 rfl rfl rfl c15 ?_
    refine g_iconst 25 gq216 rfl rfl ?_
    have c19 := h.1
    replace h := h.2
    refine g_irem 26 gq216 rfl rfl c19 (by omega) ?_
    refine g_aload_n 27 gq216 rfl rfl rfl ?_
    refine g_getA 30 313 gq216 rfl rfl rfl rfl rfl rfl rfl ?_
    refine g_aload_n 31 gq216 rfl rfl rfl ?_
    refine g_getA 34 315 gq216 rfl rfl rfl rfl rfl rfl rfl ?_
    refine g_iload_n 35 gq216 rfl rfl rfl ?_
    refine g_iald 36 gq216 rfl rfl rfl c15 ?_
    have c28 := h.1
    replace h := h.2
    refine g_iald 37 gq216 rfl rfl rfl c28 ?_
    refine g_iconst 38 gq216 rfl rfl ?_
    have c32 := h.1
    replace h := h.2
    refine g_irem 39 gq216 rfl rfl c32 (by omega) ?_
    have c35 := h.1
    replace h := h.2
    have c37 := h.1
    replace h := h.2
    refine g_icmp_ne 44 42 gq216 rfl rfl rfl c35 c37 (fun c => ?_) (fun c => ?_)
    · replace h := h.1 c
      refine g_iinc 47 gq216 rfl rfl rfl rfl ?_
      refine g_goto 10 gq216 rfl rfl ?_
      exact kGo.weak (km_Le.s (km_Le.s km_Le.nil)) h
    · replace h := h.2 c
      refine g_iconst 43 gq216 rfl rfl ?_
      exact g_iret gq216 rfl rfl h
set_option maxRecDepth 10000 in
theorem b217_0 {xs : Nat → Int32} {Lx d : Nat} {V : km_V} {Q : Option Value → km_V → Prop} {a1 : Int} 
    (h : (kR a1) ∧ (((a1 < 0 ∨ 16 < a1) → Q (some (kI (-100000))) V) ∧ (a1 = 0 →
    Q (some (kI (V 307 (Int.toNat 0)))) V) ∧ (a1 = 1 →
    Q (some (kI (V 307 (Int.toNat 1)))) V) ∧ (a1 = 2 →
    Q (some (kI (2 * (V 307 (Int.toNat 1))))) V) ∧ (a1 = 3 →
    kCI xs Lx (d + 4) 161 4 [.ref 299, .ref 307] V (fun y1 W1 =>
    Q (some (kI y1)) W1)) ∧ (a1 = 4 →
    kCI xs Lx (d + 4) 162 4 [.ref 299, .ref 307] V (fun y2 W2 =>
    Q (some (kI y2)) W2)) ∧ (a1 = 5 →
    kCI xs Lx (d + 4) 198 3 [.ref 307] V (fun y3 W3 =>
    Q (some (kI y3)) W3)) ∧ (a1 = 6 →
    kCI xs Lx (d + 4) 203 6 [.ref 299, .ref 307] V (fun y4 W4 =>
    Q (some (kI y4)) W4)) ∧ (a1 = 7 →
    kCJ xs Lx (d + 4) 209 8 [.ref 299] V (fun y5 W5 =>
    Q (some (kI y5)) W5)) ∧ (a1 = 8 →
    kCI xs Lx (d + 4) 201 3 [.ref 299] V (fun y6 W6 =>
    Q (some (kI y6)) W6)) ∧ (a1 = 9 →
    kCI xs Lx (d + 4) 193 3 [.ref 307] V (fun y7 W7 =>
    Q (some (kI y7)) W7)) ∧ (a1 = 10 →
    kCI xs Lx (d + 4) 167 4 [.ref 299, kI 1] V (fun y8 W8 =>
    Q (some (kI y8)) W8)) ∧ (a1 = 11 →
    kCI xs Lx (d + 4) 167 4 [.ref 299, kI 2] V (fun y9 W9 =>
    Q (some (kI y9)) W9)) ∧ (a1 = 12 →
    kCI xs Lx (d + 4) 167 4 [.ref 299, kI 3] V (fun y10 W10 =>
    Q (some (kI y10)) W10)) ∧ (a1 = 13 →
    kCI xs Lx (d + 4) 216 2 [.ref 299] V (fun y11 W11 =>
    Q (some (kI y11)) W11)) ∧ (a1 = 14 →
    Q (some (kI (V 299 2))) V) ∧ (a1 = 15 →
    Q (some (kI (V 299 39))) V) ∧ (a1 = 16 →
    (kR (V 325 (Int.toNat 0))) ∧ (((V 325 (Int.toNat 0)) = 0 →
      (kR (V 325 (Int.toNat 1))) ∧ (((V 325 (Int.toNat 1)) = 0 →
        (kR (V 325 (Int.toNat 2))) ∧ (((V 325 (Int.toNat 2)) = 0 →
          Q (some (kI ((0 + 0) + 0))) V) ∧
         ((V 325 (Int.toNat 2)) ≠ 0 →
          Q (some (kI ((0 + 0) + 1))) V))) ∧
       ((V 325 (Int.toNat 1)) ≠ 0 →
        (kR (V 325 (Int.toNat 2))) ∧ (((V 325 (Int.toNat 2)) = 0 →
          Q (some (kI ((0 + 1) + 0))) V) ∧
         ((V 325 (Int.toNat 2)) ≠ 0 →
          Q (some (kI ((0 + 1) + 1))) V))))) ∧
     ((V 325 (Int.toNat 0)) ≠ 0 →
      (kR (V 325 (Int.toNat 1))) ∧ (((V 325 (Int.toNat 1)) = 0 →
        (kR (V 325 (Int.toNat 2))) ∧ (((V 325 (Int.toNat 2)) = 0 →
          Q (some (kI ((1 + 0) + 0))) V) ∧
         ((V 325 (Int.toNat 2)) ≠ 0 →
          Q (some (kI ((1 + 0) + 1))) V))) ∧
       ((V 325 (Int.toNat 1)) ≠ 0 →
        (kR (V 325 (Int.toNat 2))) ∧ (((V 325 (Int.toNat 2)) = 0 →
          Q (some (kI ((1 + 1) + 0))) V) ∧
         ((V 325 (Int.toNat 2)) ≠ 0 →
          Q (some (kI ((1 + 1) + 1))) V))))))))) :
    kGo xs Lx (d + 5) 217 0 [some (.ref 299), some (kI a1)] [] V Q := by
  refine g_iload_n 1 gq217 rfl rfl rfl ?_
  have c1 := h.1
  replace h := h.2
  by_cases hd : a1 < 0 ∨ 16 < a1
  · replace h := h.1 hd
    refine g_switch 239 gq217 rfl c1 (by rw [if_pos hd]; rfl) ?_
    refine g_ldcw 242 (-100000) gq217 rfl rfl rfl rfl ?_
    exact g_iret gq217 rfl rfl h
  replace h := h.2
  have hv : a1 = 0 ∨ a1 = 1 ∨ a1 = 2 ∨ a1 = 3 ∨ a1 = 4 ∨ a1 = 5 ∨ a1 = 6 ∨ a1 = 7 ∨ a1 = 8 ∨ a1 = 9 ∨ a1 = 10 ∨ a1 = 11 ∨ a1 = 12 ∨ a1 = 13 ∨ a1 = 14 ∨ a1 = 15 ∨ a1 = 16 := by omega
  rcases hv with hv | hv | hv | hv | hv | hv | hv | hv | hv | hv | hv | hv | hv | hv | hv | hv | hv
  · replace h := h.1 hv
    refine g_switch 84 gq217 rfl c1 (by rw [hv]; rfl) ?_
    refine g_aload_n 85 gq217 rfl rfl rfl ?_
    refine g_getA 88 307 gq217 rfl rfl rfl rfl rfl rfl rfl ?_
    refine g_iconst 89 gq217 rfl rfl ?_
    refine g_iald 90 gq217 rfl rfl rfl (by omega) ?_
    exact g_iret gq217 rfl rfl h
  · replace h := h.2.1 hv
    refine g_switch 91 gq217 rfl c1 (by rw [hv]; rfl) ?_
    refine g_aload_n 92 gq217 rfl rfl rfl ?_
    refine g_getA 95 307 gq217 rfl rfl rfl rfl rfl rfl rfl ?_
    refine g_iconst 96 gq217 rfl rfl ?_
    refine g_iald 97 gq217 rfl rfl rfl (by omega) ?_
    exact g_iret gq217 rfl rfl h
  · replace h := h.2.2.1 hv
    refine g_switch 98 gq217 rfl c1 (by rw [hv]; rfl) ?_
    refine g_iconst 99 gq217 rfl rfl ?_
    refine g_aload_n 100 gq217 rfl rfl rfl ?_
    refine g_getA 103 307 gq217 rfl rfl rfl rfl rfl rfl rfl ?_
    refine g_iconst 104 gq217 rfl rfl ?_
    refine g_iald 105 gq217 rfl rfl rfl (by omega) ?_
    refine g_imul 106 gq217 rfl rfl ?_
    exact g_iret gq217 rfl rfl h
  · replace h := h.2.2.2.1 hv
    refine g_switch 107 gq217 rfl c1 (by rw [hv]; rfl) ?_
    refine g_aload_n 108 gq217 rfl rfl rfl ?_
    refine g_aload_n 109 gq217 rfl rfl rfl ?_
    refine g_getA 112 307 gq217 rfl rfl rfl rfl rfl rfl rfl ?_
    refine g_virt 161 _ (i := 277) gq217 rfl rfl gq161 rfl rfl rfl rfl rfl rfl ?_
    refine kGo.mono h (fun r W1 hr => ?_)
    obtain ⟨y1, rfl, h⟩ := hr
    exact g_iret gq217 rfl rfl h
  · replace h := h.2.2.2.2.1 hv
    refine g_switch 116 gq217 rfl c1 (by rw [hv]; rfl) ?_
    refine g_aload_n 117 gq217 rfl rfl rfl ?_
    refine g_aload_n 118 gq217 rfl rfl rfl ?_
    refine g_getA 121 307 gq217 rfl rfl rfl rfl rfl rfl rfl ?_
    refine g_virt 162 _ (i := 281) gq217 rfl rfl gq162 rfl rfl rfl rfl rfl rfl ?_
    refine kGo.mono h (fun r W2 hr => ?_)
    obtain ⟨y2, rfl, h⟩ := hr
    exact g_iret gq217 rfl rfl h
  · replace h := h.2.2.2.2.2.1 hv
    refine g_switch 125 gq217 rfl c1 (by rw [hv]; rfl) ?_
    refine g_aload_n 126 gq217 rfl rfl rfl ?_
    refine g_getA 129 307 gq217 rfl rfl rfl rfl rfl rfl rfl ?_
    refine g_static 198 _ (i := 346) gq217 rfl rfl gq198 rfl rfl rfl rfl ?_
    refine kGo.mono h (fun r W3 hr => ?_)
    obtain ⟨y3, rfl, h⟩ := hr
    exact g_iret gq217 rfl rfl h
  · replace h := h.2.2.2.2.2.2.1 hv
    refine g_switch 133 gq217 rfl c1 (by rw [hv]; rfl) ?_
    refine g_aload_n 134 gq217 rfl rfl rfl ?_
    refine g_aload_n 135 gq217 rfl rfl rfl ?_
    refine g_getA 138 307 gq217 rfl rfl rfl rfl rfl rfl rfl ?_
    refine g_virt 203 _ (i := 328) gq217 rfl rfl gq203 rfl rfl rfl rfl rfl rfl ?_
    refine kGo.mono h (fun r W4 hr => ?_)
    obtain ⟨y4, rfl, h⟩ := hr
    exact g_iret gq217 rfl rfl h
  · replace h := h.2.2.2.2.2.2.2.1 hv
    refine g_switch 142 gq217 rfl c1 (by rw [hv]; rfl) ?_
    refine g_aload_n 143 gq217 rfl rfl rfl ?_
    refine g_virt 209 _ (i := 386) gq217 rfl rfl gq209 rfl rfl rfl rfl rfl rfl ?_
    refine kGo.mono h (fun r W5 hr => ?_)
    obtain ⟨y5, rfl, h⟩ := hr
    refine g_l2i 147 gq217 rfl rfl ?_
    exact g_iret gq217 rfl rfl h
  · replace h := h.2.2.2.2.2.2.2.2.1 hv
    refine g_switch 148 gq217 rfl c1 (by rw [hv]; rfl) ?_
    refine g_aload_n 149 gq217 rfl rfl rfl ?_
    refine g_virt 201 _ (i := 390) gq217 rfl rfl gq201 rfl rfl rfl rfl rfl rfl ?_
    refine kGo.mono h (fun r W6 hr => ?_)
    obtain ⟨y6, rfl, h⟩ := hr
    exact g_iret gq217 rfl rfl h
  · replace h := h.2.2.2.2.2.2.2.2.2.1 hv
    refine g_switch 153 gq217 rfl c1 (by rw [hv]; rfl) ?_
    refine g_aload_n 154 gq217 rfl rfl rfl ?_
    refine g_getA 157 307 gq217 rfl rfl rfl rfl rfl rfl rfl ?_
    refine g_static 193 _ (i := 334) gq217 rfl rfl gq193 rfl rfl rfl rfl ?_
    refine kGo.mono h (fun r W7 hr => ?_)
    obtain ⟨y7, rfl, h⟩ := hr
    exact g_iret gq217 rfl rfl h
  · replace h := h.2.2.2.2.2.2.2.2.2.2.1 hv
    refine g_switch 161 gq217 rfl c1 (by rw [hv]; rfl) ?_
    refine g_aload_n 162 gq217 rfl rfl rfl ?_
    refine g_iconst 163 gq217 rfl rfl ?_
    refine g_virt 167 _ (i := 393) gq217 rfl rfl gq167 rfl rfl rfl rfl rfl rfl ?_
    refine kGo.mono h (fun r W8 hr => ?_)
    obtain ⟨y8, rfl, h⟩ := hr
    exact g_iret gq217 rfl rfl h
  · replace h := h.2.2.2.2.2.2.2.2.2.2.2.1 hv
    refine g_switch 167 gq217 rfl c1 (by rw [hv]; rfl) ?_
    refine g_aload_n 168 gq217 rfl rfl rfl ?_
    refine g_iconst 169 gq217 rfl rfl ?_
    refine g_virt 167 _ (i := 393) gq217 rfl rfl gq167 rfl rfl rfl rfl rfl rfl ?_
    refine kGo.mono h (fun r W9 hr => ?_)
    obtain ⟨y9, rfl, h⟩ := hr
    exact g_iret gq217 rfl rfl h
  · replace h := h.2.2.2.2.2.2.2.2.2.2.2.2.1 hv
    refine g_switch 173 gq217 rfl c1 (by rw [hv]; rfl) ?_
    refine g_aload_n 174 gq217 rfl rfl rfl ?_
    refine g_iconst 175 gq217 rfl rfl ?_
    refine g_virt 167 _ (i := 393) gq217 rfl rfl gq167 rfl rfl rfl rfl rfl rfl ?_
    refine kGo.mono h (fun r W10 hr => ?_)
    obtain ⟨y10, rfl, h⟩ := hr
    exact g_iret gq217 rfl rfl h
  · replace h := h.2.2.2.2.2.2.2.2.2.2.2.2.2.1 hv
    refine g_switch 179 gq217 rfl c1 (by rw [hv]; rfl) ?_
    refine g_aload_n 180 gq217 rfl rfl rfl ?_
    refine g_virt 216 _ (i := 396) gq217 rfl rfl gq216 rfl rfl rfl rfl rfl rfl ?_
    refine kGo.mono h (fun r W11 hr => ?_)
    obtain ⟨y11, rfl, h⟩ := hr
    exact g_iret gq217 rfl rfl h
  · replace h := h.2.2.2.2.2.2.2.2.2.2.2.2.2.2.1 hv
    refine g_switch 184 gq217 rfl c1 (by rw [hv]; rfl) ?_
    refine g_aload_n 185 gq217 rfl rfl rfl ?_
    refine g_getI 188 gq217 rfl rfl rfl rfl rfl rfl ?_
    exact g_iret gq217 rfl rfl h
  · replace h := h.2.2.2.2.2.2.2.2.2.2.2.2.2.2.2.1 hv
    refine g_switch 189 gq217 rfl c1 (by rw [hv]; rfl) ?_
    refine g_aload_n 190 gq217 rfl rfl rfl ?_
    refine g_getI 193 gq217 rfl rfl rfl rfl rfl rfl ?_
    exact g_iret gq217 rfl rfl h
  · replace h := h.2.2.2.2.2.2.2.2.2.2.2.2.2.2.2.2 hv
    refine g_switch 194 gq217 rfl c1 (by rw [hv]; rfl) ?_
    refine g_aload_n 195 gq217 rfl rfl rfl ?_
    refine g_getA 198 325 gq217 rfl rfl rfl rfl rfl rfl rfl ?_
    refine g_iconst 199 gq217 rfl rfl ?_
    refine g_zald 200 gq217 rfl rfl rfl (by omega) ?_
    have c139 := h.1
    replace h := h.2
    refine g_if_eq 207 203 gq217 rfl rfl rfl c139 (fun c => ?_) (fun c => ?_)
    · replace h := h.1 c
      refine g_iconst 208 gq217 rfl rfl ?_
      refine g_aload_n 209 gq217 rfl rfl rfl ?_
      refine g_getA 212 325 gq217 rfl rfl rfl rfl rfl rfl rfl ?_
      refine g_iconst 213 gq217 rfl rfl ?_
      refine g_zald 214 gq217 rfl rfl rfl (by omega) ?_
      have c148 := h.1
      replace h := h.2
      refine g_if_eq 221 217 gq217 rfl rfl rfl c148 (fun c => ?_) (fun c => ?_)
      · replace h := h.1 c
        refine g_iconst 222 gq217 rfl rfl ?_
        refine g_iadd 223 gq217 rfl rfl ?_
        refine g_aload_n 224 gq217 rfl rfl rfl ?_
        refine g_getA 227 325 gq217 rfl rfl rfl rfl rfl rfl rfl ?_
        refine g_iconst 228 gq217 rfl rfl ?_
        refine g_zald 229 gq217 rfl rfl rfl (by omega) ?_
        have c158 := h.1
        replace h := h.2
        refine g_if_eq 236 232 gq217 rfl rfl rfl c158 (fun c => ?_) (fun c => ?_)
        · replace h := h.1 c
          refine g_iconst 237 gq217 rfl rfl ?_
          refine g_iadd 238 gq217 rfl rfl ?_
          exact g_iret gq217 rfl rfl h
        · replace h := h.2 c
          refine g_iconst 233 gq217 rfl rfl ?_
          refine g_goto 237 gq217 rfl rfl ?_
          refine g_iadd 238 gq217 rfl rfl ?_
          exact g_iret gq217 rfl rfl h
      · replace h := h.2 c
        refine g_iconst 218 gq217 rfl rfl ?_
        refine g_goto 222 gq217 rfl rfl ?_
        refine g_iadd 223 gq217 rfl rfl ?_
        refine g_aload_n 224 gq217 rfl rfl rfl ?_
        refine g_getA 227 325 gq217 rfl rfl rfl rfl rfl rfl rfl ?_
        refine g_iconst 228 gq217 rfl rfl ?_
        refine g_zald 229 gq217 rfl rfl rfl (by omega) ?_
        have c178 := h.1
        replace h := h.2
        refine g_if_eq 236 232 gq217 rfl rfl rfl c178 (fun c => ?_) (fun c => ?_)
        · replace h := h.1 c
          refine g_iconst 237 gq217 rfl rfl ?_
          refine g_iadd 238 gq217 rfl rfl ?_
          exact g_iret gq217 rfl rfl h
        · replace h := h.2 c
          refine g_iconst 233 gq217 rfl rfl ?_
          refine g_goto 237 gq217 rfl rfl ?_
          refine g_iadd 238 gq217 rfl rfl ?_
          exact g_iret gq217 rfl rfl h
    · replace h := h.2 c
      refine g_iconst 204 gq217 rfl rfl ?_
      refine g_goto 208 gq217 rfl rfl ?_
      refine g_aload_n 209 gq217 rfl rfl rfl ?_
      refine g_getA 212 325 gq217 rfl rfl rfl rfl rfl rfl rfl ?_
      refine g_iconst 213 gq217 rfl rfl ?_
      refine g_zald 214 gq217 rfl rfl rfl (by omega) ?_
      have c197 := h.1
      replace h := h.2
      refine g_if_eq 221 217 gq217 rfl rfl rfl c197 (fun c => ?_) (fun c => ?_)
      · replace h := h.1 c
        refine g_iconst 222 gq217 rfl rfl ?_
        refine g_iadd 223 gq217 rfl rfl ?_
        refine g_aload_n 224 gq217 rfl rfl rfl ?_
        refine g_getA 227 325 gq217 rfl rfl rfl rfl rfl rfl rfl ?_
        refine g_iconst 228 gq217 rfl rfl ?_
        refine g_zald 229 gq217 rfl rfl rfl (by omega) ?_
        have c207 := h.1
        replace h := h.2
        refine g_if_eq 236 232 gq217 rfl rfl rfl c207 (fun c => ?_) (fun c => ?_)
        · replace h := h.1 c
          refine g_iconst 237 gq217 rfl rfl ?_
          refine g_iadd 238 gq217 rfl rfl ?_
          exact g_iret gq217 rfl rfl h
        · replace h := h.2 c
          refine g_iconst 233 gq217 rfl rfl ?_
          refine g_goto 237 gq217 rfl rfl ?_
          refine g_iadd 238 gq217 rfl rfl ?_
          exact g_iret gq217 rfl rfl h
      · replace h := h.2 c
        refine g_iconst 218 gq217 rfl rfl ?_
        refine g_goto 222 gq217 rfl rfl ?_
        refine g_iadd 223 gq217 rfl rfl ?_
        refine g_aload_n 224 gq217 rfl rfl rfl ?_
        refine g_getA 227 325 gq217 rfl rfl rfl rfl rfl rfl rfl ?_
        refine g_iconst 228 gq217 rfl rfl ?_
        refine g_zald 229 gq217 rfl rfl rfl (by omega) ?_
        have c227 := h.1
        replace h := h.2
        refine g_if_eq 236 232 gq217 rfl rfl rfl c227 (fun c => ?_) (fun c => ?_)
        · replace h := h.1 c
          refine g_iconst 237 gq217 rfl rfl ?_
          refine g_iadd 238 gq217 rfl rfl ?_
          exact g_iret gq217 rfl rfl h
        · replace h := h.2 c
          refine g_iconst 233 gq217 rfl rfl ?_
          refine g_goto 237 gq217 rfl rfl ?_
          refine g_iadd 238 gq217 rfl rfl ?_
          exact g_iret gq217 rfl rfl h

set_option maxRecDepth 10000 in
theorem b91_0 {xs : Nat → Int32} {Lx d : Nat} {V : km_V} {Q : Option Value → km_V → Prop} {a1 a2 a3 a4 a5 : Int} 
    (h : (kR ((V 1 0) + 20)) ∧ ((((V 1 0) + 20) ≤ 2000 →
    kCV xs Lx (d + 0) 80 3 [.ref 1, kI a1] V (fun W1 =>
    kCV xs Lx (d + 0) 80 3 [.ref 1, kI a2] W1 (fun W2 =>
    kCV xs Lx (d + 0) 80 3 [.ref 1, kI a3] W2 (fun W3 =>
    kCV xs Lx (d + 0) 80 3 [.ref 1, kI a4] W3 (fun W4 =>
    kCV xs Lx (d + 0) 80 3 [.ref 1, kI a5] W4 (fun W5 =>
    Q (some (kI (W5 1 0))) W5)))))) ∧
   (2000 < ((V 1 0) + 20) →
    Q (some (kI (-1))) V))) :
    kGo xs Lx (d + 1) 91 0 [some (.ref 0), some (kI a1), some (kI a2), some (kI a3), some (kI a4), some (kI a5)] [] V Q := by
  refine g_aload_n 1 gq91 rfl rfl rfl ?_
  refine g_getA 4 1 gq91 rfl rfl rfl rfl rfl rfl rfl ?_
  refine g_getI 7 gq91 rfl rfl rfl rfl rfl rfl ?_
  refine g_bipush 9 gq91 rfl rfl rfl ?_
  refine g_iadd 10 gq91 rfl rfl ?_
  refine g_sipush 13 gq91 rfl rfl rfl ?_
  have c6 := h.1
  replace h := h.2
  refine g_icmp_le 18 16 gq91 rfl rfl rfl c6 (by omega) (fun c => ?_) (fun c => ?_)
  · replace h := h.1 c
    refine g_aload_n 19 gq91 rfl rfl rfl ?_
    refine g_getA 22 1 gq91 rfl rfl rfl rfl rfl rfl rfl ?_
    refine g_iload_n 23 gq91 rfl rfl rfl ?_
    refine g_virt 80 _ (i := 89) gq91 rfl rfl gq80 rfl rfl rfl rfl rfl rfl ?_
    refine kGo.mono h (fun r W1 hr => ?_)
    obtain ⟨rfl, h⟩ := hr
    refine g_aload_n 27 gq91 rfl rfl rfl ?_
    refine g_getA 30 1 gq91 rfl rfl rfl rfl rfl rfl rfl ?_
    refine g_iload_n 31 gq91 rfl rfl rfl ?_
    refine g_virt 80 _ (i := 89) gq91 rfl rfl gq80 rfl rfl rfl rfl rfl rfl ?_
    refine kGo.mono h (fun r W2 hr => ?_)
    obtain ⟨rfl, h⟩ := hr
    refine g_aload_n 35 gq91 rfl rfl rfl ?_
    refine g_getA 38 1 gq91 rfl rfl rfl rfl rfl rfl rfl ?_
    refine g_iload_n 39 gq91 rfl rfl rfl ?_
    refine g_virt 80 _ (i := 89) gq91 rfl rfl gq80 rfl rfl rfl rfl rfl rfl ?_
    refine kGo.mono h (fun r W3 hr => ?_)
    obtain ⟨rfl, h⟩ := hr
    refine g_aload_n 43 gq91 rfl rfl rfl ?_
    refine g_getA 46 1 gq91 rfl rfl rfl rfl rfl rfl rfl ?_
    refine g_iload 48 gq91 rfl rfl rfl ?_
    refine g_virt 80 _ (i := 89) gq91 rfl rfl gq80 rfl rfl rfl rfl rfl rfl ?_
    refine kGo.mono h (fun r W4 hr => ?_)
    obtain ⟨rfl, h⟩ := hr
    refine g_aload_n 52 gq91 rfl rfl rfl ?_
    refine g_getA 55 1 gq91 rfl rfl rfl rfl rfl rfl rfl ?_
    refine g_iload 57 gq91 rfl rfl rfl ?_
    refine g_virt 80 _ (i := 89) gq91 rfl rfl gq80 rfl rfl rfl rfl rfl rfl ?_
    refine kGo.mono h (fun r W5 hr => ?_)
    obtain ⟨rfl, h⟩ := hr
    refine g_aload_n 61 gq91 rfl rfl rfl ?_
    refine g_getA 64 1 gq91 rfl rfl rfl rfl rfl rfl rfl ?_
    refine g_getI 67 gq91 rfl rfl rfl rfl rfl rfl ?_
    exact g_iret gq91 rfl rfl h
  · replace h := h.2 c
    refine g_iconst 17 gq91 rfl rfl ?_
    exact g_iret gq91 rfl rfl h
set_option maxRecDepth 10000 in
theorem b92_0 {xs : Nat → Int32} {Lx d : Nat} {V : km_V} {Q : Option Value → km_V → Prop} {a1 : Int} 
    (h : (kR a1) ∧ ((a1 < 0 →
    Q (some (kI (-1))) V) ∧
   (0 ≤ a1 →
    (kR (V 1 0)) ∧ ((a1 ≤ (V 1 0) →
      Q (some (kI ((up V 1 0 ((V 1 0) - a1)) 1 0))) (up V 1 0 ((V 1 0) - a1))) ∧
     ((V 1 0) < a1 →
      Q (some (kI (-1))) V))))) :
    kGo xs Lx (d + 0) 92 0 [some (.ref 0), some (kI a1)] [] V Q := by
  refine g_iload_n 1 gq92 rfl rfl rfl ?_
  have c1 := h.1
  replace h := h.2
  refine g_if_lt 15 4 gq92 rfl rfl rfl c1 (fun c => ?_) (fun c => ?_)
  · replace h := h.1 c
    refine g_iconst 16 gq92 rfl rfl ?_
    exact g_iret gq92 rfl rfl h
  · replace h := h.2 c
    refine g_iload_n 5 gq92 rfl rfl rfl ?_
    refine g_aload_n 6 gq92 rfl rfl rfl ?_
    refine g_getA 9 1 gq92 rfl rfl rfl rfl rfl rfl rfl ?_
    refine g_getI 12 gq92 rfl rfl rfl rfl rfl rfl ?_
    have c12 := h.1
    replace h := h.2
    refine g_icmp_le 17 15 gq92 rfl rfl rfl c1 c12 (fun c => ?_) (fun c => ?_)
    · replace h := h.1 c
      refine g_aload_n 18 gq92 rfl rfl rfl ?_
      refine g_getA 21 1 gq92 rfl rfl rfl rfl rfl rfl rfl ?_
      refine g_dup 22 gq92 rfl rfl rfl ?_
      refine g_getI 25 gq92 rfl rfl rfl rfl rfl rfl ?_
      refine g_iload_n 26 gq92 rfl rfl rfl ?_
      refine g_isub 27 gq92 rfl rfl ?_
      refine g_putI 30 gq92 rfl rfl rfl rfl rfl rfl rfl rfl ?_
      refine g_aload_n 31 gq92 rfl rfl rfl ?_
      refine g_getA 34 1 gq92 rfl rfl rfl rfl rfl rfl rfl ?_
      refine g_getI 37 gq92 rfl rfl rfl rfl rfl rfl ?_
      exact g_iret gq92 rfl rfl h
    · replace h := h.2 c
      refine g_iconst 16 gq92 rfl rfl ?_
      exact g_iret gq92 rfl rfl h
set_option maxRecDepth 10000 in
theorem b93_0 {xs : Nat → Int32} {Lx d : Nat} {V : km_V} {Q : Option Value → km_V → Prop} 
    (h : kCI xs Lx (d + 5) 41 4 [.ref 3, .ref 1, .ref 209, .ref 213] V (fun y1 W1 =>
  (kR y1) ∧ ((y1 ≠ 0 →
    kGo xs Lx (d + 6) 93 65 [some (.ref 0), none, some (kI 0)] [] (up (up (up W1 1 0 0) 0 16 (-1)) 45 0 0) Q) ∧
   (y1 = 0 →
    Q (some (kI ((up (up W1 1 0 0) 0 16 ((up W1 1 0 0) 3 1)) 3 0))) (up (up W1 1 0 0) 0 16 ((up W1 1 0 0) 3 1)))))) :
    kGo xs Lx (d + 6) 93 0 [some (.ref 0), none, none] [] V Q := by
  refine g_aload_n 1 gq93 rfl rfl rfl ?_
  refine g_getA 4 3 gq93 rfl rfl rfl rfl rfl rfl rfl ?_
  refine g_aload_n 5 gq93 rfl rfl rfl ?_
  refine g_getA 8 1 gq93 rfl rfl rfl rfl rfl rfl rfl ?_
  refine g_aload_n 9 gq93 rfl rfl rfl ?_
  refine g_getA 12 209 gq93 rfl rfl rfl rfl rfl rfl rfl ?_
  refine g_aload_n 13 gq93 rfl rfl rfl ?_
  refine g_getA 16 213 gq93 rfl rfl rfl rfl rfl rfl rfl ?_
  refine g_virt 41 _ (i := 93) gq93 rfl rfl gq41 rfl rfl rfl rfl rfl rfl ?_
  refine kGo.mono h (fun r W1 hr => ?_)
  obtain ⟨y1, rfl, h⟩ := hr
  refine g_istore_n 20 gq93 rfl rfl rfl ?_
  refine g_aload_n 21 gq93 rfl rfl rfl ?_
  refine g_getA 24 1 gq93 rfl rfl rfl rfl rfl rfl rfl ?_
  refine g_iconst 25 gq93 rfl rfl ?_
  refine g_putI 28 gq93 rfl rfl rfl rfl rfl rfl rfl rfl ?_
  refine g_iload_n 29 gq93 rfl rfl rfl ?_
  have c17 := h.1
  replace h := h.2
  refine g_if_ne 51 32 gq93 rfl rfl rfl c17 (fun c => ?_) (fun c => ?_)
  · replace h := h.1 c
    refine g_aload_n 52 gq93 rfl rfl rfl ?_
    refine g_iconst 53 gq93 rfl rfl ?_
    refine g_putI 56 gq93 rfl rfl rfl rfl rfl rfl rfl rfl ?_
    refine g_aload_n 57 gq93 rfl rfl rfl ?_
    refine g_getA 60 45 gq93 rfl rfl rfl rfl rfl rfl rfl ?_
    refine g_virt 37 _ (i := 103) gq93 rfl rfl gq37 rfl rfl rfl rfl rfl rfl ?_
    refine g_aload_n 1 gq37 rfl rfl rfl ?_
    refine g_iconst 2 gq37 rfl rfl ?_
    refine g_putI 5 gq37 rfl rfl rfl rfl rfl rfl rfl rfl ?_
    refine g_vret gq37 rfl rfl ?_
    refine g_iconst 64 gq93 rfl rfl ?_
    refine g_istore_n 65 gq93 rfl rfl rfl ?_
    exact kGo.weak (km_Le.s (km_Le.n (km_Le.s km_Le.nil))) h
  · replace h := h.2 c
    refine g_aload_n 33 gq93 rfl rfl rfl ?_
    refine g_aload_n 34 gq93 rfl rfl rfl ?_
    refine g_getA 37 3 gq93 rfl rfl rfl rfl rfl rfl rfl ?_
    refine g_getI 40 gq93 rfl rfl rfl rfl rfl rfl ?_
    refine g_putI 43 gq93 rfl rfl rfl rfl rfl rfl rfl rfl ?_
    refine g_aload_n 44 gq93 rfl rfl rfl ?_
    refine g_getA 47 3 gq93 rfl rfl rfl rfl rfl rfl rfl ?_
    refine g_getI 50 gq93 rfl rfl rfl rfl rfl rfl ?_
    exact g_iret gq93 rfl rfl h
set_option maxRecDepth 10000 in
theorem b93_65 {xs : Nat → Int32} {Lx d : Nat} {V : km_V} {Q : Option Value → km_V → Prop} {x2 : Int} 
    (h : (kR x2) ∧ ((3 ≤ x2 →
    kCV xs Lx (d + 5) 57 2 [.ref 13, .ref 209] V (fun W1 =>
    kCV xs Lx (d + 5) 117 1 [.ref 0] W1 (fun W2 =>
    Q (some (kI 0)) W2))) ∧
   (x2 < 3 →
    (0 ≤ x2 ∧ x2 < (3 : Nat)) ∧ kGo xs Lx (d + 6) 93 65 [some (.ref 0), none, some (kI (x2 + 1))] [] (up V 208 (Int.toNat x2) 0) Q))) :
    kGo xs Lx (d + 6) 93 65 [some (.ref 0), none, some (kI x2)] [] V Q := by
  refine g_iload_n 66 gq93 rfl rfl rfl ?_
  refine g_iconst 67 gq93 rfl rfl ?_
  have c2 := h.1
  replace h := h.2
  refine g_icmp_ge 83 70 gq93 rfl rfl rfl c2 (by omega) (fun c => ?_) (fun c => ?_)
  · replace h := h.1 c
    refine g_aload_n 84 gq93 rfl rfl rfl ?_
    refine g_getA 87 13 gq93 rfl rfl rfl rfl rfl rfl rfl ?_
    refine g_aload_n 88 gq93 rfl rfl rfl ?_
    refine g_getA 91 209 gq93 rfl rfl rfl rfl rfl rfl rfl ?_
    refine g_virt 57 _ (i := 106) gq93 rfl rfl gq57 rfl rfl rfl rfl rfl rfl ?_
    refine kGo.mono h (fun r W1 hr => ?_)
    obtain ⟨rfl, h⟩ := hr
    refine g_aload_n 95 gq93 rfl rfl rfl ?_
    refine g_virt 117 _ (i := 110) gq93 rfl rfl gq117 rfl rfl rfl rfl rfl rfl ?_
    refine kGo.mono h (fun r W2 hr => ?_)
    obtain ⟨rfl, h⟩ := hr
    refine g_iconst 99 gq93 rfl rfl ?_
    exact g_iret gq93 rfl rfl h
  · replace h := h.2 c
    refine g_aload_n 71 gq93 rfl rfl rfl ?_
    refine g_getA 74 208 gq93 rfl rfl rfl rfl rfl rfl rfl ?_
    refine g_iload_n 75 gq93 rfl rfl rfl ?_
    refine g_iconst 76 gq93 rfl rfl ?_
    have c24 := h.1
    replace h := h.2
    refine g_zast 77 gq93 rfl rfl rfl c24 (by omega) ?_
    refine g_iinc 80 gq93 rfl rfl rfl rfl ?_
    refine g_goto 65 gq93 rfl rfl ?_
    exact kGo.weak (km_Le.s (km_Le.n (km_Le.s km_Le.nil))) h
set_option maxRecDepth 10000 in
theorem b94_0 {xs : Nat → Int32} {Lx d : Nat} {V : km_V} {Q : Option Value → km_V → Prop} 
    (h : Q (some (kI (V 0 16))) V) :
    kGo xs Lx (d + 0) 94 0 [some (.ref 0)] [] V Q := by
  refine g_aload_n 1 gq94 rfl rfl rfl ?_
  refine g_getI 4 gq94 rfl rfl rfl rfl rfl rfl ?_
  exact g_iret gq94 rfl rfl h
set_option maxRecDepth 10000 in
theorem b95_0 {xs : Nat → Int32} {Lx d : Nat} {V : km_V} {Q : Option Value → km_V → Prop} {a1 : Int} 
    (h : (kR a1) ∧ ((a1 < 0 →
    Q (some (kI (-1))) V) ∧
   (0 ≤ a1 →
    (kR (V 17 7)) ∧ (((V 17 7) ≤ a1 →
      Q (some (kI (-1))) V) ∧
     (a1 < (V 17 7) →
      (0 ≤ a1 ∧ a1 < (32 : Nat)) ∧ (∀ z1 : Int, z1 = (V 27 (Int.toNat a1)) → (kR z1) ∧ ((z1 = 1 →
        kCV xs Lx (d + 3) 38 2 [.ref 45, .ref 13] V (fun W2 =>
        kCI xs Lx (d + 3) 28 4 [.ref 17, kI a1] W2 (fun y3 W3 =>
        kCV xs Lx (d + 3) 71 7 [.ref 13, kI y3] W3 (fun W4 =>
        kCV xs Lx (d + 3) 117 1 [.ref 0] W4 (fun W5 =>
        Q (some (kI (W5 13 1))) W5))))) ∧
       (z1 ≠ 1 →
        ((z1 = 2 →
          kCV xs Lx (d + 3) 38 2 [.ref 45, .ref 13] V (fun W6 =>
          kCI xs Lx (d + 3) 28 4 [.ref 17, kI a1] W6 (fun y7 W7 =>
          kCV xs Lx (d + 3) 71 7 [.ref 13, kI y7] W7 (fun W8 =>
          kCV xs Lx (d + 3) 117 1 [.ref 0] W8 (fun W9 =>
          Q (some (kI (W9 13 1))) W9))))) ∧
         (z1 ≠ 2 →
          Q (some (kI (-1))) V)))))))))) :
    kGo xs Lx (d + 4) 95 0 [some (.ref 0), some (kI a1), none] [] V Q := by
  refine g_aload_n 1 gq95 rfl rfl rfl ?_
  refine g_iload_n 2 gq95 rfl rfl rfl ?_
  refine g_virt 120 _ (i := 113) gq95 rfl rfl gq120 rfl rfl rfl rfl rfl rfl ?_
  refine g_iload_n 1 gq120 rfl rfl rfl ?_
  have c4 := h.1
  replace h := h.2
  refine g_if_lt 27 4 gq120 rfl rfl rfl c4 (fun c => ?_) (fun c => ?_)
  · replace h := h.1 c
    refine g_iconst 28 gq120 rfl rfl ?_
    refine g_iret gq120 rfl rfl ?_
    refine g_istore_n 6 gq95 rfl rfl rfl ?_
    refine g_iload_n 7 gq95 rfl rfl rfl ?_
    refine g_iconst 8 gq95 rfl rfl ?_
    refine g_icmp_eq 18 11 gq95 rfl rfl rfl (by omega) (by omega) (fun c => ?_) (fun c => ?_)
    · exact absurd c (by decide)
    refine g_iload_n 12 gq95 rfl rfl rfl ?_
    refine g_iconst 13 gq95 rfl rfl ?_
    refine g_icmp_eq 18 16 gq95 rfl rfl rfl (by omega) (by omega) (fun c => ?_) (fun c => ?_)
    · exact absurd c (by decide)
    refine g_iconst 17 gq95 rfl rfl ?_
    exact g_iret gq95 rfl rfl h
  · replace h := h.2 c
    refine g_iload_n 5 gq120 rfl rfl rfl ?_
    refine g_aload_n 6 gq120 rfl rfl rfl ?_
    refine g_getA 9 17 gq120 rfl rfl rfl rfl rfl rfl rfl ?_
    refine g_getI 12 gq120 rfl rfl rfl rfl rfl rfl ?_
    have c26 := h.1
    replace h := h.2
    refine g_icmp_ge 27 15 gq120 rfl rfl rfl c4 c26 (fun c => ?_) (fun c => ?_)
    · replace h := h.1 c
      refine g_iconst 28 gq120 rfl rfl ?_
      refine g_iret gq120 rfl rfl ?_
      refine g_istore_n 6 gq95 rfl rfl rfl ?_
      refine g_iload_n 7 gq95 rfl rfl rfl ?_
      refine g_iconst 8 gq95 rfl rfl ?_
      refine g_icmp_eq 18 11 gq95 rfl rfl rfl (by omega) (by omega) (fun c => ?_) (fun c => ?_)
      · exact absurd c (by decide)
      refine g_iload_n 12 gq95 rfl rfl rfl ?_
      refine g_iconst 13 gq95 rfl rfl ?_
      refine g_icmp_eq 18 16 gq95 rfl rfl rfl (by omega) (by omega) (fun c => ?_) (fun c => ?_)
      · exact absurd c (by decide)
      refine g_iconst 17 gq95 rfl rfl ?_
      exact g_iret gq95 rfl rfl h
    · replace h := h.2 c
      refine g_aload_n 16 gq120 rfl rfl rfl ?_
      refine g_getA 19 17 gq120 rfl rfl rfl rfl rfl rfl rfl ?_
      refine g_getA 22 27 gq120 rfl rfl rfl rfl rfl rfl rfl ?_
      refine g_iload_n 23 gq120 rfl rfl rfl ?_
      have c48 := h.1
      replace h := h.2
      refine g_iald 24 gq120 rfl rfl rfl c48 ?_
      refine g_goto 28 gq120 rfl rfl ?_
      refine g_iret gq120 rfl rfl ?_
      refine g_istore_n 6 gq95 rfl rfl rfl ?_
      replace h := h _ rfl
      refine g_iload_n 7 gq95 rfl rfl rfl ?_
      refine g_iconst 8 gq95 rfl rfl ?_
      have c57 := h.1
      replace h := h.2
      refine g_icmp_eq 18 11 gq95 rfl rfl rfl c57 (by omega) (fun c => ?_) (fun c => ?_)
      · replace h := h.1 c
        refine g_aload_n 19 gq95 rfl rfl rfl ?_
        refine g_getA 22 45 gq95 rfl rfl rfl rfl rfl rfl rfl ?_
        refine g_aload_n 23 gq95 rfl rfl rfl ?_
        refine g_getA 26 13 gq95 rfl rfl rfl rfl rfl rfl rfl ?_
        refine g_virt 38 _ (i := 117) gq95 rfl rfl gq38 rfl rfl rfl rfl rfl rfl ?_
        refine kGo.mono h (fun r W2 hr => ?_)
        obtain ⟨rfl, h⟩ := hr
        refine g_aload_n 30 gq95 rfl rfl rfl ?_
        refine g_getA 33 13 gq95 rfl rfl rfl rfl rfl rfl rfl ?_
        refine g_aload_n 34 gq95 rfl rfl rfl ?_
        refine g_getA 37 17 gq95 rfl rfl rfl rfl rfl rfl rfl ?_
        refine g_iload_n 38 gq95 rfl rfl rfl ?_
        refine g_virt 28 _ (i := 120) gq95 rfl rfl gq28 rfl rfl rfl rfl rfl rfl ?_
        refine kGo.mono h (fun r W3 hr => ?_)
        obtain ⟨y3, rfl, h⟩ := hr
        refine g_virt 71 _ (i := 123) gq95 rfl rfl gq71 rfl rfl rfl rfl rfl rfl ?_
        refine kGo.mono h (fun r W4 hr => ?_)
        obtain ⟨rfl, h⟩ := hr
        refine g_aload_n 45 gq95 rfl rfl rfl ?_
        refine g_virt 117 _ (i := 110) gq95 rfl rfl gq117 rfl rfl rfl rfl rfl rfl ?_
        refine kGo.mono h (fun r W5 hr => ?_)
        obtain ⟨rfl, h⟩ := hr
        refine g_aload_n 49 gq95 rfl rfl rfl ?_
        refine g_getA 52 13 gq95 rfl rfl rfl rfl rfl rfl rfl ?_
        refine g_getI 55 gq95 rfl rfl rfl rfl rfl rfl ?_
        exact g_iret gq95 rfl rfl h
      · replace h := h.2 c
        refine g_iload_n 12 gq95 rfl rfl rfl ?_
        refine g_iconst 13 gq95 rfl rfl ?_
        refine g_icmp_eq 18 16 gq95 rfl rfl rfl c57 (by omega) (fun c => ?_) (fun c => ?_)
        · replace h := h.1 c
          refine g_aload_n 19 gq95 rfl rfl rfl ?_
          refine g_getA 22 45 gq95 rfl rfl rfl rfl rfl rfl rfl ?_
          refine g_aload_n 23 gq95 rfl rfl rfl ?_
          refine g_getA 26 13 gq95 rfl rfl rfl rfl rfl rfl rfl ?_
          refine g_virt 38 _ (i := 117) gq95 rfl rfl gq38 rfl rfl rfl rfl rfl rfl ?_
          refine kGo.mono h (fun r W6 hr => ?_)
          obtain ⟨rfl, h⟩ := hr
          refine g_aload_n 30 gq95 rfl rfl rfl ?_
          refine g_getA 33 13 gq95 rfl rfl rfl rfl rfl rfl rfl ?_
          refine g_aload_n 34 gq95 rfl rfl rfl ?_
          refine g_getA 37 17 gq95 rfl rfl rfl rfl rfl rfl rfl ?_
          refine g_iload_n 38 gq95 rfl rfl rfl ?_
          refine g_virt 28 _ (i := 120) gq95 rfl rfl gq28 rfl rfl rfl rfl rfl rfl ?_
          refine kGo.mono h (fun r W7 hr => ?_)
          obtain ⟨y7, rfl, h⟩ := hr
          refine g_virt 71 _ (i := 123) gq95 rfl rfl gq71 rfl rfl rfl rfl rfl rfl ?_
          refine kGo.mono h (fun r W8 hr => ?_)
          obtain ⟨rfl, h⟩ := hr
          refine g_aload_n 45 gq95 rfl rfl rfl ?_
          refine g_virt 117 _ (i := 110) gq95 rfl rfl gq117 rfl rfl rfl rfl rfl rfl ?_
          refine kGo.mono h (fun r W9 hr => ?_)
          obtain ⟨rfl, h⟩ := hr
          refine g_aload_n 49 gq95 rfl rfl rfl ?_
          refine g_getA 52 13 gq95 rfl rfl rfl rfl rfl rfl rfl ?_
          refine g_getI 55 gq95 rfl rfl rfl rfl rfl rfl ?_
          exact g_iret gq95 rfl rfl h
        · replace h := h.2 c
          refine g_iconst 17 gq95 rfl rfl ?_
          exact g_iret gq95 rfl rfl h
set_option maxRecDepth 10000 in
theorem b96_0 {xs : Nat → Int32} {Lx d : Nat} {V : km_V} {Q : Option Value → km_V → Prop} {a1 : Int} 
    (h : (kR a1) ∧ ((a1 < 0 →
    Q (some (kI 0)) V) ∧
   (0 ≤ a1 →
    (kR (V 17 7)) ∧ (((V 17 7) ≤ a1 →
      Q (some (kI 0)) V) ∧
     (a1 < (V 17 7) →
      (0 ≤ a1 ∧ a1 < (32 : Nat)) ∧ (kR (V 27 (Int.toNat a1))) ∧ (((V 27 (Int.toNat a1)) = 3 →
        kCV xs Lx (d + 3) 38 2 [.ref 45, .ref 13] V (fun W1 =>
        kCV xs Lx (d + 3) 68 5 [.ref 13, .ref 17, kI a1] W1 (fun W2 =>
        kCV xs Lx (d + 3) 117 1 [.ref 0] W2 (fun W3 =>
        Q (some (kI 1)) W3)))) ∧
       ((V 27 (Int.toNat a1)) ≠ 3 →
        Q (some (kI 0)) V))))))) :
    kGo xs Lx (d + 4) 96 0 [some (.ref 0), some (kI a1)] [] V Q := by
  refine g_aload_n 1 gq96 rfl rfl rfl ?_
  refine g_iload_n 2 gq96 rfl rfl rfl ?_
  refine g_virt 120 _ (i := 113) gq96 rfl rfl gq120 rfl rfl rfl rfl rfl rfl ?_
  refine g_iload_n 1 gq120 rfl rfl rfl ?_
  have c4 := h.1
  replace h := h.2
  refine g_if_lt 27 4 gq120 rfl rfl rfl c4 (fun c => ?_) (fun c => ?_)
  · replace h := h.1 c
    refine g_iconst 28 gq120 rfl rfl ?_
    refine g_iret gq120 rfl rfl ?_
    refine g_iconst 6 gq96 rfl rfl ?_
    refine g_icmp_eq 11 9 gq96 rfl rfl rfl (by omega) (by omega) (fun c => ?_) (fun c => ?_)
    · exact absurd c (by decide)
    refine g_iconst 10 gq96 rfl rfl ?_
    exact g_zret gq96 rfl rfl (by omega) h
  · replace h := h.2 c
    refine g_iload_n 5 gq120 rfl rfl rfl ?_
    refine g_aload_n 6 gq120 rfl rfl rfl ?_
    refine g_getA 9 17 gq120 rfl rfl rfl rfl rfl rfl rfl ?_
    refine g_getI 12 gq120 rfl rfl rfl rfl rfl rfl ?_
    have c20 := h.1
    replace h := h.2
    refine g_icmp_ge 27 15 gq120 rfl rfl rfl c4 c20 (fun c => ?_) (fun c => ?_)
    · replace h := h.1 c
      refine g_iconst 28 gq120 rfl rfl ?_
      refine g_iret gq120 rfl rfl ?_
      refine g_iconst 6 gq96 rfl rfl ?_
      refine g_icmp_eq 11 9 gq96 rfl rfl rfl (by omega) (by omega) (fun c => ?_) (fun c => ?_)
      · exact absurd c (by decide)
      refine g_iconst 10 gq96 rfl rfl ?_
      exact g_zret gq96 rfl rfl (by omega) h
    · replace h := h.2 c
      refine g_aload_n 16 gq120 rfl rfl rfl ?_
      refine g_getA 19 17 gq120 rfl rfl rfl rfl rfl rfl rfl ?_
      refine g_getA 22 27 gq120 rfl rfl rfl rfl rfl rfl rfl ?_
      refine g_iload_n 23 gq120 rfl rfl rfl ?_
      have c36 := h.1
      replace h := h.2
      refine g_iald 24 gq120 rfl rfl rfl c36 ?_
      refine g_goto 28 gq120 rfl rfl ?_
      refine g_iret gq120 rfl rfl ?_
      refine g_iconst 6 gq96 rfl rfl ?_
      have c42 := h.1
      replace h := h.2
      refine g_icmp_eq 11 9 gq96 rfl rfl rfl c42 (by omega) (fun c => ?_) (fun c => ?_)
      · replace h := h.1 c
        refine g_aload_n 12 gq96 rfl rfl rfl ?_
        refine g_getA 15 45 gq96 rfl rfl rfl rfl rfl rfl rfl ?_
        refine g_aload_n 16 gq96 rfl rfl rfl ?_
        refine g_getA 19 13 gq96 rfl rfl rfl rfl rfl rfl rfl ?_
        refine g_virt 38 _ (i := 117) gq96 rfl rfl gq38 rfl rfl rfl rfl rfl rfl ?_
        refine kGo.mono h (fun r W1 hr => ?_)
        obtain ⟨rfl, h⟩ := hr
        refine g_aload_n 23 gq96 rfl rfl rfl ?_
        refine g_getA 26 13 gq96 rfl rfl rfl rfl rfl rfl rfl ?_
        refine g_aload_n 27 gq96 rfl rfl rfl ?_
        refine g_getA 30 17 gq96 rfl rfl rfl rfl rfl rfl rfl ?_
        refine g_iload_n 31 gq96 rfl rfl rfl ?_
        refine g_virt 68 _ (i := 129) gq96 rfl rfl gq68 rfl rfl rfl rfl rfl rfl ?_
        refine kGo.mono h (fun r W2 hr => ?_)
        obtain ⟨rfl, h⟩ := hr
        refine g_aload_n 35 gq96 rfl rfl rfl ?_
        refine g_virt 117 _ (i := 110) gq96 rfl rfl gq117 rfl rfl rfl rfl rfl rfl ?_
        refine kGo.mono h (fun r W3 hr => ?_)
        obtain ⟨rfl, h⟩ := hr
        refine g_iconst 39 gq96 rfl rfl ?_
        exact g_zret gq96 rfl rfl (by omega) h
      · replace h := h.2 c
        refine g_iconst 10 gq96 rfl rfl ?_
        exact g_zret gq96 rfl rfl (by omega) h
set_option maxRecDepth 10000 in
theorem b97_0 {xs : Nat → Int32} {Lx d : Nat} {V : km_V} {Q : Option Value → km_V → Prop} {a1 a2 a3 : Int} 
    (h : (kR (V 13 1)) ∧ ((8 ≤ (V 13 1) →
    Q (some (kI 0)) V) ∧
   ((V 13 1) < 8 →
    (kR a1) ∧ ((a1 < 0 →
      Q (some (kI 0)) V) ∧
     (0 ≤ a1 →
      (kR a1) ∧ (kR (2 * (V 13 1))) ∧ ((a1 < (2 * (V 13 1)) →
        kCV xs Lx (d + 3) 38 2 [.ref 45, .ref 13] V (fun W1 =>
        kCV xs Lx (d + 3) 70 5 [.ref 13, kI a1, kI a2, kI a3] W1 (fun W2 =>
        kCV xs Lx (d + 3) 117 1 [.ref 0] W2 (fun W3 =>
        Q (some (kI 1)) W3)))) ∧
       ((2 * (V 13 1)) ≤ a1 →
        Q (some (kI 0)) V))))))) :
    kGo xs Lx (d + 4) 97 0 [some (.ref 0), some (kI a1), some (kI a2), some (kI a3)] [] V Q := by
  refine g_aload_n 1 gq97 rfl rfl rfl ?_
  refine g_getA 4 13 gq97 rfl rfl rfl rfl rfl rfl rfl ?_
  refine g_getI 7 gq97 rfl rfl rfl rfl rfl rfl ?_
  refine g_bipush 9 gq97 rfl rfl rfl ?_
  have c4 := h.1
  replace h := h.2
  refine g_icmp_ge 27 12 gq97 rfl rfl rfl c4 (by omega) (fun c => ?_) (fun c => ?_)
  · replace h := h.1 c
    refine g_iconst 28 gq97 rfl rfl ?_
    exact g_zret gq97 rfl rfl (by omega) h
  · replace h := h.2 c
    refine g_iload_n 13 gq97 rfl rfl rfl ?_
    have c12 := h.1
    replace h := h.2
    refine g_if_lt 27 16 gq97 rfl rfl rfl c12 (fun c => ?_) (fun c => ?_)
    · replace h := h.1 c
      refine g_iconst 28 gq97 rfl rfl ?_
      exact g_zret gq97 rfl rfl (by omega) h
    · replace h := h.2 c
      refine g_iload_n 17 gq97 rfl rfl rfl ?_
      refine g_aload_n 18 gq97 rfl rfl rfl ?_
      refine g_getA 21 13 gq97 rfl rfl rfl rfl rfl rfl rfl ?_
      refine g_virt 59 _ (i := 133) gq97 rfl rfl gq59 rfl rfl rfl rfl rfl rfl ?_
      refine g_iconst 1 gq59 rfl rfl ?_
      refine g_aload_n 2 gq59 rfl rfl rfl ?_
      refine g_getI 5 gq59 rfl rfl rfl rfl rfl rfl ?_
      refine g_imul 6 gq59 rfl rfl ?_
      refine g_iret gq59 rfl rfl ?_
      have c28 := h.1
      replace h := h.2
      have c30 := h.1
      replace h := h.2
      refine g_icmp_lt 29 27 gq97 rfl rfl rfl c28 c30 (fun c => ?_) (fun c => ?_)
      · replace h := h.1 c
        refine g_aload_n 30 gq97 rfl rfl rfl ?_
        refine g_getA 33 45 gq97 rfl rfl rfl rfl rfl rfl rfl ?_
        refine g_aload_n 34 gq97 rfl rfl rfl ?_
        refine g_getA 37 13 gq97 rfl rfl rfl rfl rfl rfl rfl ?_
        refine g_virt 38 _ (i := 117) gq97 rfl rfl gq38 rfl rfl rfl rfl rfl rfl ?_
        refine kGo.mono h (fun r W1 hr => ?_)
        obtain ⟨rfl, h⟩ := hr
        refine g_aload_n 41 gq97 rfl rfl rfl ?_
        refine g_getA 44 13 gq97 rfl rfl rfl rfl rfl rfl rfl ?_
        refine g_iload_n 45 gq97 rfl rfl rfl ?_
        refine g_iload_n 46 gq97 rfl rfl rfl ?_
        refine g_iload_n 47 gq97 rfl rfl rfl ?_
        refine g_virt 70 _ (i := 137) gq97 rfl rfl gq70 rfl rfl rfl rfl rfl rfl ?_
        refine kGo.mono h (fun r W2 hr => ?_)
        obtain ⟨rfl, h⟩ := hr
        refine g_aload_n 51 gq97 rfl rfl rfl ?_
        refine g_virt 117 _ (i := 110) gq97 rfl rfl gq117 rfl rfl rfl rfl rfl rfl ?_
        refine kGo.mono h (fun r W3 hr => ?_)
        obtain ⟨rfl, h⟩ := hr
        refine g_iconst 55 gq97 rfl rfl ?_
        exact g_zret gq97 rfl rfl (by omega) h
      · replace h := h.2 c
        refine g_iconst 28 gq97 rfl rfl ?_
        exact g_zret gq97 rfl rfl (by omega) h
set_option maxRecDepth 10000 in
theorem b98_0 {xs : Nat → Int32} {Lx d : Nat} {V : km_V} {Q : Option Value → km_V → Prop} 
    (h : kCV xs Lx (d + 3) 57 2 [.ref 209, .ref 13] V (fun W1 =>
  kCI xs Lx (d + 3) 73 5 [.ref 209, .ref 213] W1 (fun y2 W2 =>
  (kR y2) ∧ ((y2 ≤ 0 →
    Q (some (kI y2)) W2) ∧
   (0 < y2 →
    kCV xs Lx (d + 3) 38 2 [.ref 45, .ref 13] W2 (fun W3 =>
    kCV xs Lx (d + 3) 57 2 [.ref 13, .ref 209] W3 (fun W4 =>
    kCV xs Lx (d + 3) 117 1 [.ref 0] W4 (fun W5 =>
    Q (some (kI y2)) W5)))))))) :
    kGo xs Lx (d + 4) 98 0 [some (.ref 0), none] [] V Q := by
  refine g_aload_n 1 gq98 rfl rfl rfl ?_
  refine g_getA 4 209 gq98 rfl rfl rfl rfl rfl rfl rfl ?_
  refine g_aload_n 5 gq98 rfl rfl rfl ?_
  refine g_getA 8 13 gq98 rfl rfl rfl rfl rfl rfl rfl ?_
  refine g_virt 57 _ (i := 106) gq98 rfl rfl gq57 rfl rfl rfl rfl rfl rfl ?_
  refine kGo.mono h (fun r W1 hr => ?_)
  obtain ⟨rfl, h⟩ := hr
  refine g_aload_n 12 gq98 rfl rfl rfl ?_
  refine g_getA 15 209 gq98 rfl rfl rfl rfl rfl rfl rfl ?_
  refine g_aload_n 16 gq98 rfl rfl rfl ?_
  refine g_getA 19 213 gq98 rfl rfl rfl rfl rfl rfl rfl ?_
  refine g_virt 73 _ (i := 141) gq98 rfl rfl gq73 rfl rfl rfl rfl rfl rfl ?_
  refine kGo.mono h (fun r W2 hr => ?_)
  obtain ⟨y2, rfl, h⟩ := hr
  refine g_istore_n 23 gq98 rfl rfl rfl ?_
  refine g_iload_n 24 gq98 rfl rfl rfl ?_
  have c16 := h.1
  replace h := h.2
  refine g_if_le 53 27 gq98 rfl rfl rfl c16 (fun c => ?_) (fun c => ?_)
  · replace h := h.1 c
    refine g_iload_n 54 gq98 rfl rfl rfl ?_
    exact g_iret gq98 rfl rfl h
  · replace h := h.2 c
    refine g_aload_n 28 gq98 rfl rfl rfl ?_
    refine g_getA 31 45 gq98 rfl rfl rfl rfl rfl rfl rfl ?_
    refine g_aload_n 32 gq98 rfl rfl rfl ?_
    refine g_getA 35 13 gq98 rfl rfl rfl rfl rfl rfl rfl ?_
    refine g_virt 38 _ (i := 117) gq98 rfl rfl gq38 rfl rfl rfl rfl rfl rfl ?_
    refine kGo.mono h (fun r W3 hr => ?_)
    obtain ⟨rfl, h⟩ := hr
    refine g_aload_n 39 gq98 rfl rfl rfl ?_
    refine g_getA 42 13 gq98 rfl rfl rfl rfl rfl rfl rfl ?_
    refine g_aload_n 43 gq98 rfl rfl rfl ?_
    refine g_getA 46 209 gq98 rfl rfl rfl rfl rfl rfl rfl ?_
    refine g_virt 57 _ (i := 106) gq98 rfl rfl gq57 rfl rfl rfl rfl rfl rfl ?_
    refine kGo.mono h (fun r W4 hr => ?_)
    obtain ⟨rfl, h⟩ := hr
    refine g_aload_n 50 gq98 rfl rfl rfl ?_
    refine g_virt 117 _ (i := 110) gq98 rfl rfl gq117 rfl rfl rfl rfl rfl rfl ?_
    refine kGo.mono h (fun r W5 hr => ?_)
    obtain ⟨rfl, h⟩ := hr
    refine g_iload_n 54 gq98 rfl rfl rfl ?_
    exact g_iret gq98 rfl rfl h
set_option maxRecDepth 10000 in
theorem b99_0 {xs : Nat → Int32} {Lx d : Nat} {V : km_V} {Q : Option Value → km_V → Prop} 
    (h : (kR (V 13 0)) ∧ (((V 13 0) ≠ 0 →
    kCV xs Lx (d + 3) 38 2 [.ref 45, .ref 13] V (fun W1 =>
    (0 ≤ (W1 13 1) ∧ (W1 13 1) < 32) ∧ kCV xs Lx (d + 3) 66 3 [.ref 13, kI ((1 * ((2 ^ Int.toNat (W1 13 1) : Nat) : Int)) - 1)] W1 (fun W2 =>
    kCV xs Lx (d + 3) 117 1 [.ref 0] W2 (fun W3 =>
    Q (some (kI 1)) W3)))) ∧
   ((V 13 0) = 0 →
    Q (some (kI 0)) V))) :
    kGo xs Lx (d + 4) 99 0 [some (.ref 0)] [] V Q := by
  refine g_aload_n 1 gq99 rfl rfl rfl ?_
  refine g_getA 4 13 gq99 rfl rfl rfl rfl rfl rfl rfl ?_
  refine g_getI 7 gq99 rfl rfl rfl rfl rfl rfl ?_
  have c3 := h.1
  replace h := h.2
  refine g_if_ne 12 10 gq99 rfl rfl rfl c3 (fun c => ?_) (fun c => ?_)
  · replace h := h.1 c
    refine g_aload_n 13 gq99 rfl rfl rfl ?_
    refine g_getA 16 45 gq99 rfl rfl rfl rfl rfl rfl rfl ?_
    refine g_aload_n 17 gq99 rfl rfl rfl ?_
    refine g_getA 20 13 gq99 rfl rfl rfl rfl rfl rfl rfl ?_
    refine g_virt 38 _ (i := 117) gq99 rfl rfl gq38 rfl rfl rfl rfl rfl rfl ?_
    refine kGo.mono h (fun r W1 hr => ?_)
    obtain ⟨rfl, h⟩ := hr
    refine g_aload_n 24 gq99 rfl rfl rfl ?_
    refine g_getA 27 13 gq99 rfl rfl rfl rfl rfl rfl rfl ?_
    refine g_aload_n 28 gq99 rfl rfl rfl ?_
    refine g_getA 31 13 gq99 rfl rfl rfl rfl rfl rfl rfl ?_
    refine g_virt 60 _ (i := 148) gq99 rfl rfl gq60 rfl rfl rfl rfl rfl rfl ?_
    refine g_iconst 1 gq60 rfl rfl ?_
    refine g_aload_n 2 gq60 rfl rfl rfl ?_
    refine g_getI 5 gq60 rfl rfl rfl rfl rfl rfl ?_
    have c22 := h.1
    replace h := h.2
    refine g_ishl 6 gq60 rfl rfl c22 ?_
    refine g_iconst 7 gq60 rfl rfl ?_
    refine g_isub 8 gq60 rfl rfl ?_
    refine g_iret gq60 rfl rfl ?_
    refine g_virt 66 _ (i := 151) gq99 rfl rfl gq66 rfl rfl rfl rfl rfl rfl ?_
    refine kGo.mono h (fun r W2 hr => ?_)
    obtain ⟨rfl, h⟩ := hr
    refine g_aload_n 38 gq99 rfl rfl rfl ?_
    refine g_virt 117 _ (i := 110) gq99 rfl rfl gq117 rfl rfl rfl rfl rfl rfl ?_
    refine kGo.mono h (fun r W3 hr => ?_)
    obtain ⟨rfl, h⟩ := hr
    refine g_iconst 42 gq99 rfl rfl ?_
    exact g_zret gq99 rfl rfl (by omega) h
  · replace h := h.2 c
    refine g_iconst 11 gq99 rfl rfl ?_
    exact g_zret gq99 rfl rfl (by omega) h
set_option maxRecDepth 10000 in
theorem b100_0 {xs : Nat → Int32} {Lx d : Nat} {V : km_V} {Q : Option Value → km_V → Prop} {a1 : Int} 
    (h : (kR a1) ∧ ((a1 < 0 →
    Q (some (kI 0)) V) ∧
   (0 ≤ a1 →
    (kR (V 13 0)) ∧ ((a1 < (V 13 0) →
      kCV xs Lx (d + 3) 38 2 [.ref 45, .ref 13] V (fun W1 =>
      kCV xs Lx (d + 3) 67 6 [.ref 13, kI a1, .ref 17] W1 (fun W2 =>
      kCV xs Lx (d + 3) 117 1 [.ref 0] W2 (fun W3 =>
      Q (some (kI 1)) W3)))) ∧
     ((V 13 0) ≤ a1 →
      Q (some (kI 0)) V))))) :
    kGo xs Lx (d + 4) 100 0 [some (.ref 0), some (kI a1)] [] V Q := by
  refine g_iload_n 1 gq100 rfl rfl rfl ?_
  have c1 := h.1
  replace h := h.2
  refine g_if_lt 15 4 gq100 rfl rfl rfl c1 (fun c => ?_) (fun c => ?_)
  · replace h := h.1 c
    refine g_iconst 16 gq100 rfl rfl ?_
    exact g_zret gq100 rfl rfl (by omega) h
  · replace h := h.2 c
    refine g_iload_n 5 gq100 rfl rfl rfl ?_
    refine g_aload_n 6 gq100 rfl rfl rfl ?_
    refine g_getA 9 13 gq100 rfl rfl rfl rfl rfl rfl rfl ?_
    refine g_getI 12 gq100 rfl rfl rfl rfl rfl rfl ?_
    have c12 := h.1
    replace h := h.2
    refine g_icmp_lt 17 15 gq100 rfl rfl rfl c1 c12 (fun c => ?_) (fun c => ?_)
    · replace h := h.1 c
      refine g_aload_n 18 gq100 rfl rfl rfl ?_
      refine g_getA 21 45 gq100 rfl rfl rfl rfl rfl rfl rfl ?_
      refine g_aload_n 22 gq100 rfl rfl rfl ?_
      refine g_getA 25 13 gq100 rfl rfl rfl rfl rfl rfl rfl ?_
      refine g_virt 38 _ (i := 117) gq100 rfl rfl gq38 rfl rfl rfl rfl rfl rfl ?_
      refine kGo.mono h (fun r W1 hr => ?_)
      obtain ⟨rfl, h⟩ := hr
      refine g_aload_n 29 gq100 rfl rfl rfl ?_
      refine g_getA 32 13 gq100 rfl rfl rfl rfl rfl rfl rfl ?_
      refine g_iload_n 33 gq100 rfl rfl rfl ?_
      refine g_aload_n 34 gq100 rfl rfl rfl ?_
      refine g_getA 37 17 gq100 rfl rfl rfl rfl rfl rfl rfl ?_
      refine g_virt 67 _ (i := 154) gq100 rfl rfl gq67 rfl rfl rfl rfl rfl rfl ?_
      refine kGo.mono h (fun r W2 hr => ?_)
      obtain ⟨rfl, h⟩ := hr
      refine g_aload_n 41 gq100 rfl rfl rfl ?_
      refine g_virt 117 _ (i := 110) gq100 rfl rfl gq117 rfl rfl rfl rfl rfl rfl ?_
      refine kGo.mono h (fun r W3 hr => ?_)
      obtain ⟨rfl, h⟩ := hr
      refine g_iconst 45 gq100 rfl rfl ?_
      exact g_zret gq100 rfl rfl (by omega) h
    · replace h := h.2 c
      refine g_iconst 16 gq100 rfl rfl ?_
      exact g_zret gq100 rfl rfl (by omega) h
set_option maxRecDepth 10000 in
theorem b101_0 {xs : Nat → Int32} {Lx d : Nat} {V : km_V} {Q : Option Value → km_V → Prop} {a1 : Int} 
    (h : (kR a1) ∧ ((a1 < 0 →
    Q (some (kI 0)) V) ∧
   (0 ≤ a1 →
    (kR (V 13 1)) ∧ ((a1 < (V 13 1) →
      kCV xs Lx (d + 3) 38 2 [.ref 45, .ref 13] V (fun W1 =>
      (0 ≤ a1 ∧ a1 < 32) ∧ kCV xs Lx (d + 3) 66 3 [.ref 13, kI (1 * ((2 ^ Int.toNat a1 : Nat) : Int))] W1 (fun W2 =>
      kCV xs Lx (d + 3) 117 1 [.ref 0] W2 (fun W3 =>
      Q (some (kI 1)) W3)))) ∧
     ((V 13 1) ≤ a1 →
      Q (some (kI 0)) V))))) :
    kGo xs Lx (d + 4) 101 0 [some (.ref 0), some (kI a1)] [] V Q := by
  refine g_iload_n 1 gq101 rfl rfl rfl ?_
  have c1 := h.1
  replace h := h.2
  refine g_if_lt 15 4 gq101 rfl rfl rfl c1 (fun c => ?_) (fun c => ?_)
  · replace h := h.1 c
    refine g_iconst 16 gq101 rfl rfl ?_
    exact g_zret gq101 rfl rfl (by omega) h
  · replace h := h.2 c
    refine g_iload_n 5 gq101 rfl rfl rfl ?_
    refine g_aload_n 6 gq101 rfl rfl rfl ?_
    refine g_getA 9 13 gq101 rfl rfl rfl rfl rfl rfl rfl ?_
    refine g_getI 12 gq101 rfl rfl rfl rfl rfl rfl ?_
    have c12 := h.1
    replace h := h.2
    refine g_icmp_lt 17 15 gq101 rfl rfl rfl c1 c12 (fun c => ?_) (fun c => ?_)
    · replace h := h.1 c
      refine g_aload_n 18 gq101 rfl rfl rfl ?_
      refine g_getA 21 45 gq101 rfl rfl rfl rfl rfl rfl rfl ?_
      refine g_aload_n 22 gq101 rfl rfl rfl ?_
      refine g_getA 25 13 gq101 rfl rfl rfl rfl rfl rfl rfl ?_
      refine g_virt 38 _ (i := 117) gq101 rfl rfl gq38 rfl rfl rfl rfl rfl rfl ?_
      refine kGo.mono h (fun r W1 hr => ?_)
      obtain ⟨rfl, h⟩ := hr
      refine g_aload_n 29 gq101 rfl rfl rfl ?_
      refine g_getA 32 13 gq101 rfl rfl rfl rfl rfl rfl rfl ?_
      refine g_iconst 33 gq101 rfl rfl ?_
      refine g_iload_n 34 gq101 rfl rfl rfl ?_
      have c27 := h.1
      replace h := h.2
      refine g_ishl 35 gq101 rfl rfl c27 ?_
      refine g_virt 66 _ (i := 151) gq101 rfl rfl gq66 rfl rfl rfl rfl rfl rfl ?_
      refine kGo.mono h (fun r W2 hr => ?_)
      obtain ⟨rfl, h⟩ := hr
      refine g_aload_n 39 gq101 rfl rfl rfl ?_
      refine g_virt 117 _ (i := 110) gq101 rfl rfl gq117 rfl rfl rfl rfl rfl rfl ?_
      refine kGo.mono h (fun r W3 hr => ?_)
      obtain ⟨rfl, h⟩ := hr
      refine g_iconst 43 gq101 rfl rfl ?_
      exact g_zret gq101 rfl rfl (by omega) h
    · replace h := h.2 c
      refine g_iconst 16 gq101 rfl rfl ?_
      exact g_zret gq101 rfl rfl (by omega) h
set_option maxRecDepth 10000 in
theorem b102_0 {xs : Nat → Int32} {Lx d : Nat} {V : km_V} {Q : Option Value → km_V → Prop} {a1 : Int} 
    (h : (kR a1) ∧ ((a1 < 0 →
    kGo xs Lx (d + 4) 102 24 [none, none] [] V Q) ∧
   (0 ≤ a1 →
    ((3 ≤ a1 →
      kGo xs Lx (d + 4) 102 24 [none, none] [] V Q) ∧
     (a1 < 3 →
      (0 ≤ a1 ∧ a1 < (3 : Nat)) ∧ (kR (V 208 (Int.toNat a1))) ∧ (((V 208 (Int.toNat a1)) = 0 →
        kGo xs Lx (d + 4) 102 24 [none, none] [] V Q) ∧
       ((V 208 (Int.toNat a1)) ≠ 0 →
        (0 ≤ a1 ∧ a1 < (3 : Nat)) ∧ (kR (V 13 0)) ∧ (((V 13 0) ≤ 0 →
          kGo xs Lx (d + 4) 102 24 [none, none] [] V Q) ∧
         (0 < (V 13 0) →
          (kR (V (287 + 4 * Int.toNat a1) 0)) ∧ (((V (287 + 4 * Int.toNat a1) 0) ≤ 0 →
            kGo xs Lx (d + 4) 102 24 [none, none] [] V Q) ∧
           (0 < (V (287 + 4 * Int.toNat a1) 0) →
            (kR (((V 13 0) + (V (287 + 4 * Int.toNat a1) 0)) - 1)) ∧ ((4 < (((V 13 0) + (V (287 + 4 * Int.toNat a1) 0)) - 1) →
              kGo xs Lx (d + 4) 102 24 [none, none] [] V Q) ∧
             ((((V 13 0) + (V (287 + 4 * Int.toNat a1) 0)) - 1) ≤ 4 →
              (kR ((V 13 1) + (V (287 + 4 * Int.toNat a1) 1))) ∧ ((8 < ((V 13 1) + (V (287 + 4 * Int.toNat a1) 1)) →
                kGo xs Lx (d + 4) 102 24 [none, none] [] V Q) ∧
               (((V 13 1) + (V (287 + 4 * Int.toNat a1) 1)) ≤ 8 →
                kCV xs Lx (d + 3) 38 2 [.ref 45, .ref 13] V (fun W1 =>
                (0 ≤ a1 ∧ a1 < (3 : Nat)) ∧ kCV xs Lx (d + 3) 75 6 [.ref 13, .ref (287 + 4 * Int.toNat a1)] W1 (fun W2 =>
                kCV xs Lx (d + 3) 117 1 [.ref 0] W2 (fun W3 =>
                Q (some (kI 1)) W3)))))))))))))))))) :
    kGo xs Lx (d + 4) 102 0 [some (.ref 0), some (kI a1)] [] V Q := by
  refine g_aload_n 1 gq102 rfl rfl rfl ?_
  refine g_iload_n 2 gq102 rfl rfl rfl ?_
  refine g_virt 118 _ (i := 158) gq102 rfl rfl gq118 rfl rfl rfl rfl rfl rfl ?_
  refine g_iload_n 1 gq118 rfl rfl rfl ?_
  have c4 := h.1
  replace h := h.2
  refine g_if_lt 22 4 gq118 rfl rfl rfl c4 (fun c => ?_) (fun c => ?_)
  · replace h := h.1 c
    refine g_iconst 23 gq118 rfl rfl ?_
    refine g_zret gq118 rfl rfl (by omega) ?_
    refine g_if_eq 24 8 gq102 rfl rfl rfl (by omega) (fun c => ?_) (fun c => ?_)
    rotate_left
    · exact absurd c (by decide)
    exact kGo.weak (km_Le.n (km_Le.n km_Le.nil)) h
  · replace h := h.2 c
    refine g_iload_n 5 gq118 rfl rfl rfl ?_
    refine g_iconst 6 gq118 rfl rfl ?_
    refine g_icmp_ge 22 9 gq118 rfl rfl rfl c4 (by omega) (fun c => ?_) (fun c => ?_)
    · replace h := h.1 c
      refine g_iconst 23 gq118 rfl rfl ?_
      refine g_zret gq118 rfl rfl (by omega) ?_
      refine g_if_eq 24 8 gq102 rfl rfl rfl (by omega) (fun c => ?_) (fun c => ?_)
      rotate_left
      · exact absurd c (by decide)
      exact kGo.weak (km_Le.n (km_Le.n km_Le.nil)) h
    · replace h := h.2 c
      refine g_aload_n 10 gq118 rfl rfl rfl ?_
      refine g_getA 13 208 gq118 rfl rfl rfl rfl rfl rfl rfl ?_
      refine g_iload_n 14 gq118 rfl rfl rfl ?_
      have c29 := h.1
      replace h := h.2
      refine g_zald 15 gq118 rfl rfl rfl c29 ?_
      have c32 := h.1
      replace h := h.2
      refine g_if_eq 22 18 gq118 rfl rfl rfl c32 (fun c => ?_) (fun c => ?_)
      · replace h := h.1 c
        refine g_iconst 23 gq118 rfl rfl ?_
        refine g_zret gq118 rfl rfl (by omega) ?_
        refine g_if_eq 24 8 gq102 rfl rfl rfl (by omega) (fun c => ?_) (fun c => ?_)
        rotate_left
        · exact absurd c (by decide)
        exact kGo.weak (km_Le.n (km_Le.n km_Le.nil)) h
      · replace h := h.2 c
        refine g_iconst 19 gq118 rfl rfl ?_
        refine g_goto 23 gq118 rfl rfl ?_
        refine g_zret gq118 rfl rfl (by omega) ?_
        refine g_if_eq 24 8 gq102 rfl rfl rfl (by omega) (fun c => ?_) (fun c => ?_)
        · exact absurd c (by decide)
        refine g_aload_n 9 gq102 rfl rfl rfl ?_
        refine g_getA 12 13 gq102 rfl rfl rfl rfl rfl rfl rfl ?_
        refine g_aload_n 13 gq102 rfl rfl rfl ?_
        refine g_getA 16 207 gq102 rfl rfl rfl rfl rfl rfl rfl ?_
        refine g_iload_n 17 gq102 rfl rfl rfl ?_
        have c53 := h.1
        replace h := h.2
        refine g_aald 18 (287 + 4 * Int.toNat _) gq102 rfl rfl (by decide) rfl c53 rfl ?_
        refine g_virt 74 _ (i := 162) gq102 rfl rfl gq74 rfl rfl rfl rfl rfl rfl ?_
        refine g_aload_n 1 gq74 rfl rfl rfl ?_
        refine g_getI 4 gq74 rfl rfl rfl rfl rfl rfl ?_
        have c59 := h.1
        replace h := h.2
        refine g_if_le 47 7 gq74 rfl rfl rfl c59 (fun c => ?_) (fun c => ?_)
        · replace h := h.1 c
          refine g_iconst 48 gq74 rfl rfl ?_
          refine g_zret gq74 rfl rfl (by omega) ?_
          refine g_if_ne 26 24 gq102 rfl rfl rfl (by omega) (fun c => ?_) (fun c => ?_)
          · exact absurd c (by decide)
          exact kGo.weak (km_Le.n (km_Le.n km_Le.nil)) h
        · replace h := h.2 c
          refine g_aload_n 8 gq74 rfl rfl rfl ?_
          refine g_getI 11 gq74 rfl rfl rfl (shXS c53) rfl rfl ?_
          have c71 := h.1
          replace h := h.2
          refine g_if_le 47 14 gq74 rfl rfl rfl c71 (fun c => ?_) (fun c => ?_)
          · replace h := h.1 c
            refine g_iconst 48 gq74 rfl rfl ?_
            refine g_zret gq74 rfl rfl (by omega) ?_
            refine g_if_ne 26 24 gq102 rfl rfl rfl (by omega) (fun c => ?_) (fun c => ?_)
            · exact absurd c (by decide)
            exact kGo.weak (km_Le.n (km_Le.n km_Le.nil)) h
          · replace h := h.2 c
            refine g_aload_n 15 gq74 rfl rfl rfl ?_
            refine g_getI 18 gq74 rfl rfl rfl rfl rfl rfl ?_
            refine g_aload_n 19 gq74 rfl rfl rfl ?_
            refine g_getI 22 gq74 rfl rfl rfl (shXS c53) rfl rfl ?_
            refine g_iadd 23 gq74 rfl rfl ?_
            refine g_iconst 24 gq74 rfl rfl ?_
            refine g_isub 25 gq74 rfl rfl ?_
            refine g_iconst 26 gq74 rfl rfl ?_
            have c89 := h.1
            replace h := h.2
            refine g_icmp_gt 47 29 gq74 rfl rfl rfl c89 (by omega) (fun c => ?_) (fun c => ?_)
            · replace h := h.1 c
              refine g_iconst 48 gq74 rfl rfl ?_
              refine g_zret gq74 rfl rfl (by omega) ?_
              refine g_if_ne 26 24 gq102 rfl rfl rfl (by omega) (fun c => ?_) (fun c => ?_)
              · exact absurd c (by decide)
              exact kGo.weak (km_Le.n (km_Le.n km_Le.nil)) h
            · replace h := h.2 c
              refine g_aload_n 30 gq74 rfl rfl rfl ?_
              refine g_getI 33 gq74 rfl rfl rfl rfl rfl rfl ?_
              refine g_aload_n 34 gq74 rfl rfl rfl ?_
              refine g_getI 37 gq74 rfl rfl rfl (shXS c53) rfl rfl ?_
              refine g_iadd 38 gq74 rfl rfl ?_
              refine g_bipush 40 gq74 rfl rfl rfl ?_
              have c105 := h.1
              replace h := h.2
              refine g_icmp_gt 47 43 gq74 rfl rfl rfl c105 (by omega) (fun c => ?_) (fun c => ?_)
              · replace h := h.1 c
                refine g_iconst 48 gq74 rfl rfl ?_
                refine g_zret gq74 rfl rfl (by omega) ?_
                refine g_if_ne 26 24 gq102 rfl rfl rfl (by omega) (fun c => ?_) (fun c => ?_)
                · exact absurd c (by decide)
                exact kGo.weak (km_Le.n (km_Le.n km_Le.nil)) h
              · replace h := h.2 c
                refine g_iconst 44 gq74 rfl rfl ?_
                refine g_goto 48 gq74 rfl rfl ?_
                refine g_zret gq74 rfl rfl (by omega) ?_
                refine g_if_ne 26 24 gq102 rfl rfl rfl (by omega) (fun c => ?_) (fun c => ?_)
                rotate_left
                · exact absurd c (by decide)
                refine g_aload_n 27 gq102 rfl rfl rfl ?_
                refine g_getA 30 45 gq102 rfl rfl rfl rfl rfl rfl rfl ?_
                refine g_aload_n 31 gq102 rfl rfl rfl ?_
                refine g_getA 34 13 gq102 rfl rfl rfl rfl rfl rfl rfl ?_
                refine g_virt 38 _ (i := 117) gq102 rfl rfl gq38 rfl rfl rfl rfl rfl rfl ?_
                refine kGo.mono h (fun r W1 hr => ?_)
                obtain ⟨rfl, h⟩ := hr
                refine g_aload_n 38 gq102 rfl rfl rfl ?_
                refine g_getA 41 13 gq102 rfl rfl rfl rfl rfl rfl rfl ?_
                refine g_aload_n 42 gq102 rfl rfl rfl ?_
                refine g_getA 45 207 gq102 rfl rfl rfl rfl rfl rfl rfl ?_
                refine g_iload_n 46 gq102 rfl rfl rfl ?_
                have c133 := h.1
                replace h := h.2
                refine g_aald 47 (287 + 4 * Int.toNat _) gq102 rfl rfl (by decide) rfl c133 rfl ?_
                refine g_virt 75 _ (i := 166) gq102 rfl rfl gq75 rfl rfl rfl rfl rfl rfl ?_
                refine kGo.mono h (fun r W2 hr => ?_)
                obtain ⟨rfl, h⟩ := hr
                refine g_aload_n 51 gq102 rfl rfl rfl ?_
                refine g_virt 117 _ (i := 110) gq102 rfl rfl gq117 rfl rfl rfl rfl rfl rfl ?_
                refine kGo.mono h (fun r W3 hr => ?_)
                obtain ⟨rfl, h⟩ := hr
                refine g_iconst 55 gq102 rfl rfl ?_
                exact g_zret gq102 rfl rfl (by omega) h
set_option maxRecDepth 10000 in
theorem b102_24 {xs : Nat → Int32} {Lx d : Nat} {V : km_V} {Q : Option Value → km_V → Prop} 
    (h : Q (some (kI 0)) V) :
    kGo xs Lx (d + 4) 102 24 [none, none] [] V Q := by
  refine g_iconst 25 gq102 rfl rfl ?_
  exact g_zret gq102 rfl rfl (by omega) h
set_option maxRecDepth 10000 in
theorem b103_0 {xs : Nat → Int32} {Lx d : Nat} {V : km_V} {Q : Option Value → km_V → Prop} 
    (h : kCI xs Lx (d + 3) 39 2 [.ref 45, .ref 13] V (fun y1 W1 =>
  (kR y1) ∧ ((y1 ≠ 0 →
    kCV xs Lx (d + 3) 117 1 [.ref 0] W1 (fun W2 =>
    Q (some (kI 1)) W2)) ∧
   (y1 = 0 →
    Q (some (kI 0)) W1)))) :
    kGo xs Lx (d + 4) 103 0 [some (.ref 0)] [] V Q := by
  refine g_aload_n 1 gq103 rfl rfl rfl ?_
  refine g_getA 4 45 gq103 rfl rfl rfl rfl rfl rfl rfl ?_
  refine g_aload_n 5 gq103 rfl rfl rfl ?_
  refine g_getA 8 13 gq103 rfl rfl rfl rfl rfl rfl rfl ?_
  refine g_virt 39 _ (i := 169) gq103 rfl rfl gq39 rfl rfl rfl rfl rfl rfl ?_
  refine kGo.mono h (fun r W1 hr => ?_)
  obtain ⟨y1, rfl, h⟩ := hr
  have c7 := h.1
  replace h := h.2
  refine g_if_ne 16 14 gq103 rfl rfl rfl c7 (fun c => ?_) (fun c => ?_)
  · replace h := h.1 c
    refine g_aload_n 17 gq103 rfl rfl rfl ?_
    refine g_virt 117 _ (i := 110) gq103 rfl rfl gq117 rfl rfl rfl rfl rfl rfl ?_
    refine kGo.mono h (fun r W2 hr => ?_)
    obtain ⟨rfl, h⟩ := hr
    refine g_iconst 21 gq103 rfl rfl ?_
    exact g_zret gq103 rfl rfl (by omega) h
  · replace h := h.2 c
    refine g_iconst 15 gq103 rfl rfl ?_
    exact g_zret gq103 rfl rfl (by omega) h
set_option maxRecDepth 10000 in
theorem b104_0 {xs : Nat → Int32} {Lx d : Nat} {V : km_V} {Q : Option Value → km_V → Prop} {a1 a2 : Int} 
    (h : (kR a1) ∧ ((a1 < 0 →
    Q (some (kI (-1))) V) ∧
   (0 ≤ a1 →
    (kR (V 13 0)) ∧ ((a1 < (V 13 0) →
      (0 ≤ (a1 + 1) ∧ (a1 + 1) < (5 : Nat)) ∧ (0 ≤ a1 ∧ a1 < (5 : Nat)) ∧ (∀ z1 : Int, z1 = ((V 14 (Int.toNat (a1 + 1))) - (V 14 (Int.toNat a1))) → (kR a2) ∧ ((a2 ≠ (-1) →
        ((a2 < 0 →
          Q (some (kI (-1))) V) ∧
         (0 ≤ a2 →
          (kR z1) ∧ ((a2 < z1 →
            (∀ z2 : Int, z2 = ((V 14 (Int.toNat a1)) + a2) → (0 ≤ z2 ∧ z2 < (16 : Nat)) ∧ (kR (V 15 (Int.toNat z2))) ∧ (0 ≤ ((V 15 (Int.toNat z2)) / 2) ∧ ((V 15 (Int.toNat z2)) / 2) < (8 : Nat)) ∧ (kR (V 16 (Int.toNat ((V 15 (Int.toNat z2)) / 2)))) ∧ (((V 16 (Int.toNat ((V 15 (Int.toNat z2)) / 2))) ≤ 0 →
              Q (some (kI ((2 * (V 15 (Int.toNat z2))) + 0))) V) ∧
             (0 < (V 16 (Int.toNat ((V 15 (Int.toNat z2)) / 2))) →
              Q (some (kI ((2 * (V 15 (Int.toNat z2))) + 1))) V)))) ∧
           (z1 ≤ a2 →
            Q (some (kI (-1))) V))))) ∧
       (a2 = (-1) →
        Q (some (kI z1)) V)))) ∧
     ((V 13 0) ≤ a1 →
      Q (some (kI (-1))) V))))) :
    kGo xs Lx (d + 1) 104 0 [some (.ref 0), some (kI a1), some (kI a2), none, none] [] V Q := by
  refine g_iload_n 1 gq104 rfl rfl rfl ?_
  have c1 := h.1
  replace h := h.2
  refine g_if_lt 15 4 gq104 rfl rfl rfl c1 (fun c => ?_) (fun c => ?_)
  · replace h := h.1 c
    refine g_iconst 16 gq104 rfl rfl ?_
    exact g_iret gq104 rfl rfl h
  · replace h := h.2 c
    refine g_iload_n 5 gq104 rfl rfl rfl ?_
    refine g_aload_n 6 gq104 rfl rfl rfl ?_
    refine g_getA 9 13 gq104 rfl rfl rfl rfl rfl rfl rfl ?_
    refine g_getI 12 gq104 rfl rfl rfl rfl rfl rfl ?_
    have c12 := h.1
    replace h := h.2
    refine g_icmp_lt 17 15 gq104 rfl rfl rfl c1 c12 (fun c => ?_) (fun c => ?_)
    · replace h := h.1 c
      refine g_aload_n 18 gq104 rfl rfl rfl ?_
      refine g_getA 21 13 gq104 rfl rfl rfl rfl rfl rfl rfl ?_
      refine g_getA 24 14 gq104 rfl rfl rfl rfl rfl rfl rfl ?_
      refine g_iload_n 25 gq104 rfl rfl rfl ?_
      refine g_iconst 26 gq104 rfl rfl ?_
      refine g_iadd 27 gq104 rfl rfl ?_
      have c22 := h.1
      replace h := h.2
      refine g_iald 28 gq104 rfl rfl rfl c22 ?_
      refine g_aload_n 29 gq104 rfl rfl rfl ?_
      refine g_getA 32 13 gq104 rfl rfl rfl rfl rfl rfl rfl ?_
      refine g_getA 35 14 gq104 rfl rfl rfl rfl rfl rfl rfl ?_
      refine g_iload_n 36 gq104 rfl rfl rfl ?_
      have c29 := h.1
      replace h := h.2
      refine g_iald 37 gq104 rfl rfl rfl c29 ?_
      refine g_isub 38 gq104 rfl rfl ?_
      refine g_istore_n 39 gq104 rfl rfl rfl ?_
      replace h := h _ rfl
      refine g_iload_n 40 gq104 rfl rfl rfl ?_
      refine g_iconst 41 gq104 rfl rfl ?_
      have c37 := h.1
      replace h := h.2
      refine g_icmp_ne 46 44 gq104 rfl rfl rfl c37 (by omega) (fun c => ?_) (fun c => ?_)
      · replace h := h.1 c
        refine g_iload_n 47 gq104 rfl rfl rfl ?_
        refine g_if_lt 55 50 gq104 rfl rfl rfl c37 (fun c => ?_) (fun c => ?_)
        · replace h := h.1 c
          refine g_iconst 56 gq104 rfl rfl ?_
          exact g_iret gq104 rfl rfl h
        · replace h := h.2 c
          refine g_iload_n 51 gq104 rfl rfl rfl ?_
          refine g_iload_n 52 gq104 rfl rfl rfl ?_
          have c49 := h.1
          replace h := h.2
          refine g_icmp_lt 57 55 gq104 rfl rfl rfl c37 c49 (fun c => ?_) (fun c => ?_)
          · replace h := h.1 c
            refine g_aload_n 58 gq104 rfl rfl rfl ?_
            refine g_getA 61 13 gq104 rfl rfl rfl rfl rfl rfl rfl ?_
            refine g_getA 64 14 gq104 rfl rfl rfl rfl rfl rfl rfl ?_
            refine g_iload_n 65 gq104 rfl rfl rfl ?_
            refine g_iald 66 gq104 rfl rfl rfl c29 ?_
            refine g_iload_n 67 gq104 rfl rfl rfl ?_
            refine g_iadd 68 gq104 rfl rfl ?_
            refine g_istore 70 gq104 rfl rfl rfl ?_
            replace h := h _ rfl
            refine g_iconst 71 gq104 rfl rfl ?_
            refine g_aload_n 72 gq104 rfl rfl rfl ?_
            refine g_getA 75 13 gq104 rfl rfl rfl rfl rfl rfl rfl ?_
            refine g_getA 78 15 gq104 rfl rfl rfl rfl rfl rfl rfl ?_
            refine g_iload 80 gq104 rfl rfl rfl ?_
            have c67 := h.1
            replace h := h.2
            refine g_iald 81 gq104 rfl rfl rfl c67 ?_
            refine g_imul 82 gq104 rfl rfl ?_
            refine g_aload_n 83 gq104 rfl rfl rfl ?_
            refine g_getA 86 13 gq104 rfl rfl rfl rfl rfl rfl rfl ?_
            refine g_getA 89 16 gq104 rfl rfl rfl rfl rfl rfl rfl ?_
            refine g_aload_n 90 gq104 rfl rfl rfl ?_
            refine g_getA 93 13 gq104 rfl rfl rfl rfl rfl rfl rfl ?_
            refine g_iload 95 gq104 rfl rfl rfl ?_
            refine g_virt 61 _ (i := 182) gq104 rfl rfl gq61 rfl rfl rfl rfl rfl rfl ?_
            refine g_aload_n 1 gq61 rfl rfl rfl ?_
            refine g_getA 4 15 gq61 rfl rfl rfl rfl rfl rfl rfl ?_
            refine g_iload_n 5 gq61 rfl rfl rfl ?_
            refine g_iald 6 gq61 rfl rfl rfl c67 ?_
            refine g_iconst 7 gq61 rfl rfl ?_
            have c83 := h.1
            replace h := h.2
            refine g_ishr 8 gq61 rfl rfl c83 (by omega) ?_
            refine g_iret gq61 rfl rfl ?_
            have c87 := h.1
            replace h := h.2
            refine g_iald 99 gq104 rfl rfl rfl c87 ?_
            have c90 := h.1
            replace h := h.2
            refine g_if_le 106 102 gq104 rfl rfl rfl c90 (fun c => ?_) (fun c => ?_)
            · replace h := h.1 c
              refine g_iconst 107 gq104 rfl rfl ?_
              refine g_iadd 108 gq104 rfl rfl ?_
              exact g_iret gq104 rfl rfl h
            · replace h := h.2 c
              refine g_iconst 103 gq104 rfl rfl ?_
              refine g_goto 107 gq104 rfl rfl ?_
              refine g_iadd 108 gq104 rfl rfl ?_
              exact g_iret gq104 rfl rfl h
          · replace h := h.2 c
            refine g_iconst 56 gq104 rfl rfl ?_
            exact g_iret gq104 rfl rfl h
      · replace h := h.2 c
        refine g_iload_n 45 gq104 rfl rfl rfl ?_
        exact g_iret gq104 rfl rfl h
    · replace h := h.2 c
      refine g_iconst 16 gq104 rfl rfl ?_
      exact g_iret gq104 rfl rfl h
set_option maxRecDepth 10000 in
theorem b105_0 {xs : Nat → Int32} {Lx d : Nat} {V : km_V} {Q : Option Value → km_V → Prop} {a1 a2 : Int} 
    (h : (kR a1) ∧ ((a1 < 0 →
    Q (some (kI (-100000))) V) ∧
   (0 ≤ a1 →
    (kR (V 13 1)) ∧ ((a1 < (V 13 1) →
      (kR a2) ∧ (((a2 < 0 ∨ 7 < a2) → Q (some (kI (-100000))) V) ∧ (a2 = 0 →
        (0 ≤ a1 ∧ a1 < (8 : Nat)) ∧ Q (some (kI (V 16 (Int.toNat a1)))) V) ∧ (a2 = 1 →
        (0 ≤ ((4 * a1) + (a2 - 1)) ∧ ((4 * a1) + (a2 - 1)) < (32 : Nat)) ∧ (kR (V 23 (Int.toNat ((4 * a1) + (a2 - 1))))) ∧ Q (some (kI ((V 23 (Int.toNat ((4 * a1) + (a2 - 1)))) / 2))) V) ∧ (a2 = 2 →
        (0 ≤ ((4 * a1) + (a2 - 1)) ∧ ((4 * a1) + (a2 - 1)) < (32 : Nat)) ∧ (kR (V 23 (Int.toNat ((4 * a1) + (a2 - 1))))) ∧ Q (some (kI ((V 23 (Int.toNat ((4 * a1) + (a2 - 1)))) / 2))) V) ∧ (a2 = 3 →
        (0 ≤ ((4 * a1) + (a2 - 1)) ∧ ((4 * a1) + (a2 - 1)) < (32 : Nat)) ∧ (kR (V 23 (Int.toNat ((4 * a1) + (a2 - 1))))) ∧ Q (some (kI ((V 23 (Int.toNat ((4 * a1) + (a2 - 1)))) / 2))) V) ∧ (a2 = 4 →
        (0 ≤ ((4 * a1) + (a2 - 1)) ∧ ((4 * a1) + (a2 - 1)) < (32 : Nat)) ∧ (kR (V 23 (Int.toNat ((4 * a1) + (a2 - 1))))) ∧ Q (some (kI ((V 23 (Int.toNat ((4 * a1) + (a2 - 1)))) / 2))) V) ∧ (a2 = 5 →
        (0 ≤ a1 ∧ a1 < (8 : Nat)) ∧ (0 ≤ (V 21 (Int.toNat a1)) ∧ (V 21 (Int.toNat a1)) < (16 : Nat)) ∧ Q (some (kI (V 20 (Int.toNat (V 21 (Int.toNat a1)))))) V) ∧ (a2 = 6 →
        (0 ≤ a1 ∧ a1 < (8 : Nat)) ∧ (0 ≤ (V 22 (Int.toNat a1)) ∧ (V 22 (Int.toNat a1)) < (16 : Nat)) ∧ Q (some (kI (V 20 (Int.toNat (V 22 (Int.toNat a1)))))) V) ∧ (a2 = 7 →
        (0 ≤ a1 ∧ a1 < (8 : Nat)) ∧ (0 ≤ (V 21 (Int.toNat a1)) ∧ (V 21 (Int.toNat a1)) < (16 : Nat)) ∧ Q (some (kI (V 29 (Int.toNat (V 21 (Int.toNat a1)))))) V))) ∧
     ((V 13 1) ≤ a1 →
      Q (some (kI (-100000))) V))))) :
    kGo xs Lx (d + 1) 105 0 [some (.ref 0), some (kI a1), some (kI a2)] [] V Q := by
  refine g_iload_n 1 gq105 rfl rfl rfl ?_
  have c1 := h.1
  replace h := h.2
  refine g_if_lt 15 4 gq105 rfl rfl rfl c1 (fun c => ?_) (fun c => ?_)
  · replace h := h.1 c
    refine g_ldc 17 (-100000) gq105 rfl rfl rfl rfl ?_
    exact g_iret gq105 rfl rfl h
  · replace h := h.2 c
    refine g_iload_n 5 gq105 rfl rfl rfl ?_
    refine g_aload_n 6 gq105 rfl rfl rfl ?_
    refine g_getA 9 13 gq105 rfl rfl rfl rfl rfl rfl rfl ?_
    refine g_getI 12 gq105 rfl rfl rfl rfl rfl rfl ?_
    have c12 := h.1
    replace h := h.2
    refine g_icmp_lt 18 15 gq105 rfl rfl rfl c1 c12 (fun c => ?_) (fun c => ?_)
    · replace h := h.1 c
      refine g_iload_n 19 gq105 rfl rfl rfl ?_
      have c17 := h.1
      replace h := h.2
      by_cases hd : a2 < 0 ∨ 7 < a2
      · replace h := h.1 hd
        refine g_switch 140 gq105 rfl c17 (by rw [if_pos hd]; rfl) ?_
        refine g_ldc 142 (-100000) gq105 rfl rfl rfl rfl ?_
        exact g_iret gq105 rfl rfl h
      replace h := h.2
      have hv : a2 = 0 ∨ a2 = 1 ∨ a2 = 2 ∨ a2 = 3 ∨ a2 = 4 ∨ a2 = 5 ∨ a2 = 6 ∨ a2 = 7 := by omega
      rcases hv with hv | hv | hv | hv | hv | hv | hv | hv
      · replace h := h.1 hv
        refine g_switch 64 gq105 rfl c17 (by rw [hv]; rfl) ?_
        refine g_aload_n 65 gq105 rfl rfl rfl ?_
        refine g_getA 68 13 gq105 rfl rfl rfl rfl rfl rfl rfl ?_
        refine g_getA 71 16 gq105 rfl rfl rfl rfl rfl rfl rfl ?_
        refine g_iload_n 72 gq105 rfl rfl rfl ?_
        have c33 := h.1
        replace h := h.2
        refine g_iald 73 gq105 rfl rfl rfl c33 ?_
        exact g_iret gq105 rfl rfl h
      · replace h := h.2.1 hv
        refine g_switch 74 gq105 rfl c17 (by rw [hv]; rfl) ?_
        refine g_aload_n 75 gq105 rfl rfl rfl ?_
        refine g_getA 78 17 gq105 rfl rfl rfl rfl rfl rfl rfl ?_
        refine g_iload_n 79 gq105 rfl rfl rfl ?_
        refine g_iload_n 80 gq105 rfl rfl rfl ?_
        refine g_iconst 81 gq105 rfl rfl ?_
        refine g_isub 82 gq105 rfl rfl ?_
        refine g_virt 29 _ (i := 186) gq105 rfl rfl gq29 rfl rfl rfl rfl rfl rfl ?_
        refine g_aload_n 1 gq29 rfl rfl rfl ?_
        refine g_getA 4 23 gq29 rfl rfl rfl rfl rfl rfl rfl ?_
        refine g_iconst 5 gq29 rfl rfl ?_
        refine g_iload_n 6 gq29 rfl rfl rfl ?_
        refine g_imul 7 gq29 rfl rfl ?_
        refine g_iload_n 8 gq29 rfl rfl rfl ?_
        refine g_iadd 9 gq29 rfl rfl ?_
        have c53 := h.1
        replace h := h.2
        refine g_iald 10 gq29 rfl rfl rfl c53 ?_
        refine g_iconst 11 gq29 rfl rfl ?_
        have c57 := h.1
        replace h := h.2
        refine g_ishr 12 gq29 rfl rfl c57 (by omega) ?_
        refine g_iret gq29 rfl rfl ?_
        exact g_iret gq105 rfl rfl h
      · replace h := h.2.2.1 hv
        refine g_switch 74 gq105 rfl c17 (by rw [hv]; rfl) ?_
        refine g_aload_n 75 gq105 rfl rfl rfl ?_
        refine g_getA 78 17 gq105 rfl rfl rfl rfl rfl rfl rfl ?_
        refine g_iload_n 79 gq105 rfl rfl rfl ?_
        refine g_iload_n 80 gq105 rfl rfl rfl ?_
        refine g_iconst 81 gq105 rfl rfl ?_
        refine g_isub 82 gq105 rfl rfl ?_
        refine g_virt 29 _ (i := 186) gq105 rfl rfl gq29 rfl rfl rfl rfl rfl rfl ?_
        refine g_aload_n 1 gq29 rfl rfl rfl ?_
        refine g_getA 4 23 gq29 rfl rfl rfl rfl rfl rfl rfl ?_
        refine g_iconst 5 gq29 rfl rfl ?_
        refine g_iload_n 6 gq29 rfl rfl rfl ?_
        refine g_imul 7 gq29 rfl rfl ?_
        refine g_iload_n 8 gq29 rfl rfl rfl ?_
        refine g_iadd 9 gq29 rfl rfl ?_
        have c78 := h.1
        replace h := h.2
        refine g_iald 10 gq29 rfl rfl rfl c78 ?_
        refine g_iconst 11 gq29 rfl rfl ?_
        have c82 := h.1
        replace h := h.2
        refine g_ishr 12 gq29 rfl rfl c82 (by omega) ?_
        refine g_iret gq29 rfl rfl ?_
        exact g_iret gq105 rfl rfl h
      · replace h := h.2.2.2.1 hv
        refine g_switch 74 gq105 rfl c17 (by rw [hv]; rfl) ?_
        refine g_aload_n 75 gq105 rfl rfl rfl ?_
        refine g_getA 78 17 gq105 rfl rfl rfl rfl rfl rfl rfl ?_
        refine g_iload_n 79 gq105 rfl rfl rfl ?_
        refine g_iload_n 80 gq105 rfl rfl rfl ?_
        refine g_iconst 81 gq105 rfl rfl ?_
        refine g_isub 82 gq105 rfl rfl ?_
        refine g_virt 29 _ (i := 186) gq105 rfl rfl gq29 rfl rfl rfl rfl rfl rfl ?_
        refine g_aload_n 1 gq29 rfl rfl rfl ?_
        refine g_getA 4 23 gq29 rfl rfl rfl rfl rfl rfl rfl ?_
        refine g_iconst 5 gq29 rfl rfl ?_
        refine g_iload_n 6 gq29 rfl rfl rfl ?_
        refine g_imul 7 gq29 rfl rfl ?_
        refine g_iload_n 8 gq29 rfl rfl rfl ?_
        refine g_iadd 9 gq29 rfl rfl ?_
        have c103 := h.1
        replace h := h.2
        refine g_iald 10 gq29 rfl rfl rfl c103 ?_
        refine g_iconst 11 gq29 rfl rfl ?_
        have c107 := h.1
        replace h := h.2
        refine g_ishr 12 gq29 rfl rfl c107 (by omega) ?_
        refine g_iret gq29 rfl rfl ?_
        exact g_iret gq105 rfl rfl h
      · replace h := h.2.2.2.2.1 hv
        refine g_switch 74 gq105 rfl c17 (by rw [hv]; rfl) ?_
        refine g_aload_n 75 gq105 rfl rfl rfl ?_
        refine g_getA 78 17 gq105 rfl rfl rfl rfl rfl rfl rfl ?_
        refine g_iload_n 79 gq105 rfl rfl rfl ?_
        refine g_iload_n 80 gq105 rfl rfl rfl ?_
        refine g_iconst 81 gq105 rfl rfl ?_
        refine g_isub 82 gq105 rfl rfl ?_
        refine g_virt 29 _ (i := 186) gq105 rfl rfl gq29 rfl rfl rfl rfl rfl rfl ?_
        refine g_aload_n 1 gq29 rfl rfl rfl ?_
        refine g_getA 4 23 gq29 rfl rfl rfl rfl rfl rfl rfl ?_
        refine g_iconst 5 gq29 rfl rfl ?_
        refine g_iload_n 6 gq29 rfl rfl rfl ?_
        refine g_imul 7 gq29 rfl rfl ?_
        refine g_iload_n 8 gq29 rfl rfl rfl ?_
        refine g_iadd 9 gq29 rfl rfl ?_
        have c128 := h.1
        replace h := h.2
        refine g_iald 10 gq29 rfl rfl rfl c128 ?_
        refine g_iconst 11 gq29 rfl rfl ?_
        have c132 := h.1
        replace h := h.2
        refine g_ishr 12 gq29 rfl rfl c132 (by omega) ?_
        refine g_iret gq29 rfl rfl ?_
        exact g_iret gq105 rfl rfl h
      · replace h := h.2.2.2.2.2.1 hv
        refine g_switch 86 gq105 rfl c17 (by rw [hv]; rfl) ?_
        refine g_aload_n 87 gq105 rfl rfl rfl ?_
        refine g_getA 90 17 gq105 rfl rfl rfl rfl rfl rfl rfl ?_
        refine g_getA 93 20 gq105 rfl rfl rfl rfl rfl rfl rfl ?_
        refine g_aload_n 94 gq105 rfl rfl rfl ?_
        refine g_getA 97 17 gq105 rfl rfl rfl rfl rfl rfl rfl ?_
        refine g_getA 100 21 gq105 rfl rfl rfl rfl rfl rfl rfl ?_
        refine g_iload_n 101 gq105 rfl rfl rfl ?_
        have c146 := h.1
        replace h := h.2
        refine g_iald 102 gq105 rfl rfl rfl c146 ?_
        have c149 := h.1
        replace h := h.2
        refine g_iald 103 gq105 rfl rfl rfl c149 ?_
        exact g_iret gq105 rfl rfl h
      · replace h := h.2.2.2.2.2.2.1 hv
        refine g_switch 104 gq105 rfl c17 (by rw [hv]; rfl) ?_
        refine g_aload_n 105 gq105 rfl rfl rfl ?_
        refine g_getA 108 17 gq105 rfl rfl rfl rfl rfl rfl rfl ?_
        refine g_getA 111 20 gq105 rfl rfl rfl rfl rfl rfl rfl ?_
        refine g_aload_n 112 gq105 rfl rfl rfl ?_
        refine g_getA 115 17 gq105 rfl rfl rfl rfl rfl rfl rfl ?_
        refine g_getA 118 22 gq105 rfl rfl rfl rfl rfl rfl rfl ?_
        refine g_iload_n 119 gq105 rfl rfl rfl ?_
        have c162 := h.1
        replace h := h.2
        refine g_iald 120 gq105 rfl rfl rfl c162 ?_
        have c165 := h.1
        replace h := h.2
        refine g_iald 121 gq105 rfl rfl rfl c165 ?_
        exact g_iret gq105 rfl rfl h
      · replace h := h.2.2.2.2.2.2.2 hv
        refine g_switch 122 gq105 rfl c17 (by rw [hv]; rfl) ?_
        refine g_aload_n 123 gq105 rfl rfl rfl ?_
        refine g_getA 126 28 gq105 rfl rfl rfl rfl rfl rfl rfl ?_
        refine g_getA 129 29 gq105 rfl rfl rfl rfl rfl rfl rfl ?_
        refine g_aload_n 130 gq105 rfl rfl rfl ?_
        refine g_getA 133 17 gq105 rfl rfl rfl rfl rfl rfl rfl ?_
        refine g_getA 136 21 gq105 rfl rfl rfl rfl rfl rfl rfl ?_
        refine g_iload_n 137 gq105 rfl rfl rfl ?_
        have c178 := h.1
        replace h := h.2
        refine g_iald 138 gq105 rfl rfl rfl c178 ?_
        have c181 := h.1
        replace h := h.2
        refine g_iald 139 gq105 rfl rfl rfl c181 ?_
        exact g_iret gq105 rfl rfl h
    · replace h := h.2 c
      refine g_ldc 17 (-100000) gq105 rfl rfl rfl rfl ?_
      exact g_iret gq105 rfl rfl h
set_option maxRecDepth 10000 in
theorem b106_0 {xs : Nat → Int32} {Lx d : Nat} {V : km_V} {Q : Option Value → km_V → Prop} {a1 a2 : Int} 
    (h : (kR a1) ∧ ((a1 ≠ (-1) →
    ((a1 < 0 →
      Q (some (kI (-1))) V) ∧
     (0 ≤ a1 →
      (kR (V 17 7)) ∧ (((V 17 7) ≤ a1 →
        Q (some (kI (-1))) V) ∧
       (a1 < (V 17 7) →
        (kR a2) ∧ ((0 ≤ a2 →
          (0 ≤ (a1 + 1) ∧ (a1 + 1) < (33 : Nat)) ∧ (0 ≤ a1 ∧ a1 < (33 : Nat)) ∧ (∀ z1 : Int, z1 = ((V 26 (Int.toNat (a1 + 1))) - (V 26 (Int.toNat a1))) → (kR a2) ∧ ((a2 ≠ 0 →
            ((a2 ≠ 1 →
              (kR (a2 - 2)) ∧ (kR z1) ∧ ((z1 ≤ (a2 - 2) →
                Q (some (kI (-1))) V) ∧
               ((a2 - 2) < z1 →
                (0 ≤ a1 ∧ a1 < (33 : Nat)) ∧ (0 ≤ (((V 26 (Int.toNat a1)) + a2) - 2) ∧ (((V 26 (Int.toNat a1)) + a2) - 2) < (32 : Nat)) ∧ Q (some (kI (V 25 (Int.toNat (((V 26 (Int.toNat a1)) + a2) - 2))))) V))) ∧
             (a2 = 1 →
              (0 ≤ a1 ∧ a1 < (32 : Nat)) ∧ Q (some (kI (V 27 (Int.toNat a1)))) V))) ∧
           (a2 = 0 →
            Q (some (kI z1)) V)))) ∧
         (a2 < 0 →
          Q (some (kI (-1))) V))))))) ∧
   (a1 = (-1) →
    Q (some (kI (V 17 7))) V))) :
    kGo xs Lx (d + 1) 106 0 [some (.ref 0), some (kI a1), some (kI a2), none] [] V Q := by
  refine g_iload_n 1 gq106 rfl rfl rfl ?_
  refine g_iconst 2 gq106 rfl rfl ?_
  have c2 := h.1
  replace h := h.2
  refine g_icmp_ne 13 5 gq106 rfl rfl rfl c2 (by omega) (fun c => ?_) (fun c => ?_)
  · replace h := h.1 c
    refine g_iload_n 14 gq106 rfl rfl rfl ?_
    refine g_if_lt 32 17 gq106 rfl rfl rfl c2 (fun c => ?_) (fun c => ?_)
    · replace h := h.1 c
      refine g_iconst 33 gq106 rfl rfl ?_
      exact g_iret gq106 rfl rfl h
    · replace h := h.2 c
      refine g_iload_n 18 gq106 rfl rfl rfl ?_
      refine g_aload_n 19 gq106 rfl rfl rfl ?_
      refine g_getA 22 17 gq106 rfl rfl rfl rfl rfl rfl rfl ?_
      refine g_getI 25 gq106 rfl rfl rfl rfl rfl rfl ?_
      have c16 := h.1
      replace h := h.2
      refine g_icmp_ge 32 28 gq106 rfl rfl rfl c2 c16 (fun c => ?_) (fun c => ?_)
      · replace h := h.1 c
        refine g_iconst 33 gq106 rfl rfl ?_
        exact g_iret gq106 rfl rfl h
      · replace h := h.2 c
        refine g_iload_n 29 gq106 rfl rfl rfl ?_
        have c24 := h.1
        replace h := h.2
        refine g_if_ge 34 32 gq106 rfl rfl rfl c24 (fun c => ?_) (fun c => ?_)
        · replace h := h.1 c
          refine g_aload_n 35 gq106 rfl rfl rfl ?_
          refine g_getA 38 17 gq106 rfl rfl rfl rfl rfl rfl rfl ?_
          refine g_iload_n 39 gq106 rfl rfl rfl ?_
          refine g_virt 27 _ (i := 205) gq106 rfl rfl gq27 rfl rfl rfl rfl rfl rfl ?_
          refine g_aload_n 1 gq27 rfl rfl rfl ?_
          refine g_getA 4 26 gq27 rfl rfl rfl rfl rfl rfl rfl ?_
          refine g_iload_n 5 gq27 rfl rfl rfl ?_
          refine g_iconst 6 gq27 rfl rfl ?_
          refine g_iadd 7 gq27 rfl rfl ?_
          have c37 := h.1
          replace h := h.2
          refine g_iald 8 gq27 rfl rfl rfl c37 ?_
          refine g_aload_n 9 gq27 rfl rfl rfl ?_
          refine g_getA 12 26 gq27 rfl rfl rfl rfl rfl rfl rfl ?_
          refine g_iload_n 13 gq27 rfl rfl rfl ?_
          have c43 := h.1
          replace h := h.2
          refine g_iald 14 gq27 rfl rfl rfl c43 ?_
          refine g_isub 15 gq27 rfl rfl ?_
          refine g_iret gq27 rfl rfl ?_
          refine g_istore_n 43 gq106 rfl rfl rfl ?_
          replace h := h _ rfl
          refine g_iload_n 44 gq106 rfl rfl rfl ?_
          have c51 := h.1
          replace h := h.2
          refine g_if_ne 49 47 gq106 rfl rfl rfl c51 (fun c => ?_) (fun c => ?_)
          · replace h := h.1 c
            refine g_iload_n 50 gq106 rfl rfl rfl ?_
            refine g_iconst 51 gq106 rfl rfl ?_
            refine g_icmp_ne 64 54 gq106 rfl rfl rfl c51 (by omega) (fun c => ?_) (fun c => ?_)
            · replace h := h.1 c
              refine g_iload_n 65 gq106 rfl rfl rfl ?_
              refine g_iconst 66 gq106 rfl rfl ?_
              refine g_isub 67 gq106 rfl rfl ?_
              refine g_iload_n 68 gq106 rfl rfl rfl ?_
              have c63 := h.1
              replace h := h.2
              have c65 := h.1
              replace h := h.2
              refine g_icmp_ge 95 71 gq106 rfl rfl rfl c63 c65 (fun c => ?_) (fun c => ?_)
              · replace h := h.1 c
                refine g_iconst 96 gq106 rfl rfl ?_
                exact g_iret gq106 rfl rfl h
              · replace h := h.2 c
                refine g_aload_n 72 gq106 rfl rfl rfl ?_
                refine g_getA 75 17 gq106 rfl rfl rfl rfl rfl rfl rfl ?_
                refine g_getA 78 25 gq106 rfl rfl rfl rfl rfl rfl rfl ?_
                refine g_aload_n 79 gq106 rfl rfl rfl ?_
                refine g_getA 82 17 gq106 rfl rfl rfl rfl rfl rfl rfl ?_
                refine g_getA 85 26 gq106 rfl rfl rfl rfl rfl rfl rfl ?_
                refine g_iload_n 86 gq106 rfl rfl rfl ?_
                have c79 := h.1
                replace h := h.2
                refine g_iald 87 gq106 rfl rfl rfl c79 ?_
                refine g_iload_n 88 gq106 rfl rfl rfl ?_
                refine g_iadd 89 gq106 rfl rfl ?_
                refine g_iconst 90 gq106 rfl rfl ?_
                refine g_isub 91 gq106 rfl rfl ?_
                have c86 := h.1
                replace h := h.2
                refine g_iald 92 gq106 rfl rfl rfl c86 ?_
                refine g_goto 96 gq106 rfl rfl ?_
                exact g_iret gq106 rfl rfl h
            · replace h := h.2 c
              refine g_aload_n 55 gq106 rfl rfl rfl ?_
              refine g_getA 58 17 gq106 rfl rfl rfl rfl rfl rfl rfl ?_
              refine g_getA 61 27 gq106 rfl rfl rfl rfl rfl rfl rfl ?_
              refine g_iload_n 62 gq106 rfl rfl rfl ?_
              have c96 := h.1
              replace h := h.2
              refine g_iald 63 gq106 rfl rfl rfl c96 ?_
              exact g_iret gq106 rfl rfl h
          · replace h := h.2 c
            refine g_iload_n 48 gq106 rfl rfl rfl ?_
            exact g_iret gq106 rfl rfl h
        · replace h := h.2 c
          refine g_iconst 33 gq106 rfl rfl ?_
          exact g_iret gq106 rfl rfl h
  · replace h := h.2 c
    refine g_aload_n 6 gq106 rfl rfl rfl ?_
    refine g_getA 9 17 gq106 rfl rfl rfl rfl rfl rfl rfl ?_
    refine g_getI 12 gq106 rfl rfl rfl rfl rfl rfl ?_
    exact g_iret gq106 rfl rfl h
set_option maxRecDepth 10000 in
theorem b107_0 {xs : Nat → Int32} {Lx d : Nat} {V : km_V} {Q : Option Value → km_V → Prop} {a1 : Int} 
    (h : (kR (V 13 0)) ∧ (((V 13 0) = 0 →
    Q (some (kI (-1))) V) ∧
   ((V 13 0) ≠ 0 →
    (kR a1) ∧ ((a1 < 0 →
      Q (some (kI (-1))) V) ∧
     (0 ≤ a1 →
      (0 ≤ (V 13 1) ∧ (V 13 1) < 32) ∧ (kR a1) ∧ (kR ((1 * ((2 ^ Int.toNat (V 13 1) : Nat) : Int)) - 1)) ∧ ((a1 ≤ ((1 * ((2 ^ Int.toNat (V 13 1) : Nat) : Int)) - 1) →
        kCI xs Lx (d + 1) 35 10 [.ref 17, .ref 13, kI a1] V (fun y1 W1 =>
        Q (some (kI y1)) W1)) ∧
       (((1 * ((2 ^ Int.toNat (V 13 1) : Nat) : Int)) - 1) < a1 →
        Q (some (kI (-1))) V))))))) :
    kGo xs Lx (d + 2) 107 0 [some (.ref 0), some (kI a1)] [] V Q := by
  refine g_aload_n 1 gq107 rfl rfl rfl ?_
  refine g_getA 4 13 gq107 rfl rfl rfl rfl rfl rfl rfl ?_
  refine g_getI 7 gq107 rfl rfl rfl rfl rfl rfl ?_
  have c3 := h.1
  replace h := h.2
  refine g_if_eq 25 10 gq107 rfl rfl rfl c3 (fun c => ?_) (fun c => ?_)
  · replace h := h.1 c
    refine g_iconst 26 gq107 rfl rfl ?_
    exact g_iret gq107 rfl rfl h
  · replace h := h.2 c
    refine g_iload_n 11 gq107 rfl rfl rfl ?_
    have c11 := h.1
    replace h := h.2
    refine g_if_lt 25 14 gq107 rfl rfl rfl c11 (fun c => ?_) (fun c => ?_)
    · replace h := h.1 c
      refine g_iconst 26 gq107 rfl rfl ?_
      exact g_iret gq107 rfl rfl h
    · replace h := h.2 c
      refine g_iload_n 15 gq107 rfl rfl rfl ?_
      refine g_aload_n 16 gq107 rfl rfl rfl ?_
      refine g_getA 19 13 gq107 rfl rfl rfl rfl rfl rfl rfl ?_
      refine g_virt 60 _ (i := 148) gq107 rfl rfl gq60 rfl rfl rfl rfl rfl rfl ?_
      refine g_iconst 1 gq60 rfl rfl ?_
      refine g_aload_n 2 gq60 rfl rfl rfl ?_
      refine g_getI 5 gq60 rfl rfl rfl rfl rfl rfl ?_
      have c25 := h.1
      replace h := h.2
      refine g_ishl 6 gq60 rfl rfl c25 ?_
      refine g_iconst 7 gq60 rfl rfl ?_
      refine g_isub 8 gq60 rfl rfl ?_
      refine g_iret gq60 rfl rfl ?_
      have c31 := h.1
      replace h := h.2
      have c33 := h.1
      replace h := h.2
      refine g_icmp_le 27 25 gq107 rfl rfl rfl c31 c33 (fun c => ?_) (fun c => ?_)
      · replace h := h.1 c
        refine g_aload_n 28 gq107 rfl rfl rfl ?_
        refine g_getA 31 17 gq107 rfl rfl rfl rfl rfl rfl rfl ?_
        refine g_aload_n 32 gq107 rfl rfl rfl ?_
        refine g_getA 35 13 gq107 rfl rfl rfl rfl rfl rfl rfl ?_
        refine g_iload_n 36 gq107 rfl rfl rfl ?_
        refine g_virt 35 _ (i := 217) gq107 rfl rfl gq35 rfl rfl rfl rfl rfl rfl ?_
        refine kGo.mono h (fun r W1 hr => ?_)
        obtain ⟨y1, rfl, h⟩ := hr
        exact g_iret gq107 rfl rfl h
      · replace h := h.2 c
        refine g_iconst 26 gq107 rfl rfl ?_
        exact g_iret gq107 rfl rfl h
set_option maxRecDepth 10000 in
theorem b108_0 {xs : Nat → Int32} {Lx d : Nat} {V : km_V} {Q : Option Value → km_V → Prop} {a1 a2 : Int} 
    (h : (kR (V 0 13)) ∧ (((V 0 13) ≠ 0 →
    (kR a2) ∧ ((a2 = 0 →
      kCI xs Lx (d + 4) 16 2 [.ref 39, kI a1] V (fun y1 W1 =>
      Q (some (kI y1)) W1)) ∧
     (a2 ≠ 0 →
      kCI xs Lx (d + 4) 17 3 [.ref 39, kI a1] V (fun y2 W2 =>
      Q (some (kI y2)) W2)))) ∧
   ((V 0 13) = 0 →
    kCV xs Lx (d + 3) 13 6 [.ref 39, .ref 13, .ref 17] V (fun W3 =>
    (kR a2) ∧ ((a2 = 0 →
      kCI xs Lx (d + 4) 16 2 [.ref 39, kI a1] (up W3 0 13 1) (fun y4 W4 =>
      Q (some (kI y4)) W4)) ∧
     (a2 ≠ 0 →
      kCI xs Lx (d + 4) 17 3 [.ref 39, kI a1] (up W3 0 13 1) (fun y5 W5 =>
      Q (some (kI y5)) W5))))))) :
    kGo xs Lx (d + 5) 108 0 [some (.ref 0), some (kI a1), some (kI a2), none] [] V Q := by
  refine g_aload_n 1 gq108 rfl rfl rfl ?_
  refine g_virt 121 _ (i := 221) gq108 rfl rfl gq121 rfl rfl rfl rfl rfl rfl ?_
  refine g_aload_n 1 gq121 rfl rfl rfl ?_
  refine g_getI 4 gq121 rfl rfl rfl rfl rfl rfl ?_
  have c4 := h.1
  replace h := h.2
  refine g_if_ne 27 7 gq121 rfl rfl rfl c4 (fun c => ?_) (fun c => ?_)
  · replace h := h.1 c
    refine g_aload_n 28 gq121 rfl rfl rfl ?_
    refine g_getA 31 39 gq121 rfl rfl rfl rfl rfl rfl rfl ?_
    refine g_aret gq121 rfl rfl ?_
    refine g_astore_n 5 gq108 rfl rfl rfl ?_
    refine g_iload_n 6 gq108 rfl rfl rfl ?_
    have c13 := h.1
    replace h := h.2
    refine g_if_eq 17 9 gq108 rfl rfl rfl c13 (fun c => ?_) (fun c => ?_)
    · replace h := h.1 c
      refine g_aload_n 18 gq108 rfl rfl rfl ?_
      refine g_iload_n 19 gq108 rfl rfl rfl ?_
      refine g_virt 16 _ (i := 228) gq108 rfl rfl gq16 rfl rfl rfl rfl rfl rfl ?_
      refine kGo.mono h (fun r W1 hr => ?_)
      obtain ⟨y1, rfl, h⟩ := hr
      exact g_iret gq108 rfl rfl h
    · replace h := h.2 c
      refine g_aload_n 10 gq108 rfl rfl rfl ?_
      refine g_iload_n 11 gq108 rfl rfl rfl ?_
      refine g_virt 17 _ (i := 225) gq108 rfl rfl gq17 rfl rfl rfl rfl rfl rfl ?_
      refine kGo.mono h (fun r W2 hr => ?_)
      obtain ⟨y2, rfl, h⟩ := hr
      refine g_goto 22 gq108 rfl rfl ?_
      exact g_iret gq108 rfl rfl h
  · replace h := h.2 c
    refine g_aload_n 8 gq121 rfl rfl rfl ?_
    refine g_getA 11 39 gq121 rfl rfl rfl rfl rfl rfl rfl ?_
    refine g_aload_n 12 gq121 rfl rfl rfl ?_
    refine g_getA 15 13 gq121 rfl rfl rfl rfl rfl rfl rfl ?_
    refine g_aload_n 16 gq121 rfl rfl rfl ?_
    refine g_getA 19 17 gq121 rfl rfl rfl rfl rfl rfl rfl ?_
    refine g_virt 13 _ (i := 262) gq121 rfl rfl gq13 rfl rfl rfl rfl rfl rfl ?_
    refine kGo.mono h (fun r W3 hr => ?_)
    obtain ⟨rfl, h⟩ := hr
    refine g_aload_n 23 gq121 rfl rfl rfl ?_
    refine g_iconst 24 gq121 rfl rfl ?_
    refine g_putZ 27 gq121 rfl rfl rfl rfl rfl rfl rfl rfl (by omega) ?_
    refine g_aload_n 28 gq121 rfl rfl rfl ?_
    refine g_getA 31 39 gq121 rfl rfl rfl rfl rfl rfl rfl ?_
    refine g_aret gq121 rfl rfl ?_
    refine g_astore_n 5 gq108 rfl rfl rfl ?_
    refine g_iload_n 6 gq108 rfl rfl rfl ?_
    have c49 := h.1
    replace h := h.2
    refine g_if_eq 17 9 gq108 rfl rfl rfl c49 (fun c => ?_) (fun c => ?_)
    · replace h := h.1 c
      refine g_aload_n 18 gq108 rfl rfl rfl ?_
      refine g_iload_n 19 gq108 rfl rfl rfl ?_
      refine g_virt 16 _ (i := 228) gq108 rfl rfl gq16 rfl rfl rfl rfl rfl rfl ?_
      refine kGo.mono h (fun r W4 hr => ?_)
      obtain ⟨y4, rfl, h⟩ := hr
      exact g_iret gq108 rfl rfl h
    · replace h := h.2 c
      refine g_aload_n 10 gq108 rfl rfl rfl ?_
      refine g_iload_n 11 gq108 rfl rfl rfl ?_
      refine g_virt 17 _ (i := 225) gq108 rfl rfl gq17 rfl rfl rfl rfl rfl rfl ?_
      refine kGo.mono h (fun r W5 hr => ?_)
      obtain ⟨y5, rfl, h⟩ := hr
      refine g_goto 22 gq108 rfl rfl ?_
      exact g_iret gq108 rfl rfl h
set_option maxRecDepth 10000 in
theorem b109_0 {xs : Nat → Int32} {Lx d : Nat} {V : km_V} {Q : Option Value → km_V → Prop} {a1 a2 : Int} 
    (h : (kR a1) ∧ ((a1 < 0 →
    Q (some (kI (-100000))) V) ∧
   (0 ≤ a1 →
    (kR (V 13 0)) ∧ (((V 13 0) ≤ a1 →
      Q (some (kI (-100000))) V) ∧
     (a1 < (V 13 0) →
      (kR a2) ∧ ((a2 < 0 →
        Q (some (kI (-100000))) V) ∧
       (0 ≤ a2 →
        (((V 13 0) ≤ a2 →
          Q (some (kI (-100000))) V) ∧
         (a2 < (V 13 0) →
          ((a1 ≠ a2 →
            kGo xs Lx (d + 0) 109 43 [some (.ref 0), some (kI a1), some (kI a2), some (kI 0), some (kI 0), none, none] [] V Q) ∧
           (a1 = a2 →
            Q (some (kI (-100000))) V))))))))))) :
    kGo xs Lx (d + 0) 109 0 [some (.ref 0), some (kI a1), some (kI a2), none, none, none, none] [] V Q := by
  refine g_iload_n 1 gq109 rfl rfl rfl ?_
  have c1 := h.1
  replace h := h.2
  refine g_if_lt 35 4 gq109 rfl rfl rfl c1 (fun c => ?_) (fun c => ?_)
  · replace h := h.1 c
    refine g_ldc 37 (-100000) gq109 rfl rfl rfl rfl ?_
    exact g_iret gq109 rfl rfl h
  · replace h := h.2 c
    refine g_iload_n 5 gq109 rfl rfl rfl ?_
    refine g_aload_n 6 gq109 rfl rfl rfl ?_
    refine g_getA 9 13 gq109 rfl rfl rfl rfl rfl rfl rfl ?_
    refine g_getI 12 gq109 rfl rfl rfl rfl rfl rfl ?_
    have c12 := h.1
    replace h := h.2
    refine g_icmp_ge 35 15 gq109 rfl rfl rfl c1 c12 (fun c => ?_) (fun c => ?_)
    · replace h := h.1 c
      refine g_ldc 37 (-100000) gq109 rfl rfl rfl rfl ?_
      exact g_iret gq109 rfl rfl h
    · replace h := h.2 c
      refine g_iload_n 16 gq109 rfl rfl rfl ?_
      have c20 := h.1
      replace h := h.2
      refine g_if_lt 35 19 gq109 rfl rfl rfl c20 (fun c => ?_) (fun c => ?_)
      · replace h := h.1 c
        refine g_ldc 37 (-100000) gq109 rfl rfl rfl rfl ?_
        exact g_iret gq109 rfl rfl h
      · replace h := h.2 c
        refine g_iload_n 20 gq109 rfl rfl rfl ?_
        refine g_aload_n 21 gq109 rfl rfl rfl ?_
        refine g_getA 24 13 gq109 rfl rfl rfl rfl rfl rfl rfl ?_
        refine g_getI 27 gq109 rfl rfl rfl rfl rfl rfl ?_
        refine g_icmp_ge 35 30 gq109 rfl rfl rfl c20 c12 (fun c => ?_) (fun c => ?_)
        · replace h := h.1 c
          refine g_ldc 37 (-100000) gq109 rfl rfl rfl rfl ?_
          exact g_iret gq109 rfl rfl h
        · replace h := h.2 c
          refine g_iload_n 31 gq109 rfl rfl rfl ?_
          refine g_iload_n 32 gq109 rfl rfl rfl ?_
          refine g_icmp_ne 38 35 gq109 rfl rfl rfl c1 c20 (fun c => ?_) (fun c => ?_)
          · replace h := h.1 c
            refine g_iconst 39 gq109 rfl rfl ?_
            refine g_istore_n 40 gq109 rfl rfl rfl ?_
            refine g_iconst 41 gq109 rfl rfl ?_
            refine g_istore 43 gq109 rfl rfl rfl ?_
            exact kGo.weak (km_Le.s (km_Le.s (km_Le.s (km_Le.s (km_Le.s (km_Le.n (km_Le.n km_Le.nil))))))) h
          · replace h := h.2 c
            refine g_ldc 37 (-100000) gq109 rfl rfl rfl rfl ?_
            exact g_iret gq109 rfl rfl h
set_option maxRecDepth 10000 in
theorem b109_43 {xs : Nat → Int32} {Lx d : Nat} {V : km_V} {Q : Option Value → km_V → Prop} {x1 x2 x3 x4 : Int} 
    (h : (kR x4) ∧ (kR (V 13 1)) ∧ (((V 13 1) ≤ x4 →
    (kR x3) ∧ Q (some (kI (Int.tdiv x3 2))) V) ∧
   (x4 < (V 13 1) →
    (0 ≤ x4 ∧ x4 < (8 : Nat)) ∧ (0 ≤ (V 21 (Int.toNat x4)) ∧ (V 21 (Int.toNat x4)) < (16 : Nat)) ∧ (∀ z1 : Int, z1 = (V 20 (Int.toNat (V 21 (Int.toNat x4)))) → (0 ≤ (V 22 (Int.toNat x4)) ∧ (V 22 (Int.toNat x4)) < (16 : Nat)) ∧ (∀ z2 : Int, z2 = (V 20 (Int.toNat (V 22 (Int.toNat x4)))) → (kR z1) ∧ (kR x1) ∧ ((z1 ≠ x1 →
      (kR x2) ∧ ((z1 ≠ x2 →
        kGo xs Lx (d + 0) 109 43 [some (.ref 0), some (kI x1), some (kI x2), some (kI x3), some (kI (x4 + 1)), none, none] [] V Q) ∧
       (z1 = x2 →
        (kR z2) ∧ ((z2 ≠ x1 →
          kGo xs Lx (d + 0) 109 43 [some (.ref 0), some (kI x1), some (kI x2), some (kI x3), some (kI (x4 + 1)), none, none] [] V Q) ∧
         (z2 = x1 →
          (∀ z3 : Int, z3 = (x3 + (V 16 (Int.toNat x4))) → kGo xs Lx (d + 0) 109 43 [some (.ref 0), some (kI x1), some (kI x2), some (kI z3), some (kI (x4 + 1)), none, none] [] V Q)))))) ∧
     (z1 = x1 →
      (kR z2) ∧ (kR x2) ∧ ((z2 = x2 →
        (∀ z4 : Int, z4 = (x3 + (V 16 (Int.toNat x4))) → kGo xs Lx (d + 0) 109 43 [some (.ref 0), some (kI x1), some (kI x2), some (kI z4), some (kI (x4 + 1)), none, none] [] V Q)) ∧
       (z2 ≠ x2 →
        ((z1 ≠ x2 →
          kGo xs Lx (d + 0) 109 43 [some (.ref 0), some (kI x1), some (kI x2), some (kI x3), some (kI (x4 + 1)), none, none] [] V Q) ∧
         (z1 = x2 →
          ((z2 ≠ x1 →
            kGo xs Lx (d + 0) 109 43 [some (.ref 0), some (kI x1), some (kI x2), some (kI x3), some (kI (x4 + 1)), none, none] [] V Q) ∧
           (z2 = x1 →
            (∀ z5 : Int, z5 = (x3 + (V 16 (Int.toNat x4))) → kGo xs Lx (d + 0) 109 43 [some (.ref 0), some (kI x1), some (kI x2), some (kI z5), some (kI (x4 + 1)), none, none] [] V Q)))))))))))))) :
    kGo xs Lx (d + 0) 109 43 [some (.ref 0), some (kI x1), some (kI x2), some (kI x3), some (kI x4), none, none] [] V Q := by
  refine g_iload 45 gq109 rfl rfl rfl ?_
  refine g_aload_n 46 gq109 rfl rfl rfl ?_
  refine g_getA 49 13 gq109 rfl rfl rfl rfl rfl rfl rfl ?_
  refine g_getI 52 gq109 rfl rfl rfl rfl rfl rfl ?_
  have c4 := h.1
  replace h := h.2
  have c6 := h.1
  replace h := h.2
  refine g_icmp_ge 138 55 gq109 rfl rfl rfl c4 c6 (fun c => ?_) (fun c => ?_)
  · replace h := h.1 c
    refine g_iload_n 139 gq109 rfl rfl rfl ?_
    refine g_iconst 140 gq109 rfl rfl ?_
    have c12 := h.1
    replace h := h.2
    refine g_idivT 141 gq109 rfl rfl c12 ⟨by omega, by omega⟩ ?_
    exact g_iret gq109 rfl rfl h
  · replace h := h.2 c
    refine g_aload_n 56 gq109 rfl rfl rfl ?_
    refine g_getA 59 17 gq109 rfl rfl rfl rfl rfl rfl rfl ?_
    refine g_getA 62 20 gq109 rfl rfl rfl rfl rfl rfl rfl ?_
    refine g_aload_n 63 gq109 rfl rfl rfl ?_
    refine g_getA 66 17 gq109 rfl rfl rfl rfl rfl rfl rfl ?_
    refine g_getA 69 21 gq109 rfl rfl rfl rfl rfl rfl rfl ?_
    refine g_iload 71 gq109 rfl rfl rfl ?_
    have c24 := h.1
    replace h := h.2
    refine g_iald 72 gq109 rfl rfl rfl c24 ?_
    have c27 := h.1
    replace h := h.2
    refine g_iald 73 gq109 rfl rfl rfl c27 ?_
    refine g_istore 75 gq109 rfl rfl rfl ?_
    replace h := h _ rfl
    refine g_aload_n 76 gq109 rfl rfl rfl ?_
    refine g_getA 79 17 gq109 rfl rfl rfl rfl rfl rfl rfl ?_
    refine g_getA 82 20 gq109 rfl rfl rfl rfl rfl rfl rfl ?_
    refine g_aload_n 83 gq109 rfl rfl rfl ?_
    refine g_getA 86 17 gq109 rfl rfl rfl rfl rfl rfl rfl ?_
    refine g_getA 89 22 gq109 rfl rfl rfl rfl rfl rfl rfl ?_
    refine g_iload 91 gq109 rfl rfl rfl ?_
    refine g_iald 92 gq109 rfl rfl rfl c24 ?_
    have c40 := h.1
    replace h := h.2
    refine g_iald 93 gq109 rfl rfl rfl c40 ?_
    refine g_istore 95 gq109 rfl rfl rfl ?_
    replace h := h _ rfl
    refine g_iload 97 gq109 rfl rfl rfl ?_
    refine g_iload_n 98 gq109 rfl rfl rfl ?_
    have c47 := h.1
    replace h := h.2
    have c49 := h.1
    replace h := h.2
    refine g_icmp_ne 107 101 gq109 rfl rfl rfl c47 c49 (fun c => ?_) (fun c => ?_)
    · replace h := h.1 c
      refine g_iload 109 gq109 rfl rfl rfl ?_
      refine g_iload_n 110 gq109 rfl rfl rfl ?_
      have c55 := h.1
      replace h := h.2
      refine g_icmp_ne 132 113 gq109 rfl rfl rfl c47 c55 (fun c => ?_) (fun c => ?_)
      · replace h := h.1 c
        refine g_iinc 135 gq109 rfl rfl rfl rfl ?_
        refine g_goto 43 gq109 rfl rfl ?_
        exact kGo.weak (km_Le.s (km_Le.s (km_Le.s (km_Le.s (km_Le.s (km_Le.n (km_Le.n km_Le.nil))))))) h
      · replace h := h.2 c
        refine g_iload 115 gq109 rfl rfl rfl ?_
        refine g_iload_n 116 gq109 rfl rfl rfl ?_
        have c65 := h.1
        replace h := h.2
        refine g_icmp_ne 132 119 gq109 rfl rfl rfl c65 c49 (fun c => ?_) (fun c => ?_)
        · replace h := h.1 c
          refine g_iinc 135 gq109 rfl rfl rfl rfl ?_
          refine g_goto 43 gq109 rfl rfl ?_
          exact kGo.weak (km_Le.s (km_Le.s (km_Le.s (km_Le.s (km_Le.s (km_Le.n (km_Le.n km_Le.nil))))))) h
        · replace h := h.2 c
          refine g_iload_n 120 gq109 rfl rfl rfl ?_
          refine g_aload_n 121 gq109 rfl rfl rfl ?_
          refine g_getA 124 13 gq109 rfl rfl rfl rfl rfl rfl rfl ?_
          refine g_getA 127 16 gq109 rfl rfl rfl rfl rfl rfl rfl ?_
          refine g_iload 129 gq109 rfl rfl rfl ?_
          refine g_iald 130 gq109 rfl rfl rfl c24 ?_
          refine g_iadd 131 gq109 rfl rfl ?_
          refine g_istore_n 132 gq109 rfl rfl rfl ?_
          replace h := h _ rfl
          refine g_iinc 135 gq109 rfl rfl rfl rfl ?_
          refine g_goto 43 gq109 rfl rfl ?_
          exact kGo.weak (km_Le.s (km_Le.s (km_Le.s (km_Le.s (km_Le.s (km_Le.n (km_Le.n km_Le.nil))))))) h
    · replace h := h.2 c
      refine g_iload 103 gq109 rfl rfl rfl ?_
      refine g_iload_n 104 gq109 rfl rfl rfl ?_
      have c88 := h.1
      replace h := h.2
      have c90 := h.1
      replace h := h.2
      refine g_icmp_eq 119 107 gq109 rfl rfl rfl c88 c90 (fun c => ?_) (fun c => ?_)
      · replace h := h.1 c
        refine g_iload_n 120 gq109 rfl rfl rfl ?_
        refine g_aload_n 121 gq109 rfl rfl rfl ?_
        refine g_getA 124 13 gq109 rfl rfl rfl rfl rfl rfl rfl ?_
        refine g_getA 127 16 gq109 rfl rfl rfl rfl rfl rfl rfl ?_
        refine g_iload 129 gq109 rfl rfl rfl ?_
        refine g_iald 130 gq109 rfl rfl rfl c24 ?_
        refine g_iadd 131 gq109 rfl rfl ?_
        refine g_istore_n 132 gq109 rfl rfl rfl ?_
        replace h := h _ rfl
        refine g_iinc 135 gq109 rfl rfl rfl rfl ?_
        refine g_goto 43 gq109 rfl rfl ?_
        exact kGo.weak (km_Le.s (km_Le.s (km_Le.s (km_Le.s (km_Le.s (km_Le.n (km_Le.n km_Le.nil))))))) h
      · replace h := h.2 c
        refine g_iload 109 gq109 rfl rfl rfl ?_
        refine g_iload_n 110 gq109 rfl rfl rfl ?_
        refine g_icmp_ne 132 113 gq109 rfl rfl rfl c47 c90 (fun c => ?_) (fun c => ?_)
        · replace h := h.1 c
          refine g_iinc 135 gq109 rfl rfl rfl rfl ?_
          refine g_goto 43 gq109 rfl rfl ?_
          exact kGo.weak (km_Le.s (km_Le.s (km_Le.s (km_Le.s (km_Le.s (km_Le.n (km_Le.n km_Le.nil))))))) h
        · replace h := h.2 c
          refine g_iload 115 gq109 rfl rfl rfl ?_
          refine g_iload_n 116 gq109 rfl rfl rfl ?_
          refine g_icmp_ne 132 119 gq109 rfl rfl rfl c88 c49 (fun c => ?_) (fun c => ?_)
          · replace h := h.1 c
            refine g_iinc 135 gq109 rfl rfl rfl rfl ?_
            refine g_goto 43 gq109 rfl rfl ?_
            exact kGo.weak (km_Le.s (km_Le.s (km_Le.s (km_Le.s (km_Le.s (km_Le.n (km_Le.n km_Le.nil))))))) h
          · replace h := h.2 c
            refine g_iload_n 120 gq109 rfl rfl rfl ?_
            refine g_aload_n 121 gq109 rfl rfl rfl ?_
            refine g_getA 124 13 gq109 rfl rfl rfl rfl rfl rfl rfl ?_
            refine g_getA 127 16 gq109 rfl rfl rfl rfl rfl rfl rfl ?_
            refine g_iload 129 gq109 rfl rfl rfl ?_
            refine g_iald 130 gq109 rfl rfl rfl c24 ?_
            refine g_iadd 131 gq109 rfl rfl ?_
            refine g_istore_n 132 gq109 rfl rfl rfl ?_
            replace h := h _ rfl
            refine g_iinc 135 gq109 rfl rfl rfl rfl ?_
            refine g_goto 43 gq109 rfl rfl ?_
            exact kGo.weak (km_Le.s (km_Le.s (km_Le.s (km_Le.s (km_Le.s (km_Le.n (km_Le.n km_Le.nil))))))) h
set_option maxRecDepth 10000 in
theorem b110_0 {xs : Nat → Int32} {Lx d : Nat} {V : km_V} {Q : Option Value → km_V → Prop} {a1 : Int} 
    (h : (kR a1) ∧ ((a1 = 2 →
    kCJ xs Lx (d + 3) 9 8 [.ref 28, kI a1, .ref 13, .ref 17] V (fun y1 W1 =>
    Q (some (kJ y1)) W1)) ∧
   (a1 ≠ 2 →
    ((a1 = 3 →
      kCJ xs Lx (d + 3) 9 8 [.ref 28, kI a1, .ref 13, .ref 17] V (fun y2 W2 =>
      Q (some (kJ y2)) W2)) ∧
     (a1 ≠ 3 →
      ((a1 = 5 →
        kCJ xs Lx (d + 3) 9 8 [.ref 28, kI a1, .ref 13, .ref 17] V (fun y3 W3 =>
        Q (some (kJ y3)) W3)) ∧
       (a1 ≠ 5 →
        ((a1 = 7 →
          kCJ xs Lx (d + 3) 9 8 [.ref 28, kI a1, .ref 13, .ref 17] V (fun y4 W4 =>
          Q (some (kJ y4)) W4)) ∧
         (a1 ≠ 7 →
          ((a1 = 11 →
            kCJ xs Lx (d + 3) 9 8 [.ref 28, kI a1, .ref 13, .ref 17] V (fun y5 W5 =>
            Q (some (kJ y5)) W5)) ∧
           (a1 ≠ 11 →
            ((a1 = 13 →
              kCJ xs Lx (d + 3) 9 8 [.ref 28, kI a1, .ref 13, .ref 17] V (fun y6 W6 =>
              Q (some (kJ y6)) W6)) ∧
             (a1 ≠ 13 →
              Q (some (kJ (-1))) V))))))))))))) :
    kGo xs Lx (d + 4) 110 0 [some (.ref 0), some (kI a1)] [] V Q := by
  refine g_iload_n 1 gq110 rfl rfl rfl ?_
  refine g_iconst 2 gq110 rfl rfl ?_
  have c2 := h.1
  replace h := h.2
  refine g_icmp_eq 37 5 gq110 rfl rfl rfl c2 (by omega) (fun c => ?_) (fun c => ?_)
  · replace h := h.1 c
    refine g_aload_n 38 gq110 rfl rfl rfl ?_
    refine g_getA 41 28 gq110 rfl rfl rfl rfl rfl rfl rfl ?_
    refine g_iload_n 42 gq110 rfl rfl rfl ?_
    refine g_aload_n 43 gq110 rfl rfl rfl ?_
    refine g_getA 46 13 gq110 rfl rfl rfl rfl rfl rfl rfl ?_
    refine g_aload_n 47 gq110 rfl rfl rfl ?_
    refine g_getA 50 17 gq110 rfl rfl rfl rfl rfl rfl rfl ?_
    refine g_virt 9 _ (i := 233) gq110 rfl rfl gq9 rfl rfl rfl rfl rfl rfl ?_
    refine kGo.mono h (fun r W1 hr => ?_)
    obtain ⟨y1, rfl, h⟩ := hr
    exact g_lret gq110 rfl rfl h
  · replace h := h.2 c
    refine g_iload_n 6 gq110 rfl rfl rfl ?_
    refine g_iconst 7 gq110 rfl rfl ?_
    refine g_icmp_eq 37 10 gq110 rfl rfl rfl c2 (by omega) (fun c => ?_) (fun c => ?_)
    · replace h := h.1 c
      refine g_aload_n 38 gq110 rfl rfl rfl ?_
      refine g_getA 41 28 gq110 rfl rfl rfl rfl rfl rfl rfl ?_
      refine g_iload_n 42 gq110 rfl rfl rfl ?_
      refine g_aload_n 43 gq110 rfl rfl rfl ?_
      refine g_getA 46 13 gq110 rfl rfl rfl rfl rfl rfl rfl ?_
      refine g_aload_n 47 gq110 rfl rfl rfl ?_
      refine g_getA 50 17 gq110 rfl rfl rfl rfl rfl rfl rfl ?_
      refine g_virt 9 _ (i := 233) gq110 rfl rfl gq9 rfl rfl rfl rfl rfl rfl ?_
      refine kGo.mono h (fun r W2 hr => ?_)
      obtain ⟨y2, rfl, h⟩ := hr
      exact g_lret gq110 rfl rfl h
    · replace h := h.2 c
      refine g_iload_n 11 gq110 rfl rfl rfl ?_
      refine g_iconst 12 gq110 rfl rfl ?_
      refine g_icmp_eq 37 15 gq110 rfl rfl rfl c2 (by omega) (fun c => ?_) (fun c => ?_)
      · replace h := h.1 c
        refine g_aload_n 38 gq110 rfl rfl rfl ?_
        refine g_getA 41 28 gq110 rfl rfl rfl rfl rfl rfl rfl ?_
        refine g_iload_n 42 gq110 rfl rfl rfl ?_
        refine g_aload_n 43 gq110 rfl rfl rfl ?_
        refine g_getA 46 13 gq110 rfl rfl rfl rfl rfl rfl rfl ?_
        refine g_aload_n 47 gq110 rfl rfl rfl ?_
        refine g_getA 50 17 gq110 rfl rfl rfl rfl rfl rfl rfl ?_
        refine g_virt 9 _ (i := 233) gq110 rfl rfl gq9 rfl rfl rfl rfl rfl rfl ?_
        refine kGo.mono h (fun r W3 hr => ?_)
        obtain ⟨y3, rfl, h⟩ := hr
        exact g_lret gq110 rfl rfl h
      · replace h := h.2 c
        refine g_iload_n 16 gq110 rfl rfl rfl ?_
        refine g_bipush 18 gq110 rfl rfl rfl ?_
        refine g_icmp_eq 37 21 gq110 rfl rfl rfl c2 (by omega) (fun c => ?_) (fun c => ?_)
        · replace h := h.1 c
          refine g_aload_n 38 gq110 rfl rfl rfl ?_
          refine g_getA 41 28 gq110 rfl rfl rfl rfl rfl rfl rfl ?_
          refine g_iload_n 42 gq110 rfl rfl rfl ?_
          refine g_aload_n 43 gq110 rfl rfl rfl ?_
          refine g_getA 46 13 gq110 rfl rfl rfl rfl rfl rfl rfl ?_
          refine g_aload_n 47 gq110 rfl rfl rfl ?_
          refine g_getA 50 17 gq110 rfl rfl rfl rfl rfl rfl rfl ?_
          refine g_virt 9 _ (i := 233) gq110 rfl rfl gq9 rfl rfl rfl rfl rfl rfl ?_
          refine kGo.mono h (fun r W4 hr => ?_)
          obtain ⟨y4, rfl, h⟩ := hr
          exact g_lret gq110 rfl rfl h
        · replace h := h.2 c
          refine g_iload_n 22 gq110 rfl rfl rfl ?_
          refine g_bipush 24 gq110 rfl rfl rfl ?_
          refine g_icmp_eq 37 27 gq110 rfl rfl rfl c2 (by omega) (fun c => ?_) (fun c => ?_)
          · replace h := h.1 c
            refine g_aload_n 38 gq110 rfl rfl rfl ?_
            refine g_getA 41 28 gq110 rfl rfl rfl rfl rfl rfl rfl ?_
            refine g_iload_n 42 gq110 rfl rfl rfl ?_
            refine g_aload_n 43 gq110 rfl rfl rfl ?_
            refine g_getA 46 13 gq110 rfl rfl rfl rfl rfl rfl rfl ?_
            refine g_aload_n 47 gq110 rfl rfl rfl ?_
            refine g_getA 50 17 gq110 rfl rfl rfl rfl rfl rfl rfl ?_
            refine g_virt 9 _ (i := 233) gq110 rfl rfl gq9 rfl rfl rfl rfl rfl rfl ?_
            refine kGo.mono h (fun r W5 hr => ?_)
            obtain ⟨y5, rfl, h⟩ := hr
            exact g_lret gq110 rfl rfl h
          · replace h := h.2 c
            refine g_iload_n 28 gq110 rfl rfl rfl ?_
            refine g_bipush 30 gq110 rfl rfl rfl ?_
            refine g_icmp_eq 37 33 gq110 rfl rfl rfl c2 (by omega) (fun c => ?_) (fun c => ?_)
            · replace h := h.1 c
              refine g_aload_n 38 gq110 rfl rfl rfl ?_
              refine g_getA 41 28 gq110 rfl rfl rfl rfl rfl rfl rfl ?_
              refine g_iload_n 42 gq110 rfl rfl rfl ?_
              refine g_aload_n 43 gq110 rfl rfl rfl ?_
              refine g_getA 46 13 gq110 rfl rfl rfl rfl rfl rfl rfl ?_
              refine g_aload_n 47 gq110 rfl rfl rfl ?_
              refine g_getA 50 17 gq110 rfl rfl rfl rfl rfl rfl rfl ?_
              refine g_virt 9 _ (i := 233) gq110 rfl rfl gq9 rfl rfl rfl rfl rfl rfl ?_
              refine kGo.mono h (fun r W6 hr => ?_)
              obtain ⟨y6, rfl, h⟩ := hr
              exact g_lret gq110 rfl rfl h
            · replace h := h.2 c
              refine g_ldc2 36 (-1) gq110 rfl rfl rfl rfl ?_
              exact g_lret gq110 rfl rfl h
set_option maxRecDepth 10000 in
theorem b111_0 {xs : Nat → Int32} {Lx d : Nat} {V : km_V} {Q : Option Value → km_V → Prop} {a1 : Int} 
    (h : (kR a1) ∧ ((a1 = 0 →
    (kR (V 0 14)) ∧ (((V 0 14) ≠ 0 →
      (kR (V 0 15)) ∧ (((V 0 15) < 0 →
        Q (some (kI (V 0 15))) V) ∧
       (0 ≤ (V 0 15) →
        ((0 ≤ (V 0 15) ∧ (V 0 15) < 256)) ∧ Q (some (kI (kbit (V 0 15)))) V))) ∧
     ((V 0 14) = 0 →
      kCI xs Lx (d + 5) 122 3 [.ref 0] V (fun y1 W1 =>
      (kR ((up (up W1 0 15 y1) 0 14 1) 0 15)) ∧ ((((up (up W1 0 15 y1) 0 14 1) 0 15) < 0 →
        Q (some (kI ((up (up W1 0 15 y1) 0 14 1) 0 15))) (up (up W1 0 15 y1) 0 14 1)) ∧
       (0 ≤ ((up (up W1 0 15 y1) 0 14 1) 0 15) →
        ((0 ≤ ((up (up W1 0 15 y1) 0 14 1) 0 15) ∧ ((up (up W1 0 15 y1) 0 14 1) 0 15) < 256)) ∧ Q (some (kI (kbit ((up (up W1 0 15 y1) 0 14 1) 0 15)))) (up (up W1 0 15 y1) 0 14 1))))))) ∧
   (a1 ≠ 0 →
    ((a1 = 1 →
      (kR (V 0 14)) ∧ (((V 0 14) ≠ 0 →
        Q (some (kI (V 0 15))) V) ∧
       ((V 0 14) = 0 →
        kCI xs Lx (d + 5) 122 3 [.ref 0] V (fun y2 W2 =>
        Q (some (kI ((up (up W2 0 15 y2) 0 14 1) 0 15))) (up (up W2 0 15 y2) 0 14 1))))) ∧
     (a1 ≠ 1 →
      Q (some (kI (-1))) V))))) :
    kGo xs Lx (d + 6) 111 0 [some (.ref 0), some (kI a1)] [] V Q := by
  refine g_iload_n 1 gq111 rfl rfl rfl ?_
  have c1 := h.1
  replace h := h.2
  refine g_if_eq 11 4 gq111 rfl rfl rfl c1 (fun c => ?_) (fun c => ?_)
  · replace h := h.1 c
    refine g_aload_n 12 gq111 rfl rfl rfl ?_
    refine g_getI 15 gq111 rfl rfl rfl rfl rfl rfl ?_
    have c7 := h.1
    replace h := h.2
    refine g_if_ne 31 18 gq111 rfl rfl rfl c7 (fun c => ?_) (fun c => ?_)
    · replace h := h.1 c
      refine g_iload_n 32 gq111 rfl rfl rfl ?_
      refine g_if_ne 52 35 gq111 rfl rfl rfl c1 (fun c => ?_) (fun c => ?_)
      · exfalso; omega
      refine g_aload_n 36 gq111 rfl rfl rfl ?_
      refine g_getI 39 gq111 rfl rfl rfl rfl rfl rfl ?_
      have c16 := h.1
      replace h := h.2
      refine g_if_lt 52 42 gq111 rfl rfl rfl c16 (fun c => ?_) (fun c => ?_)
      · replace h := h.1 c
        refine g_aload_n 53 gq111 rfl rfl rfl ?_
        refine g_getI 56 gq111 rfl rfl rfl rfl rfl rfl ?_
        exact g_iret gq111 rfl rfl h
      · replace h := h.2 c
        refine g_aload_n 43 gq111 rfl rfl rfl ?_
        refine g_getI 46 gq111 rfl rfl rfl rfl rfl rfl ?_
        have c26 := h.1
        replace h := h.2
        refine g_static 218 _ (i := 247) gq111 rfl rfl gq218 rfl rfl rfl rfl ?_
        refine sp_bit c26 ?_
        refine g_goto 56 gq111 rfl rfl ?_
        exact g_iret gq111 rfl rfl h
    · replace h := h.2 c
      refine g_aload_n 19 gq111 rfl rfl rfl ?_
      refine g_aload_n 20 gq111 rfl rfl rfl ?_
      refine g_virt 122 _ (i := 241) gq111 rfl rfl gq122 rfl rfl rfl rfl rfl rfl ?_
      refine kGo.mono h (fun r W1 hr => ?_)
      obtain ⟨y1, rfl, h⟩ := hr
      refine g_putI 26 gq111 rfl rfl rfl rfl rfl rfl rfl rfl ?_
      refine g_aload_n 27 gq111 rfl rfl rfl ?_
      refine g_iconst 28 gq111 rfl rfl ?_
      refine g_putZ 31 gq111 rfl rfl rfl rfl rfl rfl rfl rfl (by omega) ?_
      refine g_iload_n 32 gq111 rfl rfl rfl ?_
      refine g_if_ne 52 35 gq111 rfl rfl rfl c1 (fun c => ?_) (fun c => ?_)
      · exfalso; omega
      refine g_aload_n 36 gq111 rfl rfl rfl ?_
      refine g_getI 39 gq111 rfl rfl rfl rfl rfl rfl ?_
      have c47 := h.1
      replace h := h.2
      refine g_if_lt 52 42 gq111 rfl rfl rfl c47 (fun c => ?_) (fun c => ?_)
      · replace h := h.1 c
        refine g_aload_n 53 gq111 rfl rfl rfl ?_
        refine g_getI 56 gq111 rfl rfl rfl rfl rfl rfl ?_
        exact g_iret gq111 rfl rfl h
      · replace h := h.2 c
        refine g_aload_n 43 gq111 rfl rfl rfl ?_
        refine g_getI 46 gq111 rfl rfl rfl rfl rfl rfl ?_
        have c57 := h.1
        replace h := h.2
        refine g_static 218 _ (i := 247) gq111 rfl rfl gq218 rfl rfl rfl rfl ?_
        refine sp_bit c57 ?_
        refine g_goto 56 gq111 rfl rfl ?_
        exact g_iret gq111 rfl rfl h
  · replace h := h.2 c
    refine g_iload_n 5 gq111 rfl rfl rfl ?_
    refine g_iconst 6 gq111 rfl rfl ?_
    refine g_icmp_eq 11 9 gq111 rfl rfl rfl c1 (by omega) (fun c => ?_) (fun c => ?_)
    · replace h := h.1 c
      refine g_aload_n 12 gq111 rfl rfl rfl ?_
      refine g_getI 15 gq111 rfl rfl rfl rfl rfl rfl ?_
      have c70 := h.1
      replace h := h.2
      refine g_if_ne 31 18 gq111 rfl rfl rfl c70 (fun c => ?_) (fun c => ?_)
      · replace h := h.1 c
        refine g_iload_n 32 gq111 rfl rfl rfl ?_
        refine g_if_ne 52 35 gq111 rfl rfl rfl c1 (fun c => ?_) (fun c => ?_)
        rotate_left
        · exfalso; omega
        refine g_aload_n 53 gq111 rfl rfl rfl ?_
        refine g_getI 56 gq111 rfl rfl rfl rfl rfl rfl ?_
        exact g_iret gq111 rfl rfl h
      · replace h := h.2 c
        refine g_aload_n 19 gq111 rfl rfl rfl ?_
        refine g_aload_n 20 gq111 rfl rfl rfl ?_
        refine g_virt 122 _ (i := 241) gq111 rfl rfl gq122 rfl rfl rfl rfl rfl rfl ?_
        refine kGo.mono h (fun r W2 hr => ?_)
        obtain ⟨y2, rfl, h⟩ := hr
        refine g_putI 26 gq111 rfl rfl rfl rfl rfl rfl rfl rfl ?_
        refine g_aload_n 27 gq111 rfl rfl rfl ?_
        refine g_iconst 28 gq111 rfl rfl ?_
        refine g_putZ 31 gq111 rfl rfl rfl rfl rfl rfl rfl rfl (by omega) ?_
        refine g_iload_n 32 gq111 rfl rfl rfl ?_
        refine g_if_ne 52 35 gq111 rfl rfl rfl c1 (fun c => ?_) (fun c => ?_)
        rotate_left
        · exfalso; omega
        refine g_aload_n 53 gq111 rfl rfl rfl ?_
        refine g_getI 56 gq111 rfl rfl rfl rfl rfl rfl ?_
        exact g_iret gq111 rfl rfl h
    · replace h := h.2 c
      refine g_iconst 10 gq111 rfl rfl ?_
      exact g_iret gq111 rfl rfl h
set_option maxRecDepth 10000 in
theorem b112_0 {xs : Nat → Int32} {Lx d : Nat} {V : km_V} {Q : Option Value → km_V → Prop} {a1 : Int} 
    (h : (kR a1) ∧ ((a1 < 0 →
    Q (some (kI (-1))) V) ∧
   (0 ≤ a1 →
    ((a1 ≤ 3 →
      kCI xs Lx (d + 6) 77 3 [.ref 224, .ref 13, kI a1] V (fun y1 W1 =>
      (kR y1) ∧ ((y1 = 0 →
        Q (some (kI 0)) W1) ∧
       (y1 ≠ 0 →
        Q (some (kI 1)) W1)))) ∧
     (3 < a1 →
      Q (some (kI (-1))) V))))) :
    kGo xs Lx (d + 7) 112 0 [some (.ref 0), some (kI a1)] [] V Q := by
  refine g_iload_n 1 gq112 rfl rfl rfl ?_
  have c1 := h.1
  replace h := h.2
  refine g_if_lt 9 4 gq112 rfl rfl rfl c1 (fun c => ?_) (fun c => ?_)
  · replace h := h.1 c
    refine g_iconst 10 gq112 rfl rfl ?_
    exact g_iret gq112 rfl rfl h
  · replace h := h.2 c
    refine g_iload_n 5 gq112 rfl rfl rfl ?_
    refine g_iconst 6 gq112 rfl rfl ?_
    refine g_icmp_le 11 9 gq112 rfl rfl rfl c1 (by omega) (fun c => ?_) (fun c => ?_)
    · replace h := h.1 c
      refine g_aload_n 12 gq112 rfl rfl rfl ?_
      refine g_getA 15 224 gq112 rfl rfl rfl rfl rfl rfl rfl ?_
      refine g_aload_n 16 gq112 rfl rfl rfl ?_
      refine g_getA 19 13 gq112 rfl rfl rfl rfl rfl rfl rfl ?_
      refine g_iload_n 20 gq112 rfl rfl rfl ?_
      refine g_virt 77 _ (i := 252) gq112 rfl rfl gq77 rfl rfl rfl rfl rfl rfl ?_
      refine kGo.mono h (fun r W1 hr => ?_)
      obtain ⟨y1, rfl, h⟩ := hr
      have c20 := h.1
      replace h := h.2
      refine g_if_eq 30 26 gq112 rfl rfl rfl c20 (fun c => ?_) (fun c => ?_)
      · replace h := h.1 c
        refine g_iconst 31 gq112 rfl rfl ?_
        exact g_iret gq112 rfl rfl h
      · replace h := h.2 c
        refine g_iconst 27 gq112 rfl rfl ?_
        refine g_goto 31 gq112 rfl rfl ?_
        exact g_iret gq112 rfl rfl h
    · replace h := h.2 c
      refine g_iconst 10 gq112 rfl rfl ?_
      exact g_iret gq112 rfl rfl h
set_option maxRecDepth 10000 in
theorem b113_0 {xs : Nat → Int32} {Lx d : Nat} {V : km_V} {Q : Option Value → km_V → Prop} {a1 a2 : Int} 
    (h : (kR a1) ∧ ((a1 < 0 →
    kGo xs Lx (d + 5) 113 17 [none, none, none] [] V Q) ∧
   (0 ≤ a1 →
    ((3 ≤ a1 →
      kGo xs Lx (d + 5) 113 17 [none, none, none] [] V Q) ∧
     (a1 < 3 →
      (0 ≤ a1 ∧ a1 < (3 : Nat)) ∧ (kR (V 208 (Int.toNat a1))) ∧ (((V 208 (Int.toNat a1)) = 0 →
        kGo xs Lx (d + 5) 113 17 [none, none, none] [] V Q) ∧
       ((V 208 (Int.toNat a1)) ≠ 0 →
        (kR a2) ∧ ((a2 < 0 →
          kGo xs Lx (d + 5) 113 17 [none, none, none] [] V Q) ∧
         (0 ≤ a2 →
          ((a2 ≤ 2 →
            ((a2 ≠ 2 →
              (0 ≤ a1 ∧ a1 < (3 : Nat)) ∧ kCV xs Lx (d + 4) 21 3 [.ref 213, .ref (287 + 4 * Int.toNat a1)] V (fun W1 =>
              kCV xs Lx (d + 4) 13 6 [.ref 42, .ref (287 + 4 * Int.toNat a1), .ref 213] W1 (fun W2 =>
              (kR (W2 0 13)) ∧ (((W2 0 13) ≠ 0 →
                (kR a2) ∧ ((a2 ≠ 1 →
                  kCI xs Lx (d + 4) 18 4 [.ref 39, .ref 42, kI 0] W2 (fun y3 W3 =>
                  (kR y3) ∧ ((y3 = 0 →
                    Q (some (kI 0)) W3) ∧
                   (y3 ≠ 0 →
                    Q (some (kI 1)) W3)))) ∧
                 (a2 = 1 →
                  kCI xs Lx (d + 4) 18 4 [.ref 39, .ref 42, kI 1] W2 (fun y4 W4 =>
                  (kR y4) ∧ ((y4 = 0 →
                    Q (some (kI 0)) W4) ∧
                   (y4 ≠ 0 →
                    Q (some (kI 1)) W4)))))) ∧
               ((W2 0 13) = 0 →
                kCV xs Lx (d + 3) 13 6 [.ref 39, .ref 13, .ref 17] W2 (fun W5 =>
                (kR a2) ∧ ((a2 ≠ 1 →
                  kCI xs Lx (d + 4) 18 4 [.ref 39, .ref 42, kI 0] (up W5 0 13 1) (fun y6 W6 =>
                  (kR y6) ∧ ((y6 = 0 →
                    Q (some (kI 0)) W6) ∧
                   (y6 ≠ 0 →
                    Q (some (kI 1)) W6)))) ∧
                 (a2 = 1 →
                  kCI xs Lx (d + 4) 18 4 [.ref 39, .ref 42, kI 1] (up W5 0 13 1) (fun y7 W7 =>
                  (kR y7) ∧ ((y7 = 0 →
                    Q (some (kI 0)) W7) ∧
                   (y7 ≠ 0 →
                    Q (some (kI 1)) W7))))))))))) ∧
             (a2 = 2 →
              (0 ≤ a1 ∧ a1 < (3 : Nat)) ∧ kCI xs Lx (d + 4) 58 4 [.ref 13, .ref (287 + 4 * Int.toNat a1)] V (fun y8 W8 =>
              (kR y8) ∧ ((y8 = 0 →
                Q (some (kI 0)) W8) ∧
               (y8 ≠ 0 →
                Q (some (kI 1)) W8)))))) ∧
           (2 < a2 →
            kGo xs Lx (d + 5) 113 17 [none, none, none] [] V Q))))))))))) :
    kGo xs Lx (d + 5) 113 0 [some (.ref 0), some (kI a1), some (kI a2)] [] V Q := by
  refine g_aload_n 1 gq113 rfl rfl rfl ?_
  refine g_iload_n 2 gq113 rfl rfl rfl ?_
  refine g_virt 118 _ (i := 158) gq113 rfl rfl gq118 rfl rfl rfl rfl rfl rfl ?_
  refine g_iload_n 1 gq118 rfl rfl rfl ?_
  have c4 := h.1
  replace h := h.2
  refine g_if_lt 22 4 gq118 rfl rfl rfl c4 (fun c => ?_) (fun c => ?_)
  · replace h := h.1 c
    refine g_iconst 23 gq118 rfl rfl ?_
    refine g_zret gq118 rfl rfl (by omega) ?_
    refine g_if_eq 17 8 gq113 rfl rfl rfl (by omega) (fun c => ?_) (fun c => ?_)
    rotate_left
    · exact absurd c (by decide)
    exact kGo.weak (km_Le.n (km_Le.n (km_Le.n km_Le.nil))) h
  · replace h := h.2 c
    refine g_iload_n 5 gq118 rfl rfl rfl ?_
    refine g_iconst 6 gq118 rfl rfl ?_
    refine g_icmp_ge 22 9 gq118 rfl rfl rfl c4 (by omega) (fun c => ?_) (fun c => ?_)
    · replace h := h.1 c
      refine g_iconst 23 gq118 rfl rfl ?_
      refine g_zret gq118 rfl rfl (by omega) ?_
      refine g_if_eq 17 8 gq113 rfl rfl rfl (by omega) (fun c => ?_) (fun c => ?_)
      rotate_left
      · exact absurd c (by decide)
      exact kGo.weak (km_Le.n (km_Le.n (km_Le.n km_Le.nil))) h
    · replace h := h.2 c
      refine g_aload_n 10 gq118 rfl rfl rfl ?_
      refine g_getA 13 208 gq118 rfl rfl rfl rfl rfl rfl rfl ?_
      refine g_iload_n 14 gq118 rfl rfl rfl ?_
      have c29 := h.1
      replace h := h.2
      refine g_zald 15 gq118 rfl rfl rfl c29 ?_
      have c32 := h.1
      replace h := h.2
      refine g_if_eq 22 18 gq118 rfl rfl rfl c32 (fun c => ?_) (fun c => ?_)
      · replace h := h.1 c
        refine g_iconst 23 gq118 rfl rfl ?_
        refine g_zret gq118 rfl rfl (by omega) ?_
        refine g_if_eq 17 8 gq113 rfl rfl rfl (by omega) (fun c => ?_) (fun c => ?_)
        rotate_left
        · exact absurd c (by decide)
        exact kGo.weak (km_Le.n (km_Le.n (km_Le.n km_Le.nil))) h
      · replace h := h.2 c
        refine g_iconst 19 gq118 rfl rfl ?_
        refine g_goto 23 gq118 rfl rfl ?_
        refine g_zret gq118 rfl rfl (by omega) ?_
        refine g_if_eq 17 8 gq113 rfl rfl rfl (by omega) (fun c => ?_) (fun c => ?_)
        · exact absurd c (by decide)
        refine g_iload_n 9 gq113 rfl rfl rfl ?_
        have c49 := h.1
        replace h := h.2
        refine g_if_lt 17 12 gq113 rfl rfl rfl c49 (fun c => ?_) (fun c => ?_)
        · replace h := h.1 c
          exact kGo.weak (km_Le.n (km_Le.n (km_Le.n km_Le.nil))) h
        · replace h := h.2 c
          refine g_iload_n 13 gq113 rfl rfl rfl ?_
          refine g_iconst 14 gq113 rfl rfl ?_
          refine g_icmp_le 19 17 gq113 rfl rfl rfl c49 (by omega) (fun c => ?_) (fun c => ?_)
          · replace h := h.1 c
            refine g_iload_n 20 gq113 rfl rfl rfl ?_
            refine g_iconst 21 gq113 rfl rfl ?_
            refine g_icmp_ne 46 24 gq113 rfl rfl rfl c49 (by omega) (fun c => ?_) (fun c => ?_)
            · replace h := h.1 c
              refine g_aload_n 47 gq113 rfl rfl rfl ?_
              refine g_getA 50 213 gq113 rfl rfl rfl rfl rfl rfl rfl ?_
              refine g_aload_n 51 gq113 rfl rfl rfl ?_
              refine g_getA 54 207 gq113 rfl rfl rfl rfl rfl rfl rfl ?_
              refine g_iload_n 55 gq113 rfl rfl rfl ?_
              have c68 := h.1
              replace h := h.2
              refine g_aald 56 (287 + 4 * Int.toNat _) gq113 rfl rfl (by decide) rfl c68 rfl ?_
              refine g_virt 21 _ (i := 259) gq113 rfl rfl gq21 rfl rfl rfl rfl rfl rfl ?_
              refine kGo.mono h (fun r W1 hr => ?_)
              obtain ⟨rfl, h⟩ := hr
              refine g_aload_n 60 gq113 rfl rfl rfl ?_
              refine g_getA 63 42 gq113 rfl rfl rfl rfl rfl rfl rfl ?_
              refine g_aload_n 64 gq113 rfl rfl rfl ?_
              refine g_getA 67 207 gq113 rfl rfl rfl rfl rfl rfl rfl ?_
              refine g_iload_n 68 gq113 rfl rfl rfl ?_
              refine g_aald 69 (287 + 4 * Int.toNat _) gq113 rfl rfl (by decide) rfl c68 rfl ?_
              refine g_aload_n 70 gq113 rfl rfl rfl ?_
              refine g_getA 73 213 gq113 rfl rfl rfl rfl rfl rfl rfl ?_
              refine g_virt 13 _ (i := 262) gq113 rfl rfl gq13 rfl rfl rfl rfl rfl rfl ?_
              refine kGo.mono h (fun r W2 hr => ?_)
              obtain ⟨rfl, h⟩ := hr
              refine g_aload_n 77 gq113 rfl rfl rfl ?_
              refine g_virt 121 _ (i := 221) gq113 rfl rfl gq121 rfl rfl rfl rfl rfl rfl ?_
              refine g_aload_n 1 gq121 rfl rfl rfl ?_
              refine g_getI 4 gq121 rfl rfl rfl rfl rfl rfl ?_
              have c89 := h.1
              replace h := h.2
              refine g_if_ne 27 7 gq121 rfl rfl rfl c89 (fun c => ?_) (fun c => ?_)
              · replace h := h.1 c
                refine g_aload_n 28 gq121 rfl rfl rfl ?_
                refine g_getA 31 39 gq121 rfl rfl rfl rfl rfl rfl rfl ?_
                refine g_aret gq121 rfl rfl ?_
                refine g_aload_n 81 gq113 rfl rfl rfl ?_
                refine g_getA 84 42 gq113 rfl rfl rfl rfl rfl rfl rfl ?_
                refine g_iload_n 85 gq113 rfl rfl rfl ?_
                refine g_iconst 86 gq113 rfl rfl ?_
                have c100 := h.1
                replace h := h.2
                refine g_icmp_ne 93 89 gq113 rfl rfl rfl c100 (by omega) (fun c => ?_) (fun c => ?_)
                · replace h := h.1 c
                  refine g_iconst 94 gq113 rfl rfl ?_
                  refine g_virt 18 _ (i := 266) gq113 rfl rfl gq18 rfl rfl rfl rfl rfl rfl ?_
                  refine kGo.mono h (fun r W3 hr => ?_)
                  obtain ⟨y3, rfl, h⟩ := hr
                  have c108 := h.1
                  replace h := h.2
                  refine g_if_eq 104 100 gq113 rfl rfl rfl c108 (fun c => ?_) (fun c => ?_)
                  · replace h := h.1 c
                    refine g_iconst 105 gq113 rfl rfl ?_
                    exact g_iret gq113 rfl rfl h
                  · replace h := h.2 c
                    refine g_iconst 101 gq113 rfl rfl ?_
                    refine g_goto 105 gq113 rfl rfl ?_
                    exact g_iret gq113 rfl rfl h
                · replace h := h.2 c
                  refine g_iconst 90 gq113 rfl rfl ?_
                  refine g_goto 94 gq113 rfl rfl ?_
                  refine g_virt 18 _ (i := 266) gq113 rfl rfl gq18 rfl rfl rfl rfl rfl rfl ?_
                  refine kGo.mono h (fun r W4 hr => ?_)
                  obtain ⟨y4, rfl, h⟩ := hr
                  have c124 := h.1
                  replace h := h.2
                  refine g_if_eq 104 100 gq113 rfl rfl rfl c124 (fun c => ?_) (fun c => ?_)
                  · replace h := h.1 c
                    refine g_iconst 105 gq113 rfl rfl ?_
                    exact g_iret gq113 rfl rfl h
                  · replace h := h.2 c
                    refine g_iconst 101 gq113 rfl rfl ?_
                    refine g_goto 105 gq113 rfl rfl ?_
                    exact g_iret gq113 rfl rfl h
              · replace h := h.2 c
                refine g_aload_n 8 gq121 rfl rfl rfl ?_
                refine g_getA 11 39 gq121 rfl rfl rfl rfl rfl rfl rfl ?_
                refine g_aload_n 12 gq121 rfl rfl rfl ?_
                refine g_getA 15 13 gq121 rfl rfl rfl rfl rfl rfl rfl ?_
                refine g_aload_n 16 gq121 rfl rfl rfl ?_
                refine g_getA 19 17 gq121 rfl rfl rfl rfl rfl rfl rfl ?_
                refine g_virt 13 _ (i := 262) gq121 rfl rfl gq13 rfl rfl rfl rfl rfl rfl ?_
                refine kGo.mono h (fun r W5 hr => ?_)
                obtain ⟨rfl, h⟩ := hr
                refine g_aload_n 23 gq121 rfl rfl rfl ?_
                refine g_iconst 24 gq121 rfl rfl ?_
                refine g_putZ 27 gq121 rfl rfl rfl rfl rfl rfl rfl rfl (by omega) ?_
                refine g_aload_n 28 gq121 rfl rfl rfl ?_
                refine g_getA 31 39 gq121 rfl rfl rfl rfl rfl rfl rfl ?_
                refine g_aret gq121 rfl rfl ?_
                refine g_aload_n 81 gq113 rfl rfl rfl ?_
                refine g_getA 84 42 gq113 rfl rfl rfl rfl rfl rfl rfl ?_
                refine g_iload_n 85 gq113 rfl rfl rfl ?_
                refine g_iconst 86 gq113 rfl rfl ?_
                have c154 := h.1
                replace h := h.2
                refine g_icmp_ne 93 89 gq113 rfl rfl rfl c154 (by omega) (fun c => ?_) (fun c => ?_)
                · replace h := h.1 c
                  refine g_iconst 94 gq113 rfl rfl ?_
                  refine g_virt 18 _ (i := 266) gq113 rfl rfl gq18 rfl rfl rfl rfl rfl rfl ?_
                  refine kGo.mono h (fun r W6 hr => ?_)
                  obtain ⟨y6, rfl, h⟩ := hr
                  have c162 := h.1
                  replace h := h.2
                  refine g_if_eq 104 100 gq113 rfl rfl rfl c162 (fun c => ?_) (fun c => ?_)
                  · replace h := h.1 c
                    refine g_iconst 105 gq113 rfl rfl ?_
                    exact g_iret gq113 rfl rfl h
                  · replace h := h.2 c
                    refine g_iconst 101 gq113 rfl rfl ?_
                    refine g_goto 105 gq113 rfl rfl ?_
                    exact g_iret gq113 rfl rfl h
                · replace h := h.2 c
                  refine g_iconst 90 gq113 rfl rfl ?_
                  refine g_goto 94 gq113 rfl rfl ?_
                  refine g_virt 18 _ (i := 266) gq113 rfl rfl gq18 rfl rfl rfl rfl rfl rfl ?_
                  refine kGo.mono h (fun r W7 hr => ?_)
                  obtain ⟨y7, rfl, h⟩ := hr
                  have c178 := h.1
                  replace h := h.2
                  refine g_if_eq 104 100 gq113 rfl rfl rfl c178 (fun c => ?_) (fun c => ?_)
                  · replace h := h.1 c
                    refine g_iconst 105 gq113 rfl rfl ?_
                    exact g_iret gq113 rfl rfl h
                  · replace h := h.2 c
                    refine g_iconst 101 gq113 rfl rfl ?_
                    refine g_goto 105 gq113 rfl rfl ?_
                    exact g_iret gq113 rfl rfl h
            · replace h := h.2 c
              refine g_aload_n 25 gq113 rfl rfl rfl ?_
              refine g_getA 28 13 gq113 rfl rfl rfl rfl rfl rfl rfl ?_
              refine g_aload_n 29 gq113 rfl rfl rfl ?_
              refine g_getA 32 207 gq113 rfl rfl rfl rfl rfl rfl rfl ?_
              refine g_iload_n 33 gq113 rfl rfl rfl ?_
              have c194 := h.1
              replace h := h.2
              refine g_aald 34 (287 + 4 * Int.toNat _) gq113 rfl rfl (by decide) rfl c194 rfl ?_
              refine g_virt 58 _ (i := 256) gq113 rfl rfl gq58 rfl rfl rfl rfl rfl rfl ?_
              refine kGo.mono h (fun r W8 hr => ?_)
              obtain ⟨y8, rfl, h⟩ := hr
              have c200 := h.1
              replace h := h.2
              refine g_if_eq 44 40 gq113 rfl rfl rfl c200 (fun c => ?_) (fun c => ?_)
              · replace h := h.1 c
                refine g_iconst 45 gq113 rfl rfl ?_
                exact g_iret gq113 rfl rfl h
              · replace h := h.2 c
                refine g_iconst 41 gq113 rfl rfl ?_
                refine g_goto 45 gq113 rfl rfl ?_
                exact g_iret gq113 rfl rfl h
          · replace h := h.2 c
            exact kGo.weak (km_Le.n (km_Le.n (km_Le.n km_Le.nil))) h
set_option maxRecDepth 10000 in
theorem b113_17 {xs : Nat → Int32} {Lx d : Nat} {V : km_V} {Q : Option Value → km_V → Prop} 
    (h : Q (some (kI (-1))) V) :
    kGo xs Lx (d + 5) 113 17 [none, none, none] [] V Q := by
  refine g_iconst 18 gq113 rfl rfl ?_
  exact g_iret gq113 rfl rfl h
set_option maxRecDepth 10000 in
theorem b114_0 {xs : Nat → Int32} {Lx d : Nat} {V : km_V} {Q : Option Value → km_V → Prop} {a1 : Int} 
    (h : (kR a1) ∧ ((a1 < 0 →
    Q (some (kI 0)) V) ∧
   (0 ≤ a1 →
    ((a1 < 3 →
      (0 ≤ a1 ∧ a1 < (3 : Nat)) ∧ kCV xs Lx (d + 0) 57 2 [.ref (287 + 4 * Int.toNat a1), .ref 13] V (fun W1 =>
      Q (some (kI 1)) (up W1 208 (Int.toNat a1) 1))) ∧
     (3 ≤ a1 →
      Q (some (kI 0)) V))))) :
    kGo xs Lx (d + 1) 114 0 [some (.ref 0), some (kI a1)] [] V Q := by
  refine g_iload_n 1 gq114 rfl rfl rfl ?_
  have c1 := h.1
  replace h := h.2
  refine g_if_lt 9 4 gq114 rfl rfl rfl c1 (fun c => ?_) (fun c => ?_)
  · replace h := h.1 c
    refine g_iconst 10 gq114 rfl rfl ?_
    exact g_zret gq114 rfl rfl (by omega) h
  · replace h := h.2 c
    refine g_iload_n 5 gq114 rfl rfl rfl ?_
    refine g_iconst 6 gq114 rfl rfl ?_
    refine g_icmp_lt 11 9 gq114 rfl rfl rfl c1 (by omega) (fun c => ?_) (fun c => ?_)
    · replace h := h.1 c
      refine g_aload_n 12 gq114 rfl rfl rfl ?_
      refine g_getA 15 207 gq114 rfl rfl rfl rfl rfl rfl rfl ?_
      refine g_iload_n 16 gq114 rfl rfl rfl ?_
      have c15 := h.1
      replace h := h.2
      refine g_aald 17 (287 + 4 * Int.toNat _) gq114 rfl rfl (by decide) rfl c15 rfl ?_
      refine g_aload_n 18 gq114 rfl rfl rfl ?_
      refine g_getA 21 13 gq114 rfl rfl rfl rfl rfl rfl rfl ?_
      refine g_virt 57 _ (i := 106) gq114 rfl rfl gq57 (shXS c15) rfl rfl rfl rfl rfl ?_
      refine kGo.mono h (fun r W1 hr => ?_)
      obtain ⟨rfl, h⟩ := hr
      refine g_aload_n 25 gq114 rfl rfl rfl ?_
      refine g_getA 28 208 gq114 rfl rfl rfl rfl rfl rfl rfl ?_
      refine g_iload_n 29 gq114 rfl rfl rfl ?_
      refine g_iconst 30 gq114 rfl rfl ?_
      refine g_zast 31 gq114 rfl rfl rfl c15 (by omega) ?_
      refine g_iconst 32 gq114 rfl rfl ?_
      exact g_zret gq114 rfl rfl (by omega) h
    · replace h := h.2 c
      refine g_iconst 10 gq114 rfl rfl ?_
      exact g_zret gq114 rfl rfl (by omega) h
set_option maxRecDepth 10000 in
theorem b115_0 {xs : Nat → Int32} {Lx d : Nat} {V : km_V} {Q : Option Value → km_V → Prop} {a1 : Int} 
    (h : (kR a1) ∧ ((a1 < 0 →
    Q (some (kI 0)) V) ∧
   (0 ≤ a1 →
    ((3 ≤ a1 →
      Q (some (kI 0)) V) ∧
     (a1 < 3 →
      (0 ≤ a1 ∧ a1 < (3 : Nat)) ∧ (kR (V 208 (Int.toNat a1))) ∧ (((V 208 (Int.toNat a1)) = 0 →
        Q (some (kI 0)) V) ∧
       ((V 208 (Int.toNat a1)) ≠ 0 →
        (0 ≤ a1 ∧ a1 < (3 : Nat)) ∧ kCV xs Lx (d + 3) 57 2 [.ref 13, .ref (287 + 4 * Int.toNat a1)] (up V 45 0 0) (fun W1 =>
        kCV xs Lx (d + 3) 117 1 [.ref 0] W1 (fun W2 =>
        Q (some (kI 1)) W2))))))))) :
    kGo xs Lx (d + 4) 115 0 [some (.ref 0), some (kI a1)] [] V Q := by
  refine g_aload_n 1 gq115 rfl rfl rfl ?_
  refine g_iload_n 2 gq115 rfl rfl rfl ?_
  refine g_virt 118 _ (i := 158) gq115 rfl rfl gq118 rfl rfl rfl rfl rfl rfl ?_
  refine g_iload_n 1 gq118 rfl rfl rfl ?_
  have c4 := h.1
  replace h := h.2
  refine g_if_lt 22 4 gq118 rfl rfl rfl c4 (fun c => ?_) (fun c => ?_)
  · replace h := h.1 c
    refine g_iconst 23 gq118 rfl rfl ?_
    refine g_zret gq118 rfl rfl (by omega) ?_
    refine g_if_ne 10 8 gq115 rfl rfl rfl (by omega) (fun c => ?_) (fun c => ?_)
    · exact absurd c (by decide)
    refine g_iconst 9 gq115 rfl rfl ?_
    exact g_zret gq115 rfl rfl (by omega) h
  · replace h := h.2 c
    refine g_iload_n 5 gq118 rfl rfl rfl ?_
    refine g_iconst 6 gq118 rfl rfl ?_
    refine g_icmp_ge 22 9 gq118 rfl rfl rfl c4 (by omega) (fun c => ?_) (fun c => ?_)
    · replace h := h.1 c
      refine g_iconst 23 gq118 rfl rfl ?_
      refine g_zret gq118 rfl rfl (by omega) ?_
      refine g_if_ne 10 8 gq115 rfl rfl rfl (by omega) (fun c => ?_) (fun c => ?_)
      · exact absurd c (by decide)
      refine g_iconst 9 gq115 rfl rfl ?_
      exact g_zret gq115 rfl rfl (by omega) h
    · replace h := h.2 c
      refine g_aload_n 10 gq118 rfl rfl rfl ?_
      refine g_getA 13 208 gq118 rfl rfl rfl rfl rfl rfl rfl ?_
      refine g_iload_n 14 gq118 rfl rfl rfl ?_
      have c29 := h.1
      replace h := h.2
      refine g_zald 15 gq118 rfl rfl rfl c29 ?_
      have c32 := h.1
      replace h := h.2
      refine g_if_eq 22 18 gq118 rfl rfl rfl c32 (fun c => ?_) (fun c => ?_)
      · replace h := h.1 c
        refine g_iconst 23 gq118 rfl rfl ?_
        refine g_zret gq118 rfl rfl (by omega) ?_
        refine g_if_ne 10 8 gq115 rfl rfl rfl (by omega) (fun c => ?_) (fun c => ?_)
        · exact absurd c (by decide)
        refine g_iconst 9 gq115 rfl rfl ?_
        exact g_zret gq115 rfl rfl (by omega) h
      · replace h := h.2 c
        refine g_iconst 19 gq118 rfl rfl ?_
        refine g_goto 23 gq118 rfl rfl ?_
        refine g_zret gq118 rfl rfl (by omega) ?_
        refine g_if_ne 10 8 gq115 rfl rfl rfl (by omega) (fun c => ?_) (fun c => ?_)
        rotate_left
        · exact absurd c (by decide)
        refine g_aload_n 11 gq115 rfl rfl rfl ?_
        refine g_getA 14 45 gq115 rfl rfl rfl rfl rfl rfl rfl ?_
        refine g_virt 37 _ (i := 103) gq115 rfl rfl gq37 rfl rfl rfl rfl rfl rfl ?_
        refine g_aload_n 1 gq37 rfl rfl rfl ?_
        refine g_iconst 2 gq37 rfl rfl ?_
        refine g_putI 5 gq37 rfl rfl rfl rfl rfl rfl rfl rfl ?_
        refine g_vret gq37 rfl rfl ?_
        refine g_aload_n 18 gq115 rfl rfl rfl ?_
        refine g_getA 21 13 gq115 rfl rfl rfl rfl rfl rfl rfl ?_
        refine g_aload_n 22 gq115 rfl rfl rfl ?_
        refine g_getA 25 207 gq115 rfl rfl rfl rfl rfl rfl rfl ?_
        refine g_iload_n 26 gq115 rfl rfl rfl ?_
        have c61 := h.1
        replace h := h.2
        refine g_aald 27 (287 + 4 * Int.toNat _) gq115 rfl rfl (by decide) rfl c61 rfl ?_
        refine g_virt 57 _ (i := 106) gq115 rfl rfl gq57 rfl rfl rfl rfl rfl rfl ?_
        refine kGo.mono h (fun r W1 hr => ?_)
        obtain ⟨rfl, h⟩ := hr
        refine g_aload_n 31 gq115 rfl rfl rfl ?_
        refine g_virt 117 _ (i := 110) gq115 rfl rfl gq117 rfl rfl rfl rfl rfl rfl ?_
        refine kGo.mono h (fun r W2 hr => ?_)
        obtain ⟨rfl, h⟩ := hr
        refine g_iconst 35 gq115 rfl rfl ?_
        exact g_zret gq115 rfl rfl (by omega) h
set_option maxRecDepth 10000 in
theorem b116_0 {xs : Nat → Int32} {Lx d : Nat} {V : km_V} {Q : Option Value → km_V → Prop} {a1 : Int} 
    (h : (kR a1) ∧ (((a1 < 0 ∨ 16 < a1) → Q (some (kI (-100000))) V) ∧ (a1 = 0 →
    Q (some (kI (V 13 0))) V) ∧ (a1 = 1 →
    Q (some (kI (V 13 1))) V) ∧ (a1 = 2 →
    Q (some (kI (2 * (V 13 1)))) V) ∧ (a1 = 3 →
    Q (some (kI (V 17 7))) V) ∧ (a1 = 4 →
    kCI xs Lx (d + 4) 32 5 [.ref 17, .ref 13] V (fun y1 W1 =>
    Q (some (kI y1)) W1)) ∧ (a1 = 5 →
    kCI xs Lx (d + 4) 63 3 [.ref 13] V (fun y2 W2 =>
    Q (some (kI y2)) W2)) ∧ (a1 = 6 →
    Q (some (kI (V 28 0))) V) ∧ (a1 = 7 →
    kCI xs Lx (d + 4) 5 3 [.ref 28, .ref 13, .ref 17] V (fun y3 W3 =>
    Q (some (kI y3)) W3)) ∧ (a1 = 8 →
    (kR (V 0 13)) ∧ (((V 0 13) ≠ 0 →
      kCI xs Lx (d + 4) 19 5 [.ref 39] V (fun y4 W4 =>
      Q (some (kI y4)) W4)) ∧
     ((V 0 13) = 0 →
      kCV xs Lx (d + 3) 13 6 [.ref 39, .ref 13, .ref 17] V (fun W5 =>
      kCI xs Lx (d + 4) 19 5 [.ref 39] (up W5 0 13 1) (fun y6 W6 =>
      Q (some (kI y6)) W6))))) ∧ (a1 = 9 →
    kCI xs Lx (d + 4) 64 3 [.ref 13] V (fun y7 W7 =>
    Q (some (kI y7)) W7)) ∧ (a1 = 10 →
    kCI xs Lx (d + 4) 30 4 [.ref 17, kI 1] V (fun y8 W8 =>
    Q (some (kI y8)) W8)) ∧ (a1 = 11 →
    kCI xs Lx (d + 4) 30 4 [.ref 17, kI 2] V (fun y9 W9 =>
    Q (some (kI y9)) W9)) ∧ (a1 = 12 →
    kCI xs Lx (d + 4) 30 4 [.ref 17, kI 3] V (fun y10 W10 =>
    Q (some (kI y10)) W10)) ∧ (a1 = 13 →
    kCI xs Lx (d + 4) 65 5 [.ref 13] V (fun y11 W11 =>
    (kR y11) ∧ ((y11 = 0 →
      Q (some (kI 0)) W11) ∧
     (y11 ≠ 0 →
      Q (some (kI 1)) W11)))) ∧ (a1 = 14 →
    Q (some (kI (V 1 0))) V) ∧ (a1 = 15 →
    Q (some (kI (V 45 0))) V) ∧ (a1 = 16 →
    kCI xs Lx (d + 4) 119 3 [.ref 0] V (fun y12 W12 =>
    Q (some (kI y12)) W12)))) :
    kGo xs Lx (d + 5) 116 0 [some (.ref 0), some (kI a1)] [] V Q := by
  refine g_iload_n 1 gq116 rfl rfl rfl ?_
  have c1 := h.1
  replace h := h.2
  by_cases hd : a1 < 0 ∨ 16 < a1
  · replace h := h.1 hd
    refine g_switch 240 gq116 rfl c1 (by rw [if_pos hd]; rfl) ?_
    refine g_ldc 242 (-100000) gq116 rfl rfl rfl rfl ?_
    exact g_iret gq116 rfl rfl h
  replace h := h.2
  have hv : a1 = 0 ∨ a1 = 1 ∨ a1 = 2 ∨ a1 = 3 ∨ a1 = 4 ∨ a1 = 5 ∨ a1 = 6 ∨ a1 = 7 ∨ a1 = 8 ∨ a1 = 9 ∨ a1 = 10 ∨ a1 = 11 ∨ a1 = 12 ∨ a1 = 13 ∨ a1 = 14 ∨ a1 = 15 ∨ a1 = 16 := by omega
  rcases hv with hv | hv | hv | hv | hv | hv | hv | hv | hv | hv | hv | hv | hv | hv | hv | hv | hv
  · replace h := h.1 hv
    refine g_switch 84 gq116 rfl c1 (by rw [hv]; rfl) ?_
    refine g_aload_n 85 gq116 rfl rfl rfl ?_
    refine g_getA 88 13 gq116 rfl rfl rfl rfl rfl rfl rfl ?_
    refine g_getI 91 gq116 rfl rfl rfl rfl rfl rfl ?_
    exact g_iret gq116 rfl rfl h
  · replace h := h.2.1 hv
    refine g_switch 92 gq116 rfl c1 (by rw [hv]; rfl) ?_
    refine g_aload_n 93 gq116 rfl rfl rfl ?_
    refine g_getA 96 13 gq116 rfl rfl rfl rfl rfl rfl rfl ?_
    refine g_getI 99 gq116 rfl rfl rfl rfl rfl rfl ?_
    exact g_iret gq116 rfl rfl h
  · replace h := h.2.2.1 hv
    refine g_switch 100 gq116 rfl c1 (by rw [hv]; rfl) ?_
    refine g_aload_n 101 gq116 rfl rfl rfl ?_
    refine g_getA 104 13 gq116 rfl rfl rfl rfl rfl rfl rfl ?_
    refine g_virt 59 _ (i := 133) gq116 rfl rfl gq59 rfl rfl rfl rfl rfl rfl ?_
    refine g_iconst 1 gq59 rfl rfl ?_
    refine g_aload_n 2 gq59 rfl rfl rfl ?_
    refine g_getI 5 gq59 rfl rfl rfl rfl rfl rfl ?_
    refine g_imul 6 gq59 rfl rfl ?_
    refine g_iret gq59 rfl rfl ?_
    exact g_iret gq116 rfl rfl h
  · replace h := h.2.2.2.1 hv
    refine g_switch 108 gq116 rfl c1 (by rw [hv]; rfl) ?_
    refine g_aload_n 109 gq116 rfl rfl rfl ?_
    refine g_getA 112 17 gq116 rfl rfl rfl rfl rfl rfl rfl ?_
    refine g_getI 115 gq116 rfl rfl rfl rfl rfl rfl ?_
    exact g_iret gq116 rfl rfl h
  · replace h := h.2.2.2.2.1 hv
    refine g_switch 116 gq116 rfl c1 (by rw [hv]; rfl) ?_
    refine g_aload_n 117 gq116 rfl rfl rfl ?_
    refine g_getA 120 17 gq116 rfl rfl rfl rfl rfl rfl rfl ?_
    refine g_aload_n 121 gq116 rfl rfl rfl ?_
    refine g_getA 124 13 gq116 rfl rfl rfl rfl rfl rfl rfl ?_
    refine g_virt 32 _ (i := 270) gq116 rfl rfl gq32 rfl rfl rfl rfl rfl rfl ?_
    refine kGo.mono h (fun r W1 hr => ?_)
    obtain ⟨y1, rfl, h⟩ := hr
    exact g_iret gq116 rfl rfl h
  · replace h := h.2.2.2.2.2.1 hv
    refine g_switch 128 gq116 rfl c1 (by rw [hv]; rfl) ?_
    refine g_aload_n 129 gq116 rfl rfl rfl ?_
    refine g_getA 132 13 gq116 rfl rfl rfl rfl rfl rfl rfl ?_
    refine g_virt 63 _ (i := 274) gq116 rfl rfl gq63 rfl rfl rfl rfl rfl rfl ?_
    refine kGo.mono h (fun r W2 hr => ?_)
    obtain ⟨y2, rfl, h⟩ := hr
    exact g_iret gq116 rfl rfl h
  · replace h := h.2.2.2.2.2.2.1 hv
    refine g_switch 136 gq116 rfl c1 (by rw [hv]; rfl) ?_
    refine g_aload_n 137 gq116 rfl rfl rfl ?_
    refine g_getA 140 28 gq116 rfl rfl rfl rfl rfl rfl rfl ?_
    refine g_getI 143 gq116 rfl rfl rfl rfl rfl rfl ?_
    exact g_iret gq116 rfl rfl h
  · replace h := h.2.2.2.2.2.2.2.1 hv
    refine g_switch 144 gq116 rfl c1 (by rw [hv]; rfl) ?_
    refine g_aload_n 145 gq116 rfl rfl rfl ?_
    refine g_getA 148 28 gq116 rfl rfl rfl rfl rfl rfl rfl ?_
    refine g_aload_n 149 gq116 rfl rfl rfl ?_
    refine g_getA 152 13 gq116 rfl rfl rfl rfl rfl rfl rfl ?_
    refine g_aload_n 153 gq116 rfl rfl rfl ?_
    refine g_getA 156 17 gq116 rfl rfl rfl rfl rfl rfl rfl ?_
    refine g_virt 5 _ (i := 279) gq116 rfl rfl gq5 rfl rfl rfl rfl rfl rfl ?_
    refine kGo.mono h (fun r W3 hr => ?_)
    obtain ⟨y3, rfl, h⟩ := hr
    exact g_iret gq116 rfl rfl h
  · replace h := h.2.2.2.2.2.2.2.2.1 hv
    refine g_switch 160 gq116 rfl c1 (by rw [hv]; rfl) ?_
    refine g_aload_n 161 gq116 rfl rfl rfl ?_
    refine g_virt 121 _ (i := 221) gq116 rfl rfl gq121 rfl rfl rfl rfl rfl rfl ?_
    refine g_aload_n 1 gq121 rfl rfl rfl ?_
    refine g_getI 4 gq121 rfl rfl rfl rfl rfl rfl ?_
    have c82 := h.1
    replace h := h.2
    refine g_if_ne 27 7 gq121 rfl rfl rfl c82 (fun c => ?_) (fun c => ?_)
    · replace h := h.1 c
      refine g_aload_n 28 gq121 rfl rfl rfl ?_
      refine g_getA 31 39 gq121 rfl rfl rfl rfl rfl rfl rfl ?_
      refine g_aret gq121 rfl rfl ?_
      refine g_virt 19 _ (i := 283) gq116 rfl rfl gq19 rfl rfl rfl rfl rfl rfl ?_
      refine kGo.mono h (fun r W4 hr => ?_)
      obtain ⟨y4, rfl, h⟩ := hr
      exact g_iret gq116 rfl rfl h
    · replace h := h.2 c
      refine g_aload_n 8 gq121 rfl rfl rfl ?_
      refine g_getA 11 39 gq121 rfl rfl rfl rfl rfl rfl rfl ?_
      refine g_aload_n 12 gq121 rfl rfl rfl ?_
      refine g_getA 15 13 gq121 rfl rfl rfl rfl rfl rfl rfl ?_
      refine g_aload_n 16 gq121 rfl rfl rfl ?_
      refine g_getA 19 17 gq121 rfl rfl rfl rfl rfl rfl rfl ?_
      refine g_virt 13 _ (i := 262) gq121 rfl rfl gq13 rfl rfl rfl rfl rfl rfl ?_
      refine kGo.mono h (fun r W5 hr => ?_)
      obtain ⟨rfl, h⟩ := hr
      refine g_aload_n 23 gq121 rfl rfl rfl ?_
      refine g_iconst 24 gq121 rfl rfl ?_
      refine g_putZ 27 gq121 rfl rfl rfl rfl rfl rfl rfl rfl (by omega) ?_
      refine g_aload_n 28 gq121 rfl rfl rfl ?_
      refine g_getA 31 39 gq121 rfl rfl rfl rfl rfl rfl rfl ?_
      refine g_aret gq121 rfl rfl ?_
      refine g_virt 19 _ (i := 283) gq116 rfl rfl gq19 rfl rfl rfl rfl rfl rfl ?_
      refine kGo.mono h (fun r W6 hr => ?_)
      obtain ⟨y6, rfl, h⟩ := hr
      exact g_iret gq116 rfl rfl h
  · replace h := h.2.2.2.2.2.2.2.2.2.1 hv
    refine g_switch 168 gq116 rfl c1 (by rw [hv]; rfl) ?_
    refine g_aload_n 169 gq116 rfl rfl rfl ?_
    refine g_getA 172 13 gq116 rfl rfl rfl rfl rfl rfl rfl ?_
    refine g_virt 64 _ (i := 286) gq116 rfl rfl gq64 rfl rfl rfl rfl rfl rfl ?_
    refine kGo.mono h (fun r W7 hr => ?_)
    obtain ⟨y7, rfl, h⟩ := hr
    exact g_iret gq116 rfl rfl h
  · replace h := h.2.2.2.2.2.2.2.2.2.2.1 hv
    refine g_switch 176 gq116 rfl c1 (by rw [hv]; rfl) ?_
    refine g_aload_n 177 gq116 rfl rfl rfl ?_
    refine g_getA 180 17 gq116 rfl rfl rfl rfl rfl rfl rfl ?_
    refine g_iconst 181 gq116 rfl rfl ?_
    refine g_virt 30 _ (i := 289) gq116 rfl rfl gq30 rfl rfl rfl rfl rfl rfl ?_
    refine kGo.mono h (fun r W8 hr => ?_)
    obtain ⟨y8, rfl, h⟩ := hr
    exact g_iret gq116 rfl rfl h
  · replace h := h.2.2.2.2.2.2.2.2.2.2.2.1 hv
    refine g_switch 185 gq116 rfl c1 (by rw [hv]; rfl) ?_
    refine g_aload_n 186 gq116 rfl rfl rfl ?_
    refine g_getA 189 17 gq116 rfl rfl rfl rfl rfl rfl rfl ?_
    refine g_iconst 190 gq116 rfl rfl ?_
    refine g_virt 30 _ (i := 289) gq116 rfl rfl gq30 rfl rfl rfl rfl rfl rfl ?_
    refine kGo.mono h (fun r W9 hr => ?_)
    obtain ⟨y9, rfl, h⟩ := hr
    exact g_iret gq116 rfl rfl h
  · replace h := h.2.2.2.2.2.2.2.2.2.2.2.2.1 hv
    refine g_switch 194 gq116 rfl c1 (by rw [hv]; rfl) ?_
    refine g_aload_n 195 gq116 rfl rfl rfl ?_
    refine g_getA 198 17 gq116 rfl rfl rfl rfl rfl rfl rfl ?_
    refine g_iconst 199 gq116 rfl rfl ?_
    refine g_virt 30 _ (i := 289) gq116 rfl rfl gq30 rfl rfl rfl rfl rfl rfl ?_
    refine kGo.mono h (fun r W10 hr => ?_)
    obtain ⟨y10, rfl, h⟩ := hr
    exact g_iret gq116 rfl rfl h
  · replace h := h.2.2.2.2.2.2.2.2.2.2.2.2.2.1 hv
    refine g_switch 203 gq116 rfl c1 (by rw [hv]; rfl) ?_
    refine g_aload_n 204 gq116 rfl rfl rfl ?_
    refine g_getA 207 13 gq116 rfl rfl rfl rfl rfl rfl rfl ?_
    refine g_virt 65 _ (i := 292) gq116 rfl rfl gq65 rfl rfl rfl rfl rfl rfl ?_
    refine kGo.mono h (fun r W11 hr => ?_)
    obtain ⟨y11, rfl, h⟩ := hr
    have c155 := h.1
    replace h := h.2
    refine g_if_eq 217 213 gq116 rfl rfl rfl c155 (fun c => ?_) (fun c => ?_)
    · replace h := h.1 c
      refine g_iconst 218 gq116 rfl rfl ?_
      exact g_iret gq116 rfl rfl h
    · replace h := h.2 c
      refine g_iconst 214 gq116 rfl rfl ?_
      refine g_goto 218 gq116 rfl rfl ?_
      exact g_iret gq116 rfl rfl h
  · replace h := h.2.2.2.2.2.2.2.2.2.2.2.2.2.2.1 hv
    refine g_switch 219 gq116 rfl c1 (by rw [hv]; rfl) ?_
    refine g_aload_n 220 gq116 rfl rfl rfl ?_
    refine g_getA 223 1 gq116 rfl rfl rfl rfl rfl rfl rfl ?_
    refine g_getI 226 gq116 rfl rfl rfl rfl rfl rfl ?_
    exact g_iret gq116 rfl rfl h
  · replace h := h.2.2.2.2.2.2.2.2.2.2.2.2.2.2.2.1 hv
    refine g_switch 227 gq116 rfl c1 (by rw [hv]; rfl) ?_
    refine g_aload_n 228 gq116 rfl rfl rfl ?_
    refine g_getA 231 45 gq116 rfl rfl rfl rfl rfl rfl rfl ?_
    refine g_getI 234 gq116 rfl rfl rfl rfl rfl rfl ?_
    exact g_iret gq116 rfl rfl h
  · replace h := h.2.2.2.2.2.2.2.2.2.2.2.2.2.2.2.2 hv
    refine g_switch 235 gq116 rfl c1 (by rw [hv]; rfl) ?_
    refine g_aload_n 236 gq116 rfl rfl rfl ?_
    refine g_virt 119 _ (i := 299) gq116 rfl rfl gq119 rfl rfl rfl rfl rfl rfl ?_
    refine kGo.mono h (fun r W12 hr => ?_)
    obtain ⟨y12, rfl, h⟩ := hr
    exact g_iret gq116 rfl rfl h
set_option maxRecDepth 10000 in
theorem b117_0 {xs : Nat → Int32} {Lx d : Nat} {V : km_V} {Q : Option Value → km_V → Prop} 
    (h : kCV xs Lx (d + 2) 21 3 [.ref 17, .ref 13] V (fun W1 =>
  kCV xs Lx (d + 2) 1 6 [.ref 28, .ref 13] W1 (fun W2 =>
  Q none (up (up W2 0 13 0) 0 14 0)))) :
    kGo xs Lx (d + 3) 117 0 [some (.ref 0)] [] V Q := by
  refine g_aload_n 1 gq117 rfl rfl rfl ?_
  refine g_getA 4 17 gq117 rfl rfl rfl rfl rfl rfl rfl ?_
  refine g_aload_n 5 gq117 rfl rfl rfl ?_
  refine g_getA 8 13 gq117 rfl rfl rfl rfl rfl rfl rfl ?_
  refine g_virt 21 _ (i := 259) gq117 rfl rfl gq21 rfl rfl rfl rfl rfl rfl ?_
  refine kGo.mono h (fun r W1 hr => ?_)
  obtain ⟨rfl, h⟩ := hr
  refine g_aload_n 12 gq117 rfl rfl rfl ?_
  refine g_getA 15 28 gq117 rfl rfl rfl rfl rfl rfl rfl ?_
  refine g_aload_n 16 gq117 rfl rfl rfl ?_
  refine g_getA 19 13 gq117 rfl rfl rfl rfl rfl rfl rfl ?_
  refine g_virt 1 _ (i := 302) gq117 rfl rfl gq1 rfl rfl rfl rfl rfl rfl ?_
  refine kGo.mono h (fun r W2 hr => ?_)
  obtain ⟨rfl, h⟩ := hr
  refine g_aload_n 23 gq117 rfl rfl rfl ?_
  refine g_iconst 24 gq117 rfl rfl ?_
  refine g_putZ 27 gq117 rfl rfl rfl rfl rfl rfl rfl rfl (by omega) ?_
  refine g_aload_n 28 gq117 rfl rfl rfl ?_
  refine g_iconst 29 gq117 rfl rfl ?_
  refine g_putZ 32 gq117 rfl rfl rfl rfl rfl rfl rfl rfl (by omega) ?_
  exact g_vret gq117 rfl rfl h
set_option maxRecDepth 10000 in
theorem b118_0 {xs : Nat → Int32} {Lx d : Nat} {V : km_V} {Q : Option Value → km_V → Prop} {a1 : Int} 
    (h : (kR a1) ∧ ((a1 < 0 →
    Q (some (kI 0)) V) ∧
   (0 ≤ a1 →
    ((3 ≤ a1 →
      Q (some (kI 0)) V) ∧
     (a1 < 3 →
      (0 ≤ a1 ∧ a1 < (3 : Nat)) ∧ (kR (V 208 (Int.toNat a1))) ∧ (((V 208 (Int.toNat a1)) = 0 →
        Q (some (kI 0)) V) ∧
       ((V 208 (Int.toNat a1)) ≠ 0 →
        Q (some (kI 1)) V))))))) :
    kGo xs Lx (d + 0) 118 0 [some (.ref 0), some (kI a1)] [] V Q := by
  refine g_iload_n 1 gq118 rfl rfl rfl ?_
  have c1 := h.1
  replace h := h.2
  refine g_if_lt 22 4 gq118 rfl rfl rfl c1 (fun c => ?_) (fun c => ?_)
  · replace h := h.1 c
    refine g_iconst 23 gq118 rfl rfl ?_
    exact g_zret gq118 rfl rfl (by omega) h
  · replace h := h.2 c
    refine g_iload_n 5 gq118 rfl rfl rfl ?_
    refine g_iconst 6 gq118 rfl rfl ?_
    refine g_icmp_ge 22 9 gq118 rfl rfl rfl c1 (by omega) (fun c => ?_) (fun c => ?_)
    · replace h := h.1 c
      refine g_iconst 23 gq118 rfl rfl ?_
      exact g_zret gq118 rfl rfl (by omega) h
    · replace h := h.2 c
      refine g_aload_n 10 gq118 rfl rfl rfl ?_
      refine g_getA 13 208 gq118 rfl rfl rfl rfl rfl rfl rfl ?_
      refine g_iload_n 14 gq118 rfl rfl rfl ?_
      have c18 := h.1
      replace h := h.2
      refine g_zald 15 gq118 rfl rfl rfl c18 ?_
      have c21 := h.1
      replace h := h.2
      refine g_if_eq 22 18 gq118 rfl rfl rfl c21 (fun c => ?_) (fun c => ?_)
      · replace h := h.1 c
        refine g_iconst 23 gq118 rfl rfl ?_
        exact g_zret gq118 rfl rfl (by omega) h
      · replace h := h.2 c
        refine g_iconst 19 gq118 rfl rfl ?_
        refine g_goto 23 gq118 rfl rfl ?_
        exact g_zret gq118 rfl rfl (by omega) h
set_option maxRecDepth 10000 in
theorem b119_0 {xs : Nat → Int32} {Lx d : Nat} {V : km_V} {Q : Option Value → km_V → Prop} 
    (h : kGo xs Lx (d + 0) 119 4 [some (.ref 0), some (kI 0), some (kI 0)] [] V Q) :
    kGo xs Lx (d + 0) 119 0 [some (.ref 0), none, none] [] V Q := by
  refine g_iconst 1 gq119 rfl rfl ?_
  refine g_istore_n 2 gq119 rfl rfl rfl ?_
  refine g_iconst 3 gq119 rfl rfl ?_
  refine g_istore_n 4 gq119 rfl rfl rfl ?_
  exact kGo.weak (km_Le.s (km_Le.s (km_Le.s km_Le.nil))) h
set_option maxRecDepth 10000 in
theorem b119_4 {xs : Nat → Int32} {Lx d : Nat} {V : km_V} {Q : Option Value → km_V → Prop} {x1 x2 : Int} 
    (h : (kR x2) ∧ ((3 ≤ x2 →
    Q (some (kI x1)) V) ∧
   (x2 < 3 →
    (0 ≤ x2 ∧ x2 < (3 : Nat)) ∧ (kR (V 208 (Int.toNat x2))) ∧ (((V 208 (Int.toNat x2)) = 0 →
      kGo xs Lx (d + 0) 119 4 [some (.ref 0), some (kI (x1 + 0)), some (kI (x2 + 1))] [] V Q) ∧
     ((V 208 (Int.toNat x2)) ≠ 0 →
      kGo xs Lx (d + 0) 119 4 [some (.ref 0), some (kI (x1 + 1)), some (kI (x2 + 1))] [] V Q))))) :
    kGo xs Lx (d + 0) 119 4 [some (.ref 0), some (kI x1), some (kI x2)] [] V Q := by
  refine g_iload_n 5 gq119 rfl rfl rfl ?_
  refine g_iconst 6 gq119 rfl rfl ?_
  have c2 := h.1
  replace h := h.2
  refine g_icmp_ge 32 9 gq119 rfl rfl rfl c2 (by omega) (fun c => ?_) (fun c => ?_)
  · replace h := h.1 c
    refine g_iload_n 33 gq119 rfl rfl rfl ?_
    exact g_iret gq119 rfl rfl h
  · replace h := h.2 c
    refine g_iload_n 10 gq119 rfl rfl rfl ?_
    refine g_aload_n 11 gq119 rfl rfl rfl ?_
    refine g_getA 14 208 gq119 rfl rfl rfl rfl rfl rfl rfl ?_
    refine g_iload_n 15 gq119 rfl rfl rfl ?_
    have c13 := h.1
    replace h := h.2
    refine g_zald 16 gq119 rfl rfl rfl c13 ?_
    have c16 := h.1
    replace h := h.2
    refine g_if_eq 23 19 gq119 rfl rfl rfl c16 (fun c => ?_) (fun c => ?_)
    · replace h := h.1 c
      refine g_iconst 24 gq119 rfl rfl ?_
      refine g_iadd 25 gq119 rfl rfl ?_
      refine g_istore_n 26 gq119 rfl rfl rfl ?_
      refine g_iinc 29 gq119 rfl rfl rfl rfl ?_
      refine g_goto 4 gq119 rfl rfl ?_
      exact kGo.weak (km_Le.s (km_Le.s (km_Le.s km_Le.nil))) h
    · replace h := h.2 c
      refine g_iconst 20 gq119 rfl rfl ?_
      refine g_goto 24 gq119 rfl rfl ?_
      refine g_iadd 25 gq119 rfl rfl ?_
      refine g_istore_n 26 gq119 rfl rfl rfl ?_
      refine g_iinc 29 gq119 rfl rfl rfl rfl ?_
      refine g_goto 4 gq119 rfl rfl ?_
      exact kGo.weak (km_Le.s (km_Le.s (km_Le.s km_Le.nil))) h
set_option maxRecDepth 10000 in
theorem b120_0 {xs : Nat → Int32} {Lx d : Nat} {V : km_V} {Q : Option Value → km_V → Prop} {a1 : Int} 
    (h : (kR a1) ∧ ((a1 < 0 →
    Q (some (kI 0)) V) ∧
   (0 ≤ a1 →
    (kR (V 17 7)) ∧ (((V 17 7) ≤ a1 →
      Q (some (kI 0)) V) ∧
     (a1 < (V 17 7) →
      (0 ≤ a1 ∧ a1 < (32 : Nat)) ∧ Q (some (kI (V 27 (Int.toNat a1)))) V))))) :
    kGo xs Lx (d + 0) 120 0 [some (.ref 0), some (kI a1)] [] V Q := by
  refine g_iload_n 1 gq120 rfl rfl rfl ?_
  have c1 := h.1
  replace h := h.2
  refine g_if_lt 27 4 gq120 rfl rfl rfl c1 (fun c => ?_) (fun c => ?_)
  · replace h := h.1 c
    refine g_iconst 28 gq120 rfl rfl ?_
    exact g_iret gq120 rfl rfl h
  · replace h := h.2 c
    refine g_iload_n 5 gq120 rfl rfl rfl ?_
    refine g_aload_n 6 gq120 rfl rfl rfl ?_
    refine g_getA 9 17 gq120 rfl rfl rfl rfl rfl rfl rfl ?_
    refine g_getI 12 gq120 rfl rfl rfl rfl rfl rfl ?_
    have c12 := h.1
    replace h := h.2
    refine g_icmp_ge 27 15 gq120 rfl rfl rfl c1 c12 (fun c => ?_) (fun c => ?_)
    · replace h := h.1 c
      refine g_iconst 28 gq120 rfl rfl ?_
      exact g_iret gq120 rfl rfl h
    · replace h := h.2 c
      refine g_aload_n 16 gq120 rfl rfl rfl ?_
      refine g_getA 19 17 gq120 rfl rfl rfl rfl rfl rfl rfl ?_
      refine g_getA 22 27 gq120 rfl rfl rfl rfl rfl rfl rfl ?_
      refine g_iload_n 23 gq120 rfl rfl rfl ?_
      have c23 := h.1
      replace h := h.2
      refine g_iald 24 gq120 rfl rfl rfl c23 ?_
      refine g_goto 28 gq120 rfl rfl ?_
      exact g_iret gq120 rfl rfl h
set_option maxRecDepth 10000 in
theorem b121_0 {xs : Nat → Int32} {Lx d : Nat} {V : km_V} {Q : Option Value → km_V → Prop} 
    (h : (kR (V 0 13)) ∧ (((V 0 13) ≠ 0 →
    Q (some (.ref 39)) V) ∧
   ((V 0 13) = 0 →
    kCV xs Lx (d + 3) 13 6 [.ref 39, .ref 13, .ref 17] V (fun W1 =>
    Q (some (.ref 39)) (up W1 0 13 1))))) :
    kGo xs Lx (d + 4) 121 0 [some (.ref 0)] [] V Q := by
  refine g_aload_n 1 gq121 rfl rfl rfl ?_
  refine g_getI 4 gq121 rfl rfl rfl rfl rfl rfl ?_
  have c2 := h.1
  replace h := h.2
  refine g_if_ne 27 7 gq121 rfl rfl rfl c2 (fun c => ?_) (fun c => ?_)
  · replace h := h.1 c
    refine g_aload_n 28 gq121 rfl rfl rfl ?_
    refine g_getA 31 39 gq121 rfl rfl rfl rfl rfl rfl rfl ?_
    exact g_aret gq121 rfl rfl h
  · replace h := h.2 c
    refine g_aload_n 8 gq121 rfl rfl rfl ?_
    refine g_getA 11 39 gq121 rfl rfl rfl rfl rfl rfl rfl ?_
    refine g_aload_n 12 gq121 rfl rfl rfl ?_
    refine g_getA 15 13 gq121 rfl rfl rfl rfl rfl rfl rfl ?_
    refine g_aload_n 16 gq121 rfl rfl rfl ?_
    refine g_getA 19 17 gq121 rfl rfl rfl rfl rfl rfl rfl ?_
    refine g_virt 13 _ (i := 262) gq121 rfl rfl gq13 rfl rfl rfl rfl rfl rfl ?_
    refine kGo.mono h (fun r W1 hr => ?_)
    obtain ⟨rfl, h⟩ := hr
    refine g_aload_n 23 gq121 rfl rfl rfl ?_
    refine g_iconst 24 gq121 rfl rfl ?_
    refine g_putZ 27 gq121 rfl rfl rfl rfl rfl rfl rfl rfl (by omega) ?_
    refine g_aload_n 28 gq121 rfl rfl rfl ?_
    refine g_getA 31 39 gq121 rfl rfl rfl rfl rfl rfl rfl ?_
    exact g_aret gq121 rfl rfl h
set_option maxRecDepth 10000 in
theorem b122_0 {xs : Nat → Int32} {Lx d : Nat} {V : km_V} {Q : Option Value → km_V → Prop} 
    (h : kGo xs Lx (d + 5) 122 2 [some (.ref 0), some (kI 0), none] [] V Q) :
    kGo xs Lx (d + 5) 122 0 [some (.ref 0), none, none] [] V Q := by
  refine g_iconst 1 gq122 rfl rfl ?_
  refine g_istore_n 2 gq122 rfl rfl rfl ?_
  exact kGo.weak (km_Le.s (km_Le.s (km_Le.n km_Le.nil))) h
set_option maxRecDepth 10000 in
theorem b122_2 {xs : Nat → Int32} {Lx d : Nat} {V : km_V} {Q : Option Value → km_V → Prop} {x1 : Int} 
    (h : (kR x1) ∧ (kR (V 13 1)) ∧ (((V 13 1) < x1 →
    Q (some (kI (-2))) V) ∧
   (x1 ≤ (V 13 1) →
    kGo xs Lx (d + 5) 122 15 [some (.ref 0), some (kI x1), some (kI 0)] [] V Q))) :
    kGo xs Lx (d + 5) 122 2 [some (.ref 0), some (kI x1), none] [] V Q := by
  refine g_iload_n 3 gq122 rfl rfl rfl ?_
  refine g_aload_n 4 gq122 rfl rfl rfl ?_
  refine g_getA 7 13 gq122 rfl rfl rfl rfl rfl rfl rfl ?_
  refine g_getI 10 gq122 rfl rfl rfl rfl rfl rfl ?_
  have c4 := h.1
  replace h := h.2
  have c6 := h.1
  replace h := h.2
  refine g_icmp_gt 56 13 gq122 rfl rfl rfl c4 c6 (fun c => ?_) (fun c => ?_)
  · replace h := h.1 c
    refine g_bipush 58 gq122 rfl rfl rfl ?_
    exact g_iret gq122 rfl rfl h
  · replace h := h.2 c
    refine g_iconst 14 gq122 rfl rfl ?_
    refine g_istore_n 15 gq122 rfl rfl rfl ?_
    exact kGo.weak (km_Le.s (km_Le.s (km_Le.s km_Le.nil))) h
set_option maxRecDepth 10000 in
theorem b122_15 {xs : Nat → Int32} {Lx d : Nat} {V : km_V} {Q : Option Value → km_V → Prop} {x1 x2 : Int} 
    (h : (0 ≤ (V 13 1) ∧ (V 13 1) < 32) ∧ (kR x2) ∧ (kR ((1 * ((2 ^ Int.toNat (V 13 1) : Nat) : Int)) - 1)) ∧ ((((1 * ((2 ^ Int.toNat (V 13 1) : Nat) : Int)) - 1) < x2 →
    kGo xs Lx (d + 5) 122 2 [some (.ref 0), some (kI (x1 + 1)), none] [] V Q) ∧
   (x2 ≤ ((1 * ((2 ^ Int.toNat (V 13 1) : Nat) : Int)) - 1) →
    ((0 ≤ x2 ∧ x2 < 256)) ∧ (kR (kbit x2)) ∧ (kR x1) ∧ (((kbit x2) ≠ x1 →
      kGo xs Lx (d + 5) 122 15 [some (.ref 0), some (kI x1), some (kI (x2 + 1))] [] V Q) ∧
     ((kbit x2) = x1 →
      kCI xs Lx (d + 4) 123 2 [.ref 0, kI x2] V (fun y1 W1 =>
      (kR y1) ∧ ((y1 = 0 →
        kGo xs Lx (d + 5) 122 15 [some (.ref 0), some (kI x1), some (kI (x2 + 1))] [] W1 Q) ∧
       (y1 ≠ 0 →
        Q (some (kI x2)) W1)))))))) :
    kGo xs Lx (d + 5) 122 15 [some (.ref 0), some (kI x1), some (kI x2)] [] V Q := by
  refine g_iload_n 16 gq122 rfl rfl rfl ?_
  refine g_aload_n 17 gq122 rfl rfl rfl ?_
  refine g_getA 20 13 gq122 rfl rfl rfl rfl rfl rfl rfl ?_
  refine g_virt 60 _ (i := 148) gq122 rfl rfl gq60 rfl rfl rfl rfl rfl rfl ?_
  refine g_iconst 1 gq60 rfl rfl ?_
  refine g_aload_n 2 gq60 rfl rfl rfl ?_
  refine g_getI 5 gq60 rfl rfl rfl rfl rfl rfl ?_
  have c7 := h.1
  replace h := h.2
  refine g_ishl 6 gq60 rfl rfl c7 ?_
  refine g_iconst 7 gq60 rfl rfl ?_
  refine g_isub 8 gq60 rfl rfl ?_
  refine g_iret gq60 rfl rfl ?_
  have c13 := h.1
  replace h := h.2
  have c15 := h.1
  replace h := h.2
  refine g_icmp_gt 50 26 gq122 rfl rfl rfl c13 c15 (fun c => ?_) (fun c => ?_)
  · replace h := h.1 c
    refine g_iinc 53 gq122 rfl rfl rfl rfl ?_
    refine g_goto 2 gq122 rfl rfl ?_
    exact kGo.weak (km_Le.s (km_Le.s (km_Le.n km_Le.nil))) h
  · replace h := h.2 c
    refine g_iload_n 27 gq122 rfl rfl rfl ?_
    have c24 := h.1
    replace h := h.2
    refine g_static 218 _ (i := 247) gq122 rfl rfl gq218 rfl rfl rfl rfl ?_
    refine sp_bit c24 ?_
    refine g_iload_n 31 gq122 rfl rfl rfl ?_
    have c29 := h.1
    replace h := h.2
    have c31 := h.1
    replace h := h.2
    refine g_icmp_ne 44 34 gq122 rfl rfl rfl c29 c31 (fun c => ?_) (fun c => ?_)
    · replace h := h.1 c
      refine g_iinc 47 gq122 rfl rfl rfl rfl ?_
      refine g_goto 15 gq122 rfl rfl ?_
      exact kGo.weak (km_Le.s (km_Le.s (km_Le.s km_Le.nil))) h
    · replace h := h.2 c
      refine g_aload_n 35 gq122 rfl rfl rfl ?_
      refine g_iload_n 36 gq122 rfl rfl rfl ?_
      refine g_virt 123 _ (i := 308) gq122 rfl rfl gq123 rfl rfl rfl rfl rfl rfl ?_
      refine kGo.mono h (fun r W1 hr => ?_)
      obtain ⟨y1, rfl, h⟩ := hr
      have c44 := h.1
      replace h := h.2
      refine g_if_eq 44 42 gq122 rfl rfl rfl c44 (fun c => ?_) (fun c => ?_)
      · replace h := h.1 c
        refine g_iinc 47 gq122 rfl rfl rfl rfl ?_
        refine g_goto 15 gq122 rfl rfl ?_
        exact kGo.weak (km_Le.s (km_Le.s (km_Le.s km_Le.nil))) h
      · replace h := h.2 c
        refine g_iload_n 43 gq122 rfl rfl rfl ?_
        exact g_iret gq122 rfl rfl h
set_option maxRecDepth 10000 in
theorem b123_0 {xs : Nat → Int32} {Lx d : Nat} {V : km_V} {Q : Option Value → km_V → Prop} {a1 : Int} 
    (h : kCV xs Lx (d + 3) 57 2 [.ref 209, .ref 13] V (fun W1 =>
  kCV xs Lx (d + 3) 66 3 [.ref 209, kI a1] W1 (fun W2 =>
  kCI xs Lx (d + 3) 73 5 [.ref 209, .ref 213] W2 (fun y3 W3 =>
  (kR (W3 209 1)) ∧ (((W3 209 1) ≠ 0 →
    Q (some (kI 0)) W3) ∧
   ((W3 209 1) = 0 →
    Q (some (kI 1)) W3)))))) :
    kGo xs Lx (d + 4) 123 0 [some (.ref 0), some (kI a1)] [] V Q := by
  refine g_aload_n 1 gq123 rfl rfl rfl ?_
  refine g_getA 4 209 gq123 rfl rfl rfl rfl rfl rfl rfl ?_
  refine g_aload_n 5 gq123 rfl rfl rfl ?_
  refine g_getA 8 13 gq123 rfl rfl rfl rfl rfl rfl rfl ?_
  refine g_virt 57 _ (i := 106) gq123 rfl rfl gq57 rfl rfl rfl rfl rfl rfl ?_
  refine kGo.mono h (fun r W1 hr => ?_)
  obtain ⟨rfl, h⟩ := hr
  refine g_aload_n 12 gq123 rfl rfl rfl ?_
  refine g_getA 15 209 gq123 rfl rfl rfl rfl rfl rfl rfl ?_
  refine g_iload_n 16 gq123 rfl rfl rfl ?_
  refine g_virt 66 _ (i := 151) gq123 rfl rfl gq66 rfl rfl rfl rfl rfl rfl ?_
  refine kGo.mono h (fun r W2 hr => ?_)
  obtain ⟨rfl, h⟩ := hr
  refine g_aload_n 20 gq123 rfl rfl rfl ?_
  refine g_getA 23 209 gq123 rfl rfl rfl rfl rfl rfl rfl ?_
  refine g_aload_n 24 gq123 rfl rfl rfl ?_
  refine g_getA 27 213 gq123 rfl rfl rfl rfl rfl rfl rfl ?_
  refine g_virt 73 _ (i := 141) gq123 rfl rfl gq73 rfl rfl rfl rfl rfl rfl ?_
  refine kGo.mono h (fun r W3 hr => ?_)
  obtain ⟨y3, rfl, h⟩ := hr
  refine g_pop 31 gq123 rfl rfl rfl ?_
  refine g_aload_n 32 gq123 rfl rfl rfl ?_
  refine g_getA 35 209 gq123 rfl rfl rfl rfl rfl rfl rfl ?_
  refine g_getI 38 gq123 rfl rfl rfl rfl rfl rfl ?_
  have c24 := h.1
  replace h := h.2
  refine g_if_ne 45 41 gq123 rfl rfl rfl c24 (fun c => ?_) (fun c => ?_)
  · replace h := h.1 c
    refine g_iconst 46 gq123 rfl rfl ?_
    exact g_zret gq123 rfl rfl (by omega) h
  · replace h := h.2 c
    refine g_iconst 42 gq123 rfl rfl ?_
    refine g_goto 46 gq123 rfl rfl ?_
    exact g_zret gq123 rfl rfl (by omega) h

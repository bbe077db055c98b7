set_option maxRecDepth 10000 in
theorem b41_0 {xs : Nat → Int32} {Lx d : Nat} {V : km_V} {Q : Option Value → km_V → Prop} {r2 : Nat} (hr2 : km_sh[r2]? = some (5, 5)) {r3 : Nat} (hr3 : km_sh[r3]? = some (2, 11))
    (h : kCI xs Lx (d + 4) 43 5 [.ref 3, .ref 1] (up (up (up (up V 3 2 0) 3 3 0) 3 6 0) 3 7 0) (fun y1 W1 =>
  (kR y1) ∧ ((y1 ≠ 0 →
    (kR (W1 3 2)) ∧ (((W1 3 2) = 0 →
      kCI xs Lx (d + 4) 50 3 [.ref 3] W1 (fun y2 W2 =>
      (kR y2) ∧ ((y2 ≠ 0 →
        kCV xs Lx (d + 4) 52 3 [.ref 3, .ref r2] W2 (fun W3 =>
        kCV xs Lx (d + 4) 21 3 [.ref r3, .ref r2] W3 (fun W4 =>
        kCI xs Lx (d + 4) 34 2 [.ref r3, .ref r2] W4 (fun y5 W5 =>
        (kR y5) ∧ ((y5 ≠ 0 →
          Q (some (kI 1)) W5) ∧
         (y5 = 0 →
          Q (some (kI 0)) (up (up W5 3 0 6) 3 1 (W5 1 0)))))))) ∧
       (y2 = 0 →
        Q (some (kI 0)) W2)))) ∧
     ((W1 3 2) ≠ 0 →
      kCI xs Lx (d + 4) 53 2 [.ref 3] W1 (fun y6 W6 =>
      (kR y6) ∧ ((y6 ≠ 0 →
        kCV xs Lx (d + 4) 54 9 [.ref 3, .ref r2] W6 (fun W7 =>
        kCV xs Lx (d + 4) 21 3 [.ref r3, .ref r2] W7 (fun W8 =>
        kCI xs Lx (d + 4) 34 2 [.ref r3, .ref r2] W8 (fun y9 W9 =>
        (kR y9) ∧ ((y9 ≠ 0 →
          Q (some (kI 1)) W9) ∧
         (y9 = 0 →
          Q (some (kI 0)) (up (up W9 3 0 6) 3 1 (W9 1 0)))))))) ∧
       (y6 = 0 →
        Q (some (kI 0)) W6)))))) ∧
   (y1 = 0 →
    Q (some (kI 0)) W1)))) :
    kGo xs Lx (d + 5) 41 0 [some (.ref 3), some (.ref 1), some (.ref r2), some (.ref r3)] [] V Q := by
  refine g_aload_n 1 gq41 rfl rfl rfl ?_
  refine g_iconst 2 gq41 rfl rfl ?_
  refine g_putZ 5 gq41 rfl rfl rfl rfl rfl rfl rfl rfl (by omega) ?_
  refine g_aload_n 6 gq41 rfl rfl rfl ?_
  refine g_iconst 7 gq41 rfl rfl ?_
  refine g_putI 10 gq41 rfl rfl rfl rfl rfl rfl rfl rfl ?_
  refine g_aload_n 11 gq41 rfl rfl rfl ?_
  refine g_iconst 12 gq41 rfl rfl ?_
  refine g_putI 15 gq41 rfl rfl rfl rfl rfl rfl rfl rfl ?_
  refine g_aload_n 16 gq41 rfl rfl rfl ?_
  refine g_iconst 17 gq41 rfl rfl ?_
  refine g_putI 20 gq41 rfl rfl rfl rfl rfl rfl rfl rfl ?_
  refine g_aload_n 21 gq41 rfl rfl rfl ?_
  refine g_aload_n 22 gq41 rfl rfl rfl ?_
  refine g_virt 43 _ (i := 54) gq41 rfl rfl gq43 rfl rfl rfl rfl rfl rfl ?_
  refine kGo.mono h (fun r W1 hr => ?_)
  obtain ⟨y1, rfl, h⟩ := hr
  have c17 := h.1
  replace h := h.2
  refine g_if_ne 30 28 gq41 rfl rfl rfl c17 (fun c => ?_) (fun c => ?_)
  · replace h := h.1 c
    refine g_aload_n 31 gq41 rfl rfl rfl ?_
    refine g_getI 34 gq41 rfl rfl rfl rfl rfl rfl ?_
    have c23 := h.1
    replace h := h.2
    refine g_if_eq 54 37 gq41 rfl rfl rfl c23 (fun c => ?_) (fun c => ?_)
    · replace h := h.1 c
      refine g_aload_n 55 gq41 rfl rfl rfl ?_
      refine g_virt 50 _ (i := 66) gq41 rfl rfl gq50 rfl rfl rfl rfl rfl rfl ?_
      refine kGo.mono h (fun r W2 hr => ?_)
      obtain ⟨y2, rfl, h⟩ := hr
      have c31 := h.1
      replace h := h.2
      refine g_if_ne 63 61 gq41 rfl rfl rfl c31 (fun c => ?_) (fun c => ?_)
      · replace h := h.1 c
        refine g_aload_n 64 gq41 rfl rfl rfl ?_
        refine g_aload_n 65 gq41 rfl rfl rfl ?_
        refine g_virt 52 _ (i := 69) gq41 rfl rfl gq52 rfl rfl rfl rfl rfl rfl ?_
        refine kGo.mono h (fun r W3 hr => ?_)
        obtain ⟨rfl, h⟩ := hr
        refine g_aload_n 69 gq41 rfl rfl rfl ?_
        refine g_aload_n 70 gq41 rfl rfl rfl ?_
        refine g_virt 21 _ (i := 72) gq41 rfl rfl gq21 hr3 rfl rfl rfl rfl rfl ?_
        refine kGo.mono h (fun r W4 hr => ?_)
        obtain ⟨rfl, h⟩ := hr
        refine g_aload_n 74 gq41 rfl rfl rfl ?_
        refine g_aload_n 75 gq41 rfl rfl rfl ?_
        refine g_virt 34 _ (i := 77) gq41 rfl rfl gq34 hr3 rfl rfl rfl rfl rfl ?_
        refine kGo.mono h (fun r W5 hr => ?_)
        obtain ⟨y5, rfl, h⟩ := hr
        have c50 := h.1
        replace h := h.2
        refine g_if_ne 94 81 gq41 rfl rfl rfl c50 (fun c => ?_) (fun c => ?_)
        · replace h := h.1 c
          refine g_iconst 95 gq41 rfl rfl ?_
          refine g_goto 99 gq41 rfl rfl ?_
          exact g_zret gq41 rfl rfl (by omega) h
        · replace h := h.2 c
          refine g_aload_n 82 gq41 rfl rfl rfl ?_
          refine g_bipush 84 gq41 rfl rfl rfl ?_
          refine g_aload_n 85 gq41 rfl rfl rfl ?_
          refine g_getI 88 gq41 rfl rfl rfl rfl rfl rfl ?_
          refine g_virt 42 _ (i := 86) gq41 rfl rfl gq42 rfl rfl rfl rfl rfl rfl ?_
          refine g_aload_n 1 gq42 rfl rfl rfl ?_
          refine g_iload_n 2 gq42 rfl rfl rfl ?_
          refine g_putI 5 gq42 rfl rfl rfl rfl rfl rfl rfl rfl ?_
          refine g_aload_n 6 gq42 rfl rfl rfl ?_
          refine g_iload_n 7 gq42 rfl rfl rfl ?_
          refine g_putI 10 gq42 rfl rfl rfl rfl rfl rfl rfl rfl ?_
          refine g_iconst 11 gq42 rfl rfl ?_
          refine g_zret gq42 rfl rfl (by omega) ?_
          refine g_if_eq 98 94 gq41 rfl rfl rfl (by omega) (fun c => ?_) (fun c => ?_)
          rotate_left
          · exact absurd c (by decide)
          refine g_iconst 99 gq41 rfl rfl ?_
          exact g_zret gq41 rfl rfl (by omega) h
      · replace h := h.2 c
        refine g_iconst 62 gq41 rfl rfl ?_
        exact g_zret gq41 rfl rfl (by omega) h
    · replace h := h.2 c
      refine g_aload_n 38 gq41 rfl rfl rfl ?_
      refine g_virt 53 _ (i := 58) gq41 rfl rfl gq53 rfl rfl rfl rfl rfl rfl ?_
      refine kGo.mono h (fun r W6 hr => ?_)
      obtain ⟨y6, rfl, h⟩ := hr
      have c84 := h.1
      replace h := h.2
      refine g_if_ne 46 44 gq41 rfl rfl rfl c84 (fun c => ?_) (fun c => ?_)
      · replace h := h.1 c
        refine g_aload_n 47 gq41 rfl rfl rfl ?_
        refine g_aload_n 48 gq41 rfl rfl rfl ?_
        refine g_virt 54 _ (i := 62) gq41 rfl rfl gq54 rfl rfl rfl rfl rfl rfl ?_
        refine kGo.mono h (fun r W7 hr => ?_)
        obtain ⟨rfl, h⟩ := hr
        refine g_goto 68 gq41 rfl rfl ?_
        refine g_aload_n 69 gq41 rfl rfl rfl ?_
        refine g_aload_n 70 gq41 rfl rfl rfl ?_
        refine g_virt 21 _ (i := 72) gq41 rfl rfl gq21 hr3 rfl rfl rfl rfl rfl ?_
        refine kGo.mono h (fun r W8 hr => ?_)
        obtain ⟨rfl, h⟩ := hr
        refine g_aload_n 74 gq41 rfl rfl rfl ?_
        refine g_aload_n 75 gq41 rfl rfl rfl ?_
        refine g_virt 34 _ (i := 77) gq41 rfl rfl gq34 hr3 rfl rfl rfl rfl rfl ?_
        refine kGo.mono h (fun r W9 hr => ?_)
        obtain ⟨y9, rfl, h⟩ := hr
        have c104 := h.1
        replace h := h.2
        refine g_if_ne 94 81 gq41 rfl rfl rfl c104 (fun c => ?_) (fun c => ?_)
        · replace h := h.1 c
          refine g_iconst 95 gq41 rfl rfl ?_
          refine g_goto 99 gq41 rfl rfl ?_
          exact g_zret gq41 rfl rfl (by omega) h
        · replace h := h.2 c
          refine g_aload_n 82 gq41 rfl rfl rfl ?_
          refine g_bipush 84 gq41 rfl rfl rfl ?_
          refine g_aload_n 85 gq41 rfl rfl rfl ?_
          refine g_getI 88 gq41 rfl rfl rfl rfl rfl rfl ?_
          refine g_virt 42 _ (i := 86) gq41 rfl rfl gq42 rfl rfl rfl rfl rfl rfl ?_
          refine g_aload_n 1 gq42 rfl rfl rfl ?_
          refine g_iload_n 2 gq42 rfl rfl rfl ?_
          refine g_putI 5 gq42 rfl rfl rfl rfl rfl rfl rfl rfl ?_
          refine g_aload_n 6 gq42 rfl rfl rfl ?_
          refine g_iload_n 7 gq42 rfl rfl rfl ?_
          refine g_putI 10 gq42 rfl rfl rfl rfl rfl rfl rfl rfl ?_
          refine g_iconst 11 gq42 rfl rfl ?_
          refine g_zret gq42 rfl rfl (by omega) ?_
          refine g_if_eq 98 94 gq41 rfl rfl rfl (by omega) (fun c => ?_) (fun c => ?_)
          rotate_left
          · exact absurd c (by decide)
          refine g_iconst 99 gq41 rfl rfl ?_
          exact g_zret gq41 rfl rfl (by omega) h
      · replace h := h.2 c
        refine g_iconst 45 gq41 rfl rfl ?_
        exact g_zret gq41 rfl rfl (by omega) h
  · replace h := h.2 c
    refine g_iconst 29 gq41 rfl rfl ?_
    exact g_zret gq41 rfl rfl (by omega) h
set_option maxRecDepth 10000 in
theorem b42_0 {xs : Nat → Int32} {Lx d : Nat} {V : km_V} {Q : Option Value → km_V → Prop} {a1 a2 : Int} 
    (h : Q (some (kI 0)) (up (up V 3 0 a1) 3 1 a2)) :
    kGo xs Lx (d + 0) 42 0 [some (.ref 3), some (kI a1), some (kI a2)] [] V Q := by
  refine g_aload_n 1 gq42 rfl rfl rfl ?_
  refine g_iload_n 2 gq42 rfl rfl rfl ?_
  refine g_putI 5 gq42 rfl rfl rfl rfl rfl rfl rfl rfl ?_
  refine g_aload_n 6 gq42 rfl rfl rfl ?_
  refine g_iload_n 7 gq42 rfl rfl rfl ?_
  refine g_putI 10 gq42 rfl rfl rfl rfl rfl rfl rfl rfl ?_
  refine g_iconst 11 gq42 rfl rfl ?_
  exact g_zret gq42 rfl rfl (by omega) h
set_option maxRecDepth 10000 in
theorem b43_0 {xs : Nat → Int32} {Lx d : Nat} {V : km_V} {Q : Option Value → km_V → Prop} 
    (h : kGo xs Lx (d + 4) 43 8 [some (.ref 3), some (.ref 1), some (kI 0), some (kI 0), none] [] (up V 1 4 0) Q) :
    kGo xs Lx (d + 4) 43 0 [some (.ref 3), some (.ref 1), none, none, none] [] V Q := by
  refine g_iconst 1 gq43 rfl rfl ?_
  refine g_istore_n 2 gq43 rfl rfl rfl ?_
  refine g_aload_n 3 gq43 rfl rfl rfl ?_
  refine g_virt 81 _ (i := 96) gq43 rfl rfl gq81 rfl rfl rfl rfl rfl rfl ?_
  refine g_aload_n 1 gq81 rfl rfl rfl ?_
  refine g_iconst 2 gq81 rfl rfl ?_
  refine g_putI 5 gq81 rfl rfl rfl rfl rfl rfl rfl rfl ?_
  refine g_vret gq81 rfl rfl ?_
  refine g_iconst 7 gq43 rfl rfl ?_
  refine g_istore_n 8 gq43 rfl rfl rfl ?_
  exact kGo.weak (km_Le.s (km_Le.s (km_Le.s (km_Le.s (km_Le.n km_Le.nil))))) h
set_option maxRecDepth 10000 in
theorem b43_8 {xs : Nat → Int32} {Lx d : Nat} {V : km_V} {Q : Option Value → km_V → Prop} {x2 x3 : Int} 
    (h : (kR x3) ∧ ((400 < x3 →
    Q (some (kI 0)) V) ∧
   (x3 ≤ 400 →
    kCV xs Lx (d + 3) 82 2 [.ref 1] V (fun W1 =>
    (kR (W1 1 1)) ∧ (((W1 1 1) ≠ 0 →
      kCI xs Lx (d + 3) 44 2 [kI x2, kI (W1 1 1)] W1 (fun y2 W2 =>
      (kR y2) ∧ ((y2 ≠ (-1) →
        ((x3 = 400 →
          Q (some (kI 0)) (up (up W2 3 0 2) 3 1 (W2 1 3))) ∧
         (x3 ≠ 400 →
          kCI xs Lx (d + 3) 45 3 [.ref 3, kI x2, .ref 1] W2 (fun y3 W3 =>
          (kR y3) ∧ ((y3 ≠ 0 →
            kGo xs Lx (d + 4) 43 8 [some (.ref 3), some (.ref 1), some (kI y2), some (kI (x3 + 1)), none] [] W3 Q) ∧
           (y3 = 0 →
            Q (some (kI 0)) (up (up W3 3 0 2) 3 1 (W3 1 3)))))))) ∧
       (y2 = (-1) →
        Q (some (kI 0)) (up (up W2 3 0 1) 3 1 (W2 1 3)))))) ∧
     ((W1 1 1) = 0 →
      (kR x2) ∧ ((x2 = 0 →
        Q (some (kI 1)) W1) ∧
       (x2 ≠ 0 →
        ((x2 = 4 →
          Q (some (kI 1)) W1) ∧
         (x2 ≠ 4 →
          ((x2 ≠ 8 →
            Q (some (kI 0)) (up (up W1 3 0 1) 3 1 (W1 1 0))) ∧
           (x2 = 8 →
            Q (some (kI 1)) W1)))))))))))) :
    kGo xs Lx (d + 4) 43 8 [some (.ref 3), some (.ref 1), some (kI x2), some (kI x3), none] [] V Q := by
  refine g_iload_n 9 gq43 rfl rfl rfl ?_
  refine g_sipush 12 gq43 rfl rfl rfl ?_
  have c2 := h.1
  replace h := h.2
  refine g_icmp_gt 132 15 gq43 rfl rfl rfl c2 (by omega) (fun c => ?_) (fun c => ?_)
  · replace h := h.1 c
    refine g_iconst 133 gq43 rfl rfl ?_
    exact g_zret gq43 rfl rfl (by omega) h
  · replace h := h.2 c
    refine g_aload_n 16 gq43 rfl rfl rfl ?_
    refine g_virt 82 _ (i := 99) gq43 rfl rfl gq82 rfl rfl rfl rfl rfl rfl ?_
    refine kGo.mono h (fun r W1 hr => ?_)
    obtain ⟨rfl, h⟩ := hr
    refine g_aload_n 20 gq43 rfl rfl rfl ?_
    refine g_getI 23 gq43 rfl rfl rfl rfl rfl rfl ?_
    have c15 := h.1
    replace h := h.2
    refine g_if_ne 71 26 gq43 rfl rfl rfl c15 (fun c => ?_) (fun c => ?_)
    · replace h := h.1 c
      refine g_iload_n 72 gq43 rfl rfl rfl ?_
      refine g_aload_n 73 gq43 rfl rfl rfl ?_
      refine g_getI 76 gq43 rfl rfl rfl rfl rfl rfl ?_
      refine g_static 44 _ (i := 105) gq43 rfl rfl gq44 rfl rfl rfl rfl ?_
      refine kGo.mono h (fun r W2 hr => ?_)
      obtain ⟨y2, rfl, h⟩ := hr
      refine g_istore 81 gq43 rfl rfl rfl ?_
      refine g_iload 83 gq43 rfl rfl rfl ?_
      refine g_iconst 84 gq43 rfl rfl ?_
      have c28 := h.1
      replace h := h.2
      refine g_icmp_ne 97 87 gq43 rfl rfl rfl c28 (by omega) (fun c => ?_) (fun c => ?_)
      · replace h := h.1 c
        refine g_iload_n 98 gq43 rfl rfl rfl ?_
        refine g_sipush 101 gq43 rfl rfl rfl ?_
        refine g_icmp_eq 113 104 gq43 rfl rfl rfl c2 (by omega) (fun c => ?_) (fun c => ?_)
        · replace h := h.1 c
          refine g_aload_n 114 gq43 rfl rfl rfl ?_
          refine g_iconst 115 gq43 rfl rfl ?_
          refine g_aload_n 116 gq43 rfl rfl rfl ?_
          refine g_getI 119 gq43 rfl rfl rfl rfl rfl rfl ?_
          refine g_virt 42 _ (i := 86) gq43 rfl rfl gq42 rfl rfl rfl rfl rfl rfl ?_
          refine g_aload_n 1 gq42 rfl rfl rfl ?_
          refine g_iload_n 2 gq42 rfl rfl rfl ?_
          refine g_putI 5 gq42 rfl rfl rfl rfl rfl rfl rfl rfl ?_
          refine g_aload_n 6 gq42 rfl rfl rfl ?_
          refine g_iload_n 7 gq42 rfl rfl rfl ?_
          refine g_putI 10 gq42 rfl rfl rfl rfl rfl rfl rfl rfl ?_
          refine g_iconst 11 gq42 rfl rfl ?_
          refine g_zret gq42 rfl rfl (by omega) ?_
          exact g_zret gq43 rfl rfl (by omega) h
        · replace h := h.2 c
          refine g_aload_n 105 gq43 rfl rfl rfl ?_
          refine g_iload_n 106 gq43 rfl rfl rfl ?_
          refine g_aload_n 107 gq43 rfl rfl rfl ?_
          refine g_virt 45 _ (i := 112) gq43 rfl rfl gq45 rfl rfl rfl rfl rfl rfl ?_
          refine kGo.mono h (fun r W3 hr => ?_)
          obtain ⟨y3, rfl, h⟩ := hr
          have c57 := h.1
          replace h := h.2
          refine g_if_ne 123 113 gq43 rfl rfl rfl c57 (fun c => ?_) (fun c => ?_)
          · replace h := h.1 c
            refine g_iload 125 gq43 rfl rfl rfl ?_
            refine g_istore_n 126 gq43 rfl rfl rfl ?_
            refine g_iinc 129 gq43 rfl rfl rfl rfl ?_
            refine g_goto 8 gq43 rfl rfl ?_
            exact kGo.weak (km_Le.s (km_Le.s (km_Le.s (km_Le.s (km_Le.n km_Le.nil))))) h
          · replace h := h.2 c
            refine g_aload_n 114 gq43 rfl rfl rfl ?_
            refine g_iconst 115 gq43 rfl rfl ?_
            refine g_aload_n 116 gq43 rfl rfl rfl ?_
            refine g_getI 119 gq43 rfl rfl rfl rfl rfl rfl ?_
            refine g_virt 42 _ (i := 86) gq43 rfl rfl gq42 rfl rfl rfl rfl rfl rfl ?_
            refine g_aload_n 1 gq42 rfl rfl rfl ?_
            refine g_iload_n 2 gq42 rfl rfl rfl ?_
            refine g_putI 5 gq42 rfl rfl rfl rfl rfl rfl rfl rfl ?_
            refine g_aload_n 6 gq42 rfl rfl rfl ?_
            refine g_iload_n 7 gq42 rfl rfl rfl ?_
            refine g_putI 10 gq42 rfl rfl rfl rfl rfl rfl rfl rfl ?_
            refine g_iconst 11 gq42 rfl rfl ?_
            refine g_zret gq42 rfl rfl (by omega) ?_
            exact g_zret gq43 rfl rfl (by omega) h
      · replace h := h.2 c
        refine g_aload_n 88 gq43 rfl rfl rfl ?_
        refine g_iconst 89 gq43 rfl rfl ?_
        refine g_aload_n 90 gq43 rfl rfl rfl ?_
        refine g_getI 93 gq43 rfl rfl rfl rfl rfl rfl ?_
        refine g_virt 42 _ (i := 86) gq43 rfl rfl gq42 rfl rfl rfl rfl rfl rfl ?_
        refine g_aload_n 1 gq42 rfl rfl rfl ?_
        refine g_iload_n 2 gq42 rfl rfl rfl ?_
        refine g_putI 5 gq42 rfl rfl rfl rfl rfl rfl rfl rfl ?_
        refine g_aload_n 6 gq42 rfl rfl rfl ?_
        refine g_iload_n 7 gq42 rfl rfl rfl ?_
        refine g_putI 10 gq42 rfl rfl rfl rfl rfl rfl rfl rfl ?_
        refine g_iconst 11 gq42 rfl rfl ?_
        refine g_zret gq42 rfl rfl (by omega) ?_
        exact g_zret gq43 rfl rfl (by omega) h
    · replace h := h.2 c
      refine g_iload_n 27 gq43 rfl rfl rfl ?_
      have c98 := h.1
      replace h := h.2
      refine g_if_eq 41 30 gq43 rfl rfl rfl c98 (fun c => ?_) (fun c => ?_)
      · replace h := h.1 c
        refine g_iconst 42 gq43 rfl rfl ?_
        refine g_goto 46 gq43 rfl rfl ?_
        refine g_istore 48 gq43 rfl rfl rfl ?_
        refine g_iload 50 gq43 rfl rfl rfl ?_
        refine g_if_ne 65 53 gq43 rfl rfl rfl (by omega) (fun c => ?_) (fun c => ?_)
        rotate_left
        · exact absurd c (by decide)
        refine g_iconst 66 gq43 rfl rfl ?_
        refine g_goto 70 gq43 rfl rfl ?_
        exact g_zret gq43 rfl rfl (by omega) h
      · replace h := h.2 c
        refine g_iload_n 31 gq43 rfl rfl rfl ?_
        refine g_iconst 32 gq43 rfl rfl ?_
        refine g_icmp_eq 41 35 gq43 rfl rfl rfl c98 (by omega) (fun c => ?_) (fun c => ?_)
        · replace h := h.1 c
          refine g_iconst 42 gq43 rfl rfl ?_
          refine g_goto 46 gq43 rfl rfl ?_
          refine g_istore 48 gq43 rfl rfl rfl ?_
          refine g_iload 50 gq43 rfl rfl rfl ?_
          refine g_if_ne 65 53 gq43 rfl rfl rfl (by omega) (fun c => ?_) (fun c => ?_)
          rotate_left
          · exact absurd c (by decide)
          refine g_iconst 66 gq43 rfl rfl ?_
          refine g_goto 70 gq43 rfl rfl ?_
          exact g_zret gq43 rfl rfl (by omega) h
        · replace h := h.2 c
          refine g_iload_n 36 gq43 rfl rfl rfl ?_
          refine g_bipush 38 gq43 rfl rfl rfl ?_
          refine g_icmp_ne 45 41 gq43 rfl rfl rfl c98 (by omega) (fun c => ?_) (fun c => ?_)
          · replace h := h.1 c
            refine g_iconst 46 gq43 rfl rfl ?_
            refine g_istore 48 gq43 rfl rfl rfl ?_
            refine g_iload 50 gq43 rfl rfl rfl ?_
            refine g_if_ne 65 53 gq43 rfl rfl rfl (by omega) (fun c => ?_) (fun c => ?_)
            · exact absurd c (by decide)
            refine g_aload_n 54 gq43 rfl rfl rfl ?_
            refine g_iconst 55 gq43 rfl rfl ?_
            refine g_aload_n 56 gq43 rfl rfl rfl ?_
            refine g_getI 59 gq43 rfl rfl rfl rfl rfl rfl ?_
            refine g_virt 42 _ (i := 86) gq43 rfl rfl gq42 rfl rfl rfl rfl rfl rfl ?_
            refine g_aload_n 1 gq42 rfl rfl rfl ?_
            refine g_iload_n 2 gq42 rfl rfl rfl ?_
            refine g_putI 5 gq42 rfl rfl rfl rfl rfl rfl rfl rfl ?_
            refine g_aload_n 6 gq42 rfl rfl rfl ?_
            refine g_iload_n 7 gq42 rfl rfl rfl ?_
            refine g_putI 10 gq42 rfl rfl rfl rfl rfl rfl rfl rfl ?_
            refine g_iconst 11 gq42 rfl rfl ?_
            refine g_zret gq42 rfl rfl (by omega) ?_
            refine g_if_eq 69 65 gq43 rfl rfl rfl (by omega) (fun c => ?_) (fun c => ?_)
            rotate_left
            · exact absurd c (by decide)
            refine g_iconst 70 gq43 rfl rfl ?_
            exact g_zret gq43 rfl rfl (by omega) h
          · replace h := h.2 c
            refine g_iconst 42 gq43 rfl rfl ?_
            refine g_goto 46 gq43 rfl rfl ?_
            refine g_istore 48 gq43 rfl rfl rfl ?_
            refine g_iload 50 gq43 rfl rfl rfl ?_
            refine g_if_ne 65 53 gq43 rfl rfl rfl (by omega) (fun c => ?_) (fun c => ?_)
            rotate_left
            · exact absurd c (by decide)
            refine g_iconst 66 gq43 rfl rfl ?_
            refine g_goto 70 gq43 rfl rfl ?_
            exact g_zret gq43 rfl rfl (by omega) h
set_option maxRecDepth 10000 in
theorem b44_0 {xs : Nat → Int32} {Lx d : Nat} {V : km_V} {Q : Option Value → km_V → Prop} {a0 a1 : Int} 
    (h : (kR a0) ∧ (((a0 < 0 ∨ 7 < a0) → Q (some (kI (-1))) V) ∧ (a0 = 0 →
    (kR a1) ∧ ((a1 ≠ 2 →
      ((a1 ≠ 3 →
        Q (some (kI (-1))) V) ∧
       (a1 = 3 →
        Q (some (kI 5)) V))) ∧
     (a1 = 2 →
      Q (some (kI 1)) V))) ∧ (a0 = 1 →
    (kR a1) ∧ ((a1 ≠ 7 →
      ((a1 = 4 →
        Q (some (kI 2)) V) ∧
       (a1 ≠ 4 →
        ((a1 ≠ 5 →
          Q (some (kI (-1))) V) ∧
         (a1 = 5 →
          Q (some (kI 2)) V))))) ∧
     (a1 = 7 →
      Q (some (kI 4)) V))) ∧ (a0 = 2 →
    (kR a1) ∧ ((a1 ≠ 6 →
      Q (some (kI (-1))) V) ∧
     (a1 = 6 →
      Q (some (kI 3)) V))) ∧ (a0 = 3 →
    (kR a1) ∧ ((a1 = 8 →
      Q (some (kI 1)) V) ∧
     (a1 ≠ 8 →
      ((a1 ≠ 9 →
        Q (some (kI (-1))) V) ∧
       (a1 = 9 →
        Q (some (kI 1)) V))))) ∧ (a0 = 4 →
    (kR a1) ∧ ((a1 ≠ 2 →
      Q (some (kI (-1))) V) ∧
     (a1 = 2 →
      Q (some (kI 1)) V))) ∧ (a0 = 5 →
    (kR a1) ∧ ((a1 ≠ 6 →
      Q (some (kI (-1))) V) ∧
     (a1 = 6 →
      Q (some (kI 6)) V))) ∧ (a0 = 6 →
    (kR a1) ∧ ((a1 ≠ 7 →
      ((a1 ≠ 9 →
        ((a1 ≠ 6 →
          Q (some (kI (-1))) V) ∧
         (a1 = 6 →
          Q (some (kI 6)) V))) ∧
       (a1 = 9 →
        Q (some (kI 7)) V))) ∧
     (a1 = 7 →
      Q (some (kI 8)) V))) ∧ (a0 = 7 →
    (kR a1) ∧ ((a1 ≠ 6 →
      Q (some (kI (-1))) V) ∧
     (a1 = 6 →
      Q (some (kI 6)) V))))) :
    kGo xs Lx (d + 0) 44 0 [some (kI a0), some (kI a1)] [] V Q := by
  refine g_iload_n 1 gq44 rfl rfl rfl ?_
  have c1 := h.1
  replace h := h.2
  by_cases hd : a0 < 0 ∨ 7 < a0
  · replace h := h.1 hd
    refine g_switch 192 gq44 rfl c1 (by rw [if_pos hd]; rfl) ?_
    refine g_iconst 193 gq44 rfl rfl ?_
    exact g_iret gq44 rfl rfl h
  replace h := h.2
  have hv : a0 = 0 ∨ a0 = 1 ∨ a0 = 2 ∨ a0 = 3 ∨ a0 = 4 ∨ a0 = 5 ∨ a0 = 6 ∨ a0 = 7 := by omega
  rcases hv with hv | hv | hv | hv | hv | hv | hv | hv
  · replace h := h.1 hv
    refine g_switch 48 gq44 rfl c1 (by rw [hv]; rfl) ?_
    refine g_iload_n 49 gq44 rfl rfl rfl ?_
    refine g_iconst 50 gq44 rfl rfl ?_
    have c15 := h.1
    replace h := h.2
    refine g_icmp_ne 57 53 gq44 rfl rfl rfl c15 (by omega) (fun c => ?_) (fun c => ?_)
    · replace h := h.1 c
      refine g_iload_n 58 gq44 rfl rfl rfl ?_
      refine g_iconst 59 gq44 rfl rfl ?_
      refine g_icmp_ne 66 62 gq44 rfl rfl rfl c15 (by omega) (fun c => ?_) (fun c => ?_)
      · replace h := h.1 c
        refine g_iconst 67 gq44 rfl rfl ?_
        exact g_iret gq44 rfl rfl h
      · replace h := h.2 c
        refine g_iconst 63 gq44 rfl rfl ?_
        refine g_goto 67 gq44 rfl rfl ?_
        exact g_iret gq44 rfl rfl h
    · replace h := h.2 c
      refine g_iconst 54 gq44 rfl rfl ?_
      refine g_goto 67 gq44 rfl rfl ?_
      exact g_iret gq44 rfl rfl h
  · replace h := h.2.1 hv
    refine g_switch 68 gq44 rfl c1 (by rw [hv]; rfl) ?_
    refine g_iload_n 69 gq44 rfl rfl rfl ?_
    refine g_bipush 71 gq44 rfl rfl rfl ?_
    have c37 := h.1
    replace h := h.2
    refine g_icmp_ne 76 74 gq44 rfl rfl rfl c37 (by omega) (fun c => ?_) (fun c => ?_)
    · replace h := h.1 c
      refine g_iload_n 77 gq44 rfl rfl rfl ?_
      refine g_iconst 78 gq44 rfl rfl ?_
      refine g_icmp_eq 86 81 gq44 rfl rfl rfl c37 (by omega) (fun c => ?_) (fun c => ?_)
      · replace h := h.1 c
        refine g_iconst 87 gq44 rfl rfl ?_
        refine g_goto 91 gq44 rfl rfl ?_
        exact g_iret gq44 rfl rfl h
      · replace h := h.2 c
        refine g_iload_n 82 gq44 rfl rfl rfl ?_
        refine g_iconst 83 gq44 rfl rfl ?_
        refine g_icmp_ne 90 86 gq44 rfl rfl rfl c37 (by omega) (fun c => ?_) (fun c => ?_)
        · replace h := h.1 c
          refine g_iconst 91 gq44 rfl rfl ?_
          exact g_iret gq44 rfl rfl h
        · replace h := h.2 c
          refine g_iconst 87 gq44 rfl rfl ?_
          refine g_goto 91 gq44 rfl rfl ?_
          exact g_iret gq44 rfl rfl h
    · replace h := h.2 c
      refine g_iconst 75 gq44 rfl rfl ?_
      exact g_iret gq44 rfl rfl h
  · replace h := h.2.2.1 hv
    refine g_switch 92 gq44 rfl c1 (by rw [hv]; rfl) ?_
    refine g_iload_n 93 gq44 rfl rfl rfl ?_
    refine g_bipush 95 gq44 rfl rfl rfl ?_
    have c66 := h.1
    replace h := h.2
    refine g_icmp_ne 102 98 gq44 rfl rfl rfl c66 (by omega) (fun c => ?_) (fun c => ?_)
    · replace h := h.1 c
      refine g_iconst 103 gq44 rfl rfl ?_
      exact g_iret gq44 rfl rfl h
    · replace h := h.2 c
      refine g_iconst 99 gq44 rfl rfl ?_
      refine g_goto 103 gq44 rfl rfl ?_
      exact g_iret gq44 rfl rfl h
  · replace h := h.2.2.2.1 hv
    refine g_switch 104 gq44 rfl c1 (by rw [hv]; rfl) ?_
    refine g_iload_n 105 gq44 rfl rfl rfl ?_
    refine g_bipush 107 gq44 rfl rfl rfl ?_
    have c80 := h.1
    replace h := h.2
    refine g_icmp_eq 116 110 gq44 rfl rfl rfl c80 (by omega) (fun c => ?_) (fun c => ?_)
    · replace h := h.1 c
      refine g_iconst 117 gq44 rfl rfl ?_
      refine g_goto 121 gq44 rfl rfl ?_
      exact g_iret gq44 rfl rfl h
    · replace h := h.2 c
      refine g_iload_n 111 gq44 rfl rfl rfl ?_
      refine g_bipush 113 gq44 rfl rfl rfl ?_
      refine g_icmp_ne 120 116 gq44 rfl rfl rfl c80 (by omega) (fun c => ?_) (fun c => ?_)
      · replace h := h.1 c
        refine g_iconst 121 gq44 rfl rfl ?_
        exact g_iret gq44 rfl rfl h
      · replace h := h.2 c
        refine g_iconst 117 gq44 rfl rfl ?_
        refine g_goto 121 gq44 rfl rfl ?_
        exact g_iret gq44 rfl rfl h
  · replace h := h.2.2.2.2.1 hv
    refine g_switch 122 gq44 rfl c1 (by rw [hv]; rfl) ?_
    refine g_iload_n 123 gq44 rfl rfl rfl ?_
    refine g_iconst 124 gq44 rfl rfl ?_
    have c102 := h.1
    replace h := h.2
    refine g_icmp_ne 131 127 gq44 rfl rfl rfl c102 (by omega) (fun c => ?_) (fun c => ?_)
    · replace h := h.1 c
      refine g_iconst 132 gq44 rfl rfl ?_
      exact g_iret gq44 rfl rfl h
    · replace h := h.2 c
      refine g_iconst 128 gq44 rfl rfl ?_
      refine g_goto 132 gq44 rfl rfl ?_
      exact g_iret gq44 rfl rfl h
  · replace h := h.2.2.2.2.2.1 hv
    refine g_switch 133 gq44 rfl c1 (by rw [hv]; rfl) ?_
    refine g_iload_n 134 gq44 rfl rfl rfl ?_
    refine g_bipush 136 gq44 rfl rfl rfl ?_
    have c116 := h.1
    replace h := h.2
    refine g_icmp_ne 144 139 gq44 rfl rfl rfl c116 (by omega) (fun c => ?_) (fun c => ?_)
    · replace h := h.1 c
      refine g_iconst 145 gq44 rfl rfl ?_
      exact g_iret gq44 rfl rfl h
    · replace h := h.2 c
      refine g_bipush 141 gq44 rfl rfl rfl ?_
      refine g_goto 145 gq44 rfl rfl ?_
      exact g_iret gq44 rfl rfl h
  · replace h := h.2.2.2.2.2.2.1 hv
    refine g_switch 146 gq44 rfl c1 (by rw [hv]; rfl) ?_
    refine g_iload_n 147 gq44 rfl rfl rfl ?_
    refine g_bipush 149 gq44 rfl rfl rfl ?_
    have c130 := h.1
    replace h := h.2
    refine g_icmp_ne 155 152 gq44 rfl rfl rfl c130 (by omega) (fun c => ?_) (fun c => ?_)
    · replace h := h.1 c
      refine g_iload_n 156 gq44 rfl rfl rfl ?_
      refine g_bipush 158 gq44 rfl rfl rfl ?_
      refine g_icmp_ne 166 161 gq44 rfl rfl rfl c130 (by omega) (fun c => ?_) (fun c => ?_)
      · replace h := h.1 c
        refine g_iload_n 167 gq44 rfl rfl rfl ?_
        refine g_bipush 169 gq44 rfl rfl rfl ?_
        refine g_icmp_ne 177 172 gq44 rfl rfl rfl c130 (by omega) (fun c => ?_) (fun c => ?_)
        · replace h := h.1 c
          refine g_iconst 178 gq44 rfl rfl ?_
          exact g_iret gq44 rfl rfl h
        · replace h := h.2 c
          refine g_bipush 174 gq44 rfl rfl rfl ?_
          refine g_goto 178 gq44 rfl rfl ?_
          exact g_iret gq44 rfl rfl h
      · replace h := h.2 c
        refine g_bipush 163 gq44 rfl rfl rfl ?_
        refine g_goto 178 gq44 rfl rfl ?_
        exact g_iret gq44 rfl rfl h
    · replace h := h.2 c
      refine g_bipush 154 gq44 rfl rfl rfl ?_
      exact g_iret gq44 rfl rfl h
  · replace h := h.2.2.2.2.2.2.2 hv
    refine g_switch 179 gq44 rfl c1 (by rw [hv]; rfl) ?_
    refine g_iload_n 180 gq44 rfl rfl rfl ?_
    refine g_bipush 182 gq44 rfl rfl rfl ?_
    have c159 := h.1
    replace h := h.2
    refine g_icmp_ne 190 185 gq44 rfl rfl rfl c159 (by omega) (fun c => ?_) (fun c => ?_)
    · replace h := h.1 c
      refine g_iconst 191 gq44 rfl rfl ?_
      exact g_iret gq44 rfl rfl h
    · replace h := h.2 c
      refine g_bipush 187 gq44 rfl rfl rfl ?_
      refine g_goto 191 gq44 rfl rfl ?_
      exact g_iret gq44 rfl rfl h
set_option maxRecDepth 10000 in
theorem b45_0 {xs : Nat → Int32} {Lx d : Nat} {V : km_V} {Q : Option Value → km_V → Prop} {a1 : Int} 
    (h : (kR (V 1 1)) ∧ ((((V 1 1) < 2 ∨ 9 < (V 1 1)) → Q (some (kI 1)) V) ∧ ((V 1 1) = 2 →
    kCI xs Lx (d + 2) 46 1 [.ref 3] V (fun y1 W1 =>
    (y1 = 0 ∨ y1 = 1) ∧ Q (some (kI y1)) W1)) ∧ ((V 1 1) = 3 →
    Q (some (kI 1)) (up V 3 2 1)) ∧ ((V 1 1) = 4 →
    (((V 1 1) ≠ 4 →
      Q (some (kI 1)) (up V 3 8 0)) ∧
     ((V 1 1) = 4 →
      Q (some (kI 1)) (up V 3 8 1)))) ∧ ((V 1 1) = 5 →
    (((V 1 1) ≠ 4 →
      Q (some (kI 1)) (up V 3 8 0)) ∧
     ((V 1 1) = 4 →
      Q (some (kI 1)) (up V 3 8 1)))) ∧ ((V 1 1) = 6 →
    kCI xs Lx (d + 2) 48 3 [.ref 3, kI a1, .ref 1] V (fun y2 W2 =>
    (y2 = 0 ∨ y2 = 1) ∧ Q (some (kI y2)) W2)) ∧ ((V 1 1) = 7 →
    Q (some (kI 1)) V) ∧ ((V 1 1) = 8 →
    kCI xs Lx (d + 2) 47 2 [.ref 3, kI 1] V (fun y3 W3 =>
    (y3 = 0 ∨ y3 = 1) ∧ Q (some (kI y3)) W3)) ∧ ((V 1 1) = 9 →
    (kR a1) ∧ ((a1 ≠ 6 →
      kCI xs Lx (d + 2) 47 2 [.ref 3, kI 0] V (fun y4 W4 =>
      (y4 = 0 ∨ y4 = 1) ∧ Q (some (kI y4)) W4)) ∧
     (a1 = 6 →
      (kR (V 3 7)) ∧ ((8 ≤ (V 3 7) →
        Q (some (kI 0)) V) ∧
       ((V 3 7) < 8 →
        Q (some (kI 1)) V))))))) :
    kGo xs Lx (d + 3) 45 0 [some (.ref 3), some (kI a1), some (.ref 1)] [] V Q := by
  refine g_aload_n 1 gq45 rfl rfl rfl ?_
  refine g_getI 4 gq45 rfl rfl rfl rfl rfl rfl ?_
  have c2 := h.1
  replace h := h.2
  by_cases hd : (V 1 1) < 2 ∨ 9 < (V 1 1)
  · replace h := h.1 hd
    refine g_switch 125 gq45 rfl c2 (by rw [if_pos hd]; rfl) ?_
    refine g_iconst 126 gq45 rfl rfl ?_
    exact g_zret gq45 rfl rfl (by omega) h
  replace h := h.2
  have hv : (V 1 1) = 2 ∨ (V 1 1) = 3 ∨ (V 1 1) = 4 ∨ (V 1 1) = 5 ∨ (V 1 1) = 6 ∨ (V 1 1) = 7 ∨ (V 1 1) = 8 ∨ (V 1 1) = 9 := by omega
  rcases hv with hv | hv | hv | hv | hv | hv | hv | hv
  · replace h := h.1 hv
    refine g_switch 52 gq45 rfl c2 (by rw [hv]; rfl) ?_
    refine g_aload_n 53 gq45 rfl rfl rfl ?_
    refine g_virt 46 _ (i := 116) gq45 rfl rfl gq46 rfl rfl rfl rfl rfl rfl ?_
    refine kGo.mono h (fun r W1 hr => ?_)
    obtain ⟨y1, rfl, h⟩ := hr
    have c18 := h.1
    replace h := h.2
    exact g_zret gq45 rfl rfl c18 h
  · replace h := h.2.1 hv
    refine g_switch 57 gq45 rfl c2 (by rw [hv]; rfl) ?_
    refine g_aload_n 58 gq45 rfl rfl rfl ?_
    refine g_iconst 59 gq45 rfl rfl ?_
    refine g_putZ 62 gq45 rfl rfl rfl rfl rfl rfl rfl rfl (by omega) ?_
    refine g_iconst 63 gq45 rfl rfl ?_
    exact g_zret gq45 rfl rfl (by omega) h
  · replace h := h.2.2.1 hv
    refine g_switch 64 gq45 rfl c2 (by rw [hv]; rfl) ?_
    refine g_aload_n 65 gq45 rfl rfl rfl ?_
    refine g_aload_n 66 gq45 rfl rfl rfl ?_
    refine g_getI 69 gq45 rfl rfl rfl rfl rfl rfl ?_
    refine g_iconst 70 gq45 rfl rfl ?_
    refine g_icmp_ne 77 73 gq45 rfl rfl rfl c2 (by omega) (fun c => ?_) (fun c => ?_)
    · replace h := h.1 c
      refine g_iconst 78 gq45 rfl rfl ?_
      refine g_putZ 81 gq45 rfl rfl rfl rfl rfl rfl rfl rfl (by omega) ?_
      refine g_iconst 82 gq45 rfl rfl ?_
      exact g_zret gq45 rfl rfl (by omega) h
    · replace h := h.2 c
      refine g_iconst 74 gq45 rfl rfl ?_
      refine g_goto 78 gq45 rfl rfl ?_
      refine g_putZ 81 gq45 rfl rfl rfl rfl rfl rfl rfl rfl (by omega) ?_
      refine g_iconst 82 gq45 rfl rfl ?_
      exact g_zret gq45 rfl rfl (by omega) h
  · replace h := h.2.2.2.1 hv
    refine g_switch 64 gq45 rfl c2 (by rw [hv]; rfl) ?_
    refine g_aload_n 65 gq45 rfl rfl rfl ?_
    refine g_aload_n 66 gq45 rfl rfl rfl ?_
    refine g_getI 69 gq45 rfl rfl rfl rfl rfl rfl ?_
    refine g_iconst 70 gq45 rfl rfl ?_
    refine g_icmp_ne 77 73 gq45 rfl rfl rfl c2 (by omega) (fun c => ?_) (fun c => ?_)
    · replace h := h.1 c
      refine g_iconst 78 gq45 rfl rfl ?_
      refine g_putZ 81 gq45 rfl rfl rfl rfl rfl rfl rfl rfl (by omega) ?_
      refine g_iconst 82 gq45 rfl rfl ?_
      exact g_zret gq45 rfl rfl (by omega) h
    · replace h := h.2 c
      refine g_iconst 74 gq45 rfl rfl ?_
      refine g_goto 78 gq45 rfl rfl ?_
      refine g_putZ 81 gq45 rfl rfl rfl rfl rfl rfl rfl rfl (by omega) ?_
      refine g_iconst 82 gq45 rfl rfl ?_
      exact g_zret gq45 rfl rfl (by omega) h
  · replace h := h.2.2.2.2.1 hv
    refine g_switch 118 gq45 rfl c2 (by rw [hv]; rfl) ?_
    refine g_aload_n 119 gq45 rfl rfl rfl ?_
    refine g_iload_n 120 gq45 rfl rfl rfl ?_
    refine g_aload_n 121 gq45 rfl rfl rfl ?_
    refine g_virt 48 _ (i := 126) gq45 rfl rfl gq48 rfl rfl rfl rfl rfl rfl ?_
    refine kGo.mono h (fun r W2 hr => ?_)
    obtain ⟨y2, rfl, h⟩ := hr
    have c72 := h.1
    replace h := h.2
    exact g_zret gq45 rfl rfl c72 h
  · replace h := h.2.2.2.2.2.1 hv
    refine g_switch 125 gq45 rfl c2 (by rw [hv]; rfl) ?_
    refine g_iconst 126 gq45 rfl rfl ?_
    exact g_zret gq45 rfl rfl (by omega) h
  · replace h := h.2.2.2.2.2.2.1 hv
    refine g_switch 83 gq45 rfl c2 (by rw [hv]; rfl) ?_
    refine g_aload_n 84 gq45 rfl rfl rfl ?_
    refine g_iconst 85 gq45 rfl rfl ?_
    refine g_virt 47 _ (i := 122) gq45 rfl rfl gq47 rfl rfl rfl rfl rfl rfl ?_
    refine kGo.mono h (fun r W3 hr => ?_)
    obtain ⟨y3, rfl, h⟩ := hr
    have c86 := h.1
    replace h := h.2
    exact g_zret gq45 rfl rfl c86 h
  · replace h := h.2.2.2.2.2.2.2 hv
    refine g_switch 89 gq45 rfl c2 (by rw [hv]; rfl) ?_
    refine g_iload_n 90 gq45 rfl rfl rfl ?_
    refine g_bipush 92 gq45 rfl rfl rfl ?_
    have c93 := h.1
    replace h := h.2
    refine g_icmp_ne 112 95 gq45 rfl rfl rfl c93 (by omega) (fun c => ?_) (fun c => ?_)
    · replace h := h.1 c
      refine g_aload_n 113 gq45 rfl rfl rfl ?_
      refine g_iconst 114 gq45 rfl rfl ?_
      refine g_virt 47 _ (i := 122) gq45 rfl rfl gq47 rfl rfl rfl rfl rfl rfl ?_
      refine kGo.mono h (fun r W4 hr => ?_)
      obtain ⟨y4, rfl, h⟩ := hr
      have c102 := h.1
      replace h := h.2
      exact g_zret gq45 rfl rfl c102 h
    · replace h := h.2 c
      refine g_aload_n 96 gq45 rfl rfl rfl ?_
      refine g_getI 99 gq45 rfl rfl rfl rfl rfl rfl ?_
      refine g_bipush 101 gq45 rfl rfl rfl ?_
      have c109 := h.1
      replace h := h.2
      refine g_icmp_ge 108 104 gq45 rfl rfl rfl c109 (by omega) (fun c => ?_) (fun c => ?_)
      · replace h := h.1 c
        refine g_iconst 109 gq45 rfl rfl ?_
        refine g_goto 117 gq45 rfl rfl ?_
        exact g_zret gq45 rfl rfl (by omega) h
      · replace h := h.2 c
        refine g_iconst 105 gq45 rfl rfl ?_
        refine g_goto 117 gq45 rfl rfl ?_
        exact g_zret gq45 rfl rfl (by omega) h
set_option maxRecDepth 10000 in
theorem b46_0 {xs : Nat → Int32} {Lx d : Nat} {V : km_V} {Q : Option Value → km_V → Prop} 
    (h : (kR (V 3 3)) ∧ (((V 3 3) < 4 →
    (0 ≤ (V 3 3) ∧ (V 3 3) < (5 : Nat)) ∧ Q (some (kI 1)) (up (up V 4 (Int.toNat (V 3 3)) (V 3 7)) 3 3 (((up V 4 (Int.toNat (V 3 3)) (V 3 7)) 3 3) + 1))) ∧
   (4 ≤ (V 3 3) →
    Q (some (kI 0)) V))) :
    kGo xs Lx (d + 0) 46 0 [some (.ref 3)] [] V Q := by
  refine g_aload_n 1 gq46 rfl rfl rfl ?_
  refine g_getI 4 gq46 rfl rfl rfl rfl rfl rfl ?_
  refine g_iconst 5 gq46 rfl rfl ?_
  have c3 := h.1
  replace h := h.2
  refine g_icmp_lt 10 8 gq46 rfl rfl rfl c3 (by omega) (fun c => ?_) (fun c => ?_)
  · replace h := h.1 c
    refine g_aload_n 11 gq46 rfl rfl rfl ?_
    refine g_getA 14 4 gq46 rfl rfl rfl rfl rfl rfl rfl ?_
    refine g_aload_n 15 gq46 rfl rfl rfl ?_
    refine g_getI 18 gq46 rfl rfl rfl rfl rfl rfl ?_
    refine g_aload_n 19 gq46 rfl rfl rfl ?_
    refine g_getI 22 gq46 rfl rfl rfl rfl rfl rfl ?_
    have c13 := h.1
    replace h := h.2
    refine g_iast 23 gq46 rfl rfl rfl c13 ?_
    refine g_aload_n 24 gq46 rfl rfl rfl ?_
    refine g_dup 25 gq46 rfl rfl rfl ?_
    refine g_getI 28 gq46 rfl rfl rfl rfl rfl rfl ?_
    refine g_iconst 29 gq46 rfl rfl ?_
    refine g_iadd 30 gq46 rfl rfl ?_
    refine g_putI 33 gq46 rfl rfl rfl rfl rfl rfl rfl rfl ?_
    refine g_iconst 34 gq46 rfl rfl ?_
    exact g_zret gq46 rfl rfl (by omega) h
  · replace h := h.2 c
    refine g_iconst 9 gq46 rfl rfl ?_
    exact g_zret gq46 rfl rfl (by omega) h
set_option maxRecDepth 10000 in
theorem b47_0 {xs : Nat → Int32} {Lx d : Nat} {V : km_V} {Q : Option Value → km_V → Prop} {a1 : Int} 
    (h : (kR (V 3 7)) ∧ (((V 3 7) < 134 →
    (0 ≤ (V 3 7) ∧ (V 3 7) < (134 : Nat)) ∧ (a1 = 0 ∨ a1 = 1) ∧ Q (some (kI 1)) (up (up V 9 (Int.toNat (V 3 7)) a1) 3 7 (((up V 9 (Int.toNat (V 3 7)) a1) 3 7) + 1))) ∧
   (134 ≤ (V 3 7) →
    Q (some (kI 0)) V))) :
    kGo xs Lx (d + 0) 47 0 [some (.ref 3), some (kI a1)] [] V Q := by
  refine g_aload_n 1 gq47 rfl rfl rfl ?_
  refine g_getI 4 gq47 rfl rfl rfl rfl rfl rfl ?_
  refine g_sipush 7 gq47 rfl rfl rfl ?_
  have c3 := h.1
  replace h := h.2
  refine g_icmp_lt 12 10 gq47 rfl rfl rfl c3 (by omega) (fun c => ?_) (fun c => ?_)
  · replace h := h.1 c
    refine g_aload_n 13 gq47 rfl rfl rfl ?_
    refine g_getA 16 9 gq47 rfl rfl rfl rfl rfl rfl rfl ?_
    refine g_aload_n 17 gq47 rfl rfl rfl ?_
    refine g_getI 20 gq47 rfl rfl rfl rfl rfl rfl ?_
    refine g_iload_n 21 gq47 rfl rfl rfl ?_
    have c12 := h.1
    replace h := h.2
    have c14 := h.1
    replace h := h.2
    refine g_zast 22 gq47 rfl rfl rfl c12 c14 ?_
    refine g_aload_n 23 gq47 rfl rfl rfl ?_
    refine g_dup 24 gq47 rfl rfl rfl ?_
    refine g_getI 27 gq47 rfl rfl rfl rfl rfl rfl ?_
    refine g_iconst 28 gq47 rfl rfl ?_
    refine g_iadd 29 gq47 rfl rfl ?_
    refine g_putI 32 gq47 rfl rfl rfl rfl rfl rfl rfl rfl ?_
    refine g_iconst 33 gq47 rfl rfl ?_
    exact g_zret gq47 rfl rfl (by omega) h
  · replace h := h.2 c
    refine g_iconst 11 gq47 rfl rfl ?_
    exact g_zret gq47 rfl rfl (by omega) h
set_option maxRecDepth 10000 in
theorem b48_0 {xs : Nat → Int32} {Lx d : Nat} {V : km_V} {Q : Option Value → km_V → Prop} {a1 : Int} 
    (h : (kR a1) ∧ ((a1 ≠ 5 →
    (kR (V 3 7)) ∧ (((V 3 7) < 134 →
      (0 ≤ (V 3 7) ∧ (V 3 7) < (134 : Nat)) ∧ (0 ≤ ((up V 5 (Int.toNat (V 3 7)) (V 1 2)) 3 7) ∧ ((up V 5 (Int.toNat (V 3 7)) (V 1 2)) 3 7) < (134 : Nat)) ∧ ((a1 ≠ 2 →
        (kR ((up (up V 5 (Int.toNat (V 3 7)) (V 1 2)) 6 (Int.toNat ((up V 5 (Int.toNat (V 3 7)) (V 1 2)) 3 7)) ((up V 5 (Int.toNat (V 3 7)) (V 1 2)) 1 3)) 3 7)) ∧ ((8 ≤ ((up (up V 5 (Int.toNat (V 3 7)) (V 1 2)) 6 (Int.toNat ((up V 5 (Int.toNat (V 3 7)) (V 1 2)) 3 7)) ((up V 5 (Int.toNat (V 3 7)) (V 1 2)) 1 3)) 3 7) →
          Q (some (kI 0)) (up (up V 5 (Int.toNat (V 3 7)) (V 1 2)) 6 (Int.toNat ((up V 5 (Int.toNat (V 3 7)) (V 1 2)) 3 7)) ((up V 5 (Int.toNat (V 3 7)) (V 1 2)) 1 3))) ∧
         (((up (up V 5 (Int.toNat (V 3 7)) (V 1 2)) 6 (Int.toNat ((up V 5 (Int.toNat (V 3 7)) (V 1 2)) 3 7)) ((up V 5 (Int.toNat (V 3 7)) (V 1 2)) 1 3)) 3 7) < 8 →
          ((a1 ≠ 6 →
            kCI xs Lx (d + 1) 47 2 [.ref 3, kI 0] (up (up V 5 (Int.toNat (V 3 7)) (V 1 2)) 6 (Int.toNat ((up V 5 (Int.toNat (V 3 7)) (V 1 2)) 3 7)) ((up V 5 (Int.toNat (V 3 7)) (V 1 2)) 1 3)) (fun y1 W1 =>
            (kR y1) ∧ ((y1 = 0 →
              Q (some (kI 0)) W1) ∧
             (y1 ≠ 0 →
              Q (some (kI 1)) W1)))) ∧
           (a1 = 6 →
            kCI xs Lx (d + 1) 47 2 [.ref 3, kI 1] (up (up V 5 (Int.toNat (V 3 7)) (V 1 2)) 6 (Int.toNat ((up V 5 (Int.toNat (V 3 7)) (V 1 2)) 3 7)) ((up V 5 (Int.toNat (V 3 7)) (V 1 2)) 1 3)) (fun y2 W2 =>
            (kR y2) ∧ ((y2 = 0 →
              Q (some (kI 0)) W2) ∧
             (y2 ≠ 0 →
              Q (some (kI 1)) W2)))))))) ∧
       (a1 = 2 →
        (0 ≤ ((up (up V 5 (Int.toNat (V 3 7)) (V 1 2)) 6 (Int.toNat ((up V 5 (Int.toNat (V 3 7)) (V 1 2)) 3 7)) ((up V 5 (Int.toNat (V 3 7)) (V 1 2)) 1 3)) 3 7) ∧ ((up (up V 5 (Int.toNat (V 3 7)) (V 1 2)) 6 (Int.toNat ((up V 5 (Int.toNat (V 3 7)) (V 1 2)) 3 7)) ((up V 5 (Int.toNat (V 3 7)) (V 1 2)) 1 3)) 3 7) < (134 : Nat)) ∧ (((up (up V 5 (Int.toNat (V 3 7)) (V 1 2)) 6 (Int.toNat ((up V 5 (Int.toNat (V 3 7)) (V 1 2)) 3 7)) ((up V 5 (Int.toNat (V 3 7)) (V 1 2)) 1 3)) 3 8) = 0 ∨ ((up (up V 5 (Int.toNat (V 3 7)) (V 1 2)) 6 (Int.toNat ((up V 5 (Int.toNat (V 3 7)) (V 1 2)) 3 7)) ((up V 5 (Int.toNat (V 3 7)) (V 1 2)) 1 3)) 3 8) = 1) ∧ kCI xs Lx (d + 1) 49 2 [.ref 3] (up (up (up V 5 (Int.toNat (V 3 7)) (V 1 2)) 6 (Int.toNat ((up V 5 (Int.toNat (V 3 7)) (V 1 2)) 3 7)) ((up V 5 (Int.toNat (V 3 7)) (V 1 2)) 1 3)) 8 (Int.toNat ((up (up V 5 (Int.toNat (V 3 7)) (V 1 2)) 6 (Int.toNat ((up V 5 (Int.toNat (V 3 7)) (V 1 2)) 3 7)) ((up V 5 (Int.toNat (V 3 7)) (V 1 2)) 1 3)) 3 7)) ((up (up V 5 (Int.toNat (V 3 7)) (V 1 2)) 6 (Int.toNat ((up V 5 (Int.toNat (V 3 7)) (V 1 2)) 3 7)) ((up V 5 (Int.toNat (V 3 7)) (V 1 2)) 1 3)) 3 8)) (fun y3 W3 =>
        (y3 = 0 ∨ y3 = 1) ∧ Q (some (kI y3)) W3)))) ∧
     (134 ≤ (V 3 7) →
      Q (some (kI 0)) V))) ∧
   (a1 = 5 →
    Q (some (kI 1)) (up (up V 3 4 (V 1 2)) 3 5 ((up V 3 4 (V 1 2)) 1 3))))) :
    kGo xs Lx (d + 2) 48 0 [some (.ref 3), some (kI a1), some (.ref 1)] [] V Q := by
  refine g_iload_n 1 gq48 rfl rfl rfl ?_
  refine g_iconst 2 gq48 rfl rfl ?_
  have c2 := h.1
  replace h := h.2
  refine g_icmp_ne 23 5 gq48 rfl rfl rfl c2 (by omega) (fun c => ?_) (fun c => ?_)
  · replace h := h.1 c
    refine g_aload_n 24 gq48 rfl rfl rfl ?_
    refine g_getI 27 gq48 rfl rfl rfl rfl rfl rfl ?_
    refine g_sipush 30 gq48 rfl rfl rfl ?_
    have c9 := h.1
    replace h := h.2
    refine g_icmp_lt 35 33 gq48 rfl rfl rfl c9 (by omega) (fun c => ?_) (fun c => ?_)
    · replace h := h.1 c
      refine g_aload_n 36 gq48 rfl rfl rfl ?_
      refine g_getA 39 5 gq48 rfl rfl rfl rfl rfl rfl rfl ?_
      refine g_aload_n 40 gq48 rfl rfl rfl ?_
      refine g_getI 43 gq48 rfl rfl rfl rfl rfl rfl ?_
      refine g_aload_n 44 gq48 rfl rfl rfl ?_
      refine g_getI 47 gq48 rfl rfl rfl rfl rfl rfl ?_
      have c19 := h.1
      replace h := h.2
      refine g_iast 48 gq48 rfl rfl rfl c19 ?_
      refine g_aload_n 49 gq48 rfl rfl rfl ?_
      refine g_getA 52 6 gq48 rfl rfl rfl rfl rfl rfl rfl ?_
      refine g_aload_n 53 gq48 rfl rfl rfl ?_
      refine g_getI 56 gq48 rfl rfl rfl rfl rfl rfl ?_
      refine g_aload_n 57 gq48 rfl rfl rfl ?_
      refine g_getI 60 gq48 rfl rfl rfl rfl rfl rfl ?_
      have c28 := h.1
      replace h := h.2
      refine g_iast 61 gq48 rfl rfl rfl c28 ?_
      refine g_iload_n 62 gq48 rfl rfl rfl ?_
      refine g_iconst 63 gq48 rfl rfl ?_
      refine g_icmp_ne 84 66 gq48 rfl rfl rfl c2 (by omega) (fun c => ?_) (fun c => ?_)
      · replace h := h.1 c
        refine g_aload_n 85 gq48 rfl rfl rfl ?_
        refine g_getI 88 gq48 rfl rfl rfl rfl rfl rfl ?_
        refine g_bipush 90 gq48 rfl rfl rfl ?_
        have c38 := h.1
        replace h := h.2
        refine g_icmp_ge 115 93 gq48 rfl rfl rfl c38 (by omega) (fun c => ?_) (fun c => ?_)
        · replace h := h.1 c
          refine g_iconst 116 gq48 rfl rfl ?_
          exact g_zret gq48 rfl rfl (by omega) h
        · replace h := h.2 c
          refine g_aload_n 94 gq48 rfl rfl rfl ?_
          refine g_iload_n 95 gq48 rfl rfl rfl ?_
          refine g_bipush 97 gq48 rfl rfl rfl ?_
          refine g_icmp_ne 104 100 gq48 rfl rfl rfl c2 (by omega) (fun c => ?_) (fun c => ?_)
          · replace h := h.1 c
            refine g_iconst 105 gq48 rfl rfl ?_
            refine g_virt 47 _ (i := 122) gq48 rfl rfl gq47 rfl rfl rfl rfl rfl rfl ?_
            refine kGo.mono h (fun r W1 hr => ?_)
            obtain ⟨y1, rfl, h⟩ := hr
            have c54 := h.1
            replace h := h.2
            refine g_if_eq 115 111 gq48 rfl rfl rfl c54 (fun c => ?_) (fun c => ?_)
            · replace h := h.1 c
              refine g_iconst 116 gq48 rfl rfl ?_
              exact g_zret gq48 rfl rfl (by omega) h
            · replace h := h.2 c
              refine g_iconst 112 gq48 rfl rfl ?_
              refine g_goto 116 gq48 rfl rfl ?_
              exact g_zret gq48 rfl rfl (by omega) h
          · replace h := h.2 c
            refine g_iconst 101 gq48 rfl rfl ?_
            refine g_goto 105 gq48 rfl rfl ?_
            refine g_virt 47 _ (i := 122) gq48 rfl rfl gq47 rfl rfl rfl rfl rfl rfl ?_
            refine kGo.mono h (fun r W2 hr => ?_)
            obtain ⟨y2, rfl, h⟩ := hr
            have c70 := h.1
            replace h := h.2
            refine g_if_eq 115 111 gq48 rfl rfl rfl c70 (fun c => ?_) (fun c => ?_)
            · replace h := h.1 c
              refine g_iconst 116 gq48 rfl rfl ?_
              exact g_zret gq48 rfl rfl (by omega) h
            · replace h := h.2 c
              refine g_iconst 112 gq48 rfl rfl ?_
              refine g_goto 116 gq48 rfl rfl ?_
              exact g_zret gq48 rfl rfl (by omega) h
      · replace h := h.2 c
        refine g_aload_n 67 gq48 rfl rfl rfl ?_
        refine g_getA 70 8 gq48 rfl rfl rfl rfl rfl rfl rfl ?_
        refine g_aload_n 71 gq48 rfl rfl rfl ?_
        refine g_getI 74 gq48 rfl rfl rfl rfl rfl rfl ?_
        refine g_aload_n 75 gq48 rfl rfl rfl ?_
        refine g_getI 78 gq48 rfl rfl rfl rfl rfl rfl ?_
        have c87 := h.1
        replace h := h.2
        have c89 := h.1
        replace h := h.2
        refine g_zast 79 gq48 rfl rfl rfl c87 c89 ?_
        refine g_aload_n 80 gq48 rfl rfl rfl ?_
        refine g_virt 49 _ (i := 138) gq48 rfl rfl gq49 rfl rfl rfl rfl rfl rfl ?_
        refine kGo.mono h (fun r W3 hr => ?_)
        obtain ⟨y3, rfl, h⟩ := hr
        have c96 := h.1
        replace h := h.2
        exact g_zret gq48 rfl rfl c96 h
    · replace h := h.2 c
      refine g_iconst 34 gq48 rfl rfl ?_
      exact g_zret gq48 rfl rfl (by omega) h
  · replace h := h.2 c
    refine g_aload_n 6 gq48 rfl rfl rfl ?_
    refine g_aload_n 7 gq48 rfl rfl rfl ?_
    refine g_getI 10 gq48 rfl rfl rfl rfl rfl rfl ?_
    refine g_putI 13 gq48 rfl rfl rfl rfl rfl rfl rfl rfl ?_
    refine g_aload_n 14 gq48 rfl rfl rfl ?_
    refine g_aload_n 15 gq48 rfl rfl rfl ?_
    refine g_getI 18 gq48 rfl rfl rfl rfl rfl rfl ?_
    refine g_putI 21 gq48 rfl rfl rfl rfl rfl rfl rfl rfl ?_
    refine g_iconst 22 gq48 rfl rfl ?_
    exact g_zret gq48 rfl rfl (by omega) h
set_option maxRecDepth 10000 in
theorem b49_0 {xs : Nat → Int32} {Lx d : Nat} {V : km_V} {Q : Option Value → km_V → Prop} 
    (h : kGo xs Lx (d + 1) 49 2 [some (.ref 3), some (kI 0)] [] V Q) :
    kGo xs Lx (d + 1) 49 0 [some (.ref 3), none] [] V Q := by
  refine g_iconst 1 gq49 rfl rfl ?_
  refine g_istore_n 2 gq49 rfl rfl rfl ?_
  exact kGo.weak (km_Le.s (km_Le.s km_Le.nil)) h
set_option maxRecDepth 10000 in
theorem b49_2 {xs : Nat → Int32} {Lx d : Nat} {V : km_V} {Q : Option Value → km_V → Prop} {x1 : Int} 
    (h : (kR x1) ∧ (kR (V 3 6)) ∧ (((V 3 6) ≤ x1 →
    ((x1 < 8 →
      (0 ≤ (V 3 7) ∧ (V 3 7) < (134 : Nat)) ∧ (0 ≤ x1 ∧ x1 < (8 : Nat)) ∧ (kR ((up V 10 (Int.toNat x1) (V 5 (Int.toNat (V 3 7)))) 3 6)) ∧ (kR (x1 + 1)) ∧ (0 ≤ ((up (up V 10 (Int.toNat x1) (V 5 (Int.toNat (V 3 7)))) 3 6 (kmax ((up V 10 (Int.toNat x1) (V 5 (Int.toNat (V 3 7)))) 3 6) (x1 + 1))) 3 7) ∧ ((up (up V 10 (Int.toNat x1) (V 5 (Int.toNat (V 3 7)))) 3 6 (kmax ((up V 10 (Int.toNat x1) (V 5 (Int.toNat (V 3 7)))) 3 6) (x1 + 1))) 3 7) < (134 : Nat)) ∧ Q (some (kI 1)) (up (up (up V 10 (Int.toNat x1) (V 5 (Int.toNat (V 3 7)))) 3 6 (kmax ((up V 10 (Int.toNat x1) (V 5 (Int.toNat (V 3 7)))) 3 6) (x1 + 1))) 7 (Int.toNat ((up (up V 10 (Int.toNat x1) (V 5 (Int.toNat (V 3 7)))) 3 6 (kmax ((up V 10 (Int.toNat x1) (V 5 (Int.toNat (V 3 7)))) 3 6) (x1 + 1))) 3 7)) x1)) ∧
     (8 ≤ x1 →
      Q (some (kI 0)) V))) ∧
   (x1 < (V 3 6) →
    (0 ≤ x1 ∧ x1 < (8 : Nat)) ∧ (0 ≤ (V 3 7) ∧ (V 3 7) < (134 : Nat)) ∧ (kR (V 10 (Int.toNat x1))) ∧ (kR (V 5 (Int.toNat (V 3 7)))) ∧ (((V 10 (Int.toNat x1)) ≠ (V 5 (Int.toNat (V 3 7))) →
      kGo xs Lx (d + 1) 49 2 [some (.ref 3), some (kI (x1 + 1))] [] V Q) ∧
     ((V 10 (Int.toNat x1)) = (V 5 (Int.toNat (V 3 7))) →
      ((x1 < 8 →
        (kR ((up V 10 (Int.toNat x1) (V 5 (Int.toNat (V 3 7)))) 3 6)) ∧ (kR (x1 + 1)) ∧ (0 ≤ ((up (up V 10 (Int.toNat x1) (V 5 (Int.toNat (V 3 7)))) 3 6 (kmax ((up V 10 (Int.toNat x1) (V 5 (Int.toNat (V 3 7)))) 3 6) (x1 + 1))) 3 7) ∧ ((up (up V 10 (Int.toNat x1) (V 5 (Int.toNat (V 3 7)))) 3 6 (kmax ((up V 10 (Int.toNat x1) (V 5 (Int.toNat (V 3 7)))) 3 6) (x1 + 1))) 3 7) < (134 : Nat)) ∧ Q (some (kI 1)) (up (up (up V 10 (Int.toNat x1) (V 5 (Int.toNat (V 3 7)))) 3 6 (kmax ((up V 10 (Int.toNat x1) (V 5 (Int.toNat (V 3 7)))) 3 6) (x1 + 1))) 7 (Int.toNat ((up (up V 10 (Int.toNat x1) (V 5 (Int.toNat (V 3 7)))) 3 6 (kmax ((up V 10 (Int.toNat x1) (V 5 (Int.toNat (V 3 7)))) 3 6) (x1 + 1))) 3 7)) x1)) ∧
       (8 ≤ x1 →
        Q (some (kI 0)) V))))))) :
    kGo xs Lx (d + 1) 49 2 [some (.ref 3), some (kI x1)] [] V Q := by
  refine g_iload_n 3 gq49 rfl rfl rfl ?_
  refine g_aload_n 4 gq49 rfl rfl rfl ?_
  refine g_getI 7 gq49 rfl rfl rfl rfl rfl rfl ?_
  have c3 := h.1
  replace h := h.2
  have c5 := h.1
  replace h := h.2
  refine g_icmp_ge 37 10 gq49 rfl rfl rfl c3 c5 (fun c => ?_) (fun c => ?_)
  · replace h := h.1 c
    refine g_iload_n 38 gq49 rfl rfl rfl ?_
    refine g_bipush 40 gq49 rfl rfl rfl ?_
    refine g_icmp_lt 45 43 gq49 rfl rfl rfl c3 (by omega) (fun c => ?_) (fun c => ?_)
    · replace h := h.1 c
      refine g_aload_n 46 gq49 rfl rfl rfl ?_
      refine g_getA 49 10 gq49 rfl rfl rfl rfl rfl rfl rfl ?_
      refine g_iload_n 50 gq49 rfl rfl rfl ?_
      refine g_aload_n 51 gq49 rfl rfl rfl ?_
      refine g_getA 54 5 gq49 rfl rfl rfl rfl rfl rfl rfl ?_
      refine g_aload_n 55 gq49 rfl rfl rfl ?_
      refine g_getI 58 gq49 rfl rfl rfl rfl rfl rfl ?_
      have c20 := h.1
      replace h := h.2
      refine g_iald 59 gq49 rfl rfl rfl c20 ?_
      have c23 := h.1
      replace h := h.2
      refine g_iast 60 gq49 rfl rfl rfl c23 ?_
      refine g_aload_n 61 gq49 rfl rfl rfl ?_
      refine g_aload_n 62 gq49 rfl rfl rfl ?_
      refine g_getI 65 gq49 rfl rfl rfl rfl rfl rfl ?_
      refine g_iload_n 66 gq49 rfl rfl rfl ?_
      refine g_iconst 67 gq49 rfl rfl ?_
      refine g_iadd 68 gq49 rfl rfl ?_
      have c32 := h.1
      replace h := h.2
      have c34 := h.1
      replace h := h.2
      refine g_static 221 _ (i := 141) gq49 rfl rfl gq221 rfl rfl rfl rfl ?_
      refine sp_max c32 c34 ?_
      refine g_putI 74 gq49 rfl rfl rfl rfl rfl rfl rfl rfl ?_
      refine g_aload_n 75 gq49 rfl rfl rfl ?_
      refine g_getA 78 7 gq49 rfl rfl rfl rfl rfl rfl rfl ?_
      refine g_aload_n 79 gq49 rfl rfl rfl ?_
      refine g_getI 82 gq49 rfl rfl rfl rfl rfl rfl ?_
      refine g_iload_n 83 gq49 rfl rfl rfl ?_
      have c44 := h.1
      replace h := h.2
      refine g_iast 84 gq49 rfl rfl rfl c44 ?_
      refine g_iconst 85 gq49 rfl rfl ?_
      exact g_zret gq49 rfl rfl (by omega) h
    · replace h := h.2 c
      refine g_iconst 44 gq49 rfl rfl ?_
      exact g_zret gq49 rfl rfl (by omega) h
  · replace h := h.2 c
    refine g_aload_n 11 gq49 rfl rfl rfl ?_
    refine g_getA 14 10 gq49 rfl rfl rfl rfl rfl rfl rfl ?_
    refine g_iload_n 15 gq49 rfl rfl rfl ?_
    have c56 := h.1
    replace h := h.2
    refine g_iald 16 gq49 rfl rfl rfl c56 ?_
    refine g_aload_n 17 gq49 rfl rfl rfl ?_
    refine g_getA 20 5 gq49 rfl rfl rfl rfl rfl rfl rfl ?_
    refine g_aload_n 21 gq49 rfl rfl rfl ?_
    refine g_getI 24 gq49 rfl rfl rfl rfl rfl rfl ?_
    have c63 := h.1
    replace h := h.2
    refine g_iald 25 gq49 rfl rfl rfl c63 ?_
    have c66 := h.1
    replace h := h.2
    have c68 := h.1
    replace h := h.2
    refine g_icmp_ne 31 28 gq49 rfl rfl rfl c66 c68 (fun c => ?_) (fun c => ?_)
    · replace h := h.1 c
      refine g_iinc 34 gq49 rfl rfl rfl rfl ?_
      refine g_goto 2 gq49 rfl rfl ?_
      exact kGo.weak (km_Le.s (km_Le.s km_Le.nil)) h
    · replace h := h.2 c
      refine g_goto 37 gq49 rfl rfl ?_
      refine g_iload_n 38 gq49 rfl rfl rfl ?_
      refine g_bipush 40 gq49 rfl rfl rfl ?_
      refine g_icmp_lt 45 43 gq49 rfl rfl rfl c3 (by omega) (fun c => ?_) (fun c => ?_)
      · replace h := h.1 c
        refine g_aload_n 46 gq49 rfl rfl rfl ?_
        refine g_getA 49 10 gq49 rfl rfl rfl rfl rfl rfl rfl ?_
        refine g_iload_n 50 gq49 rfl rfl rfl ?_
        refine g_aload_n 51 gq49 rfl rfl rfl ?_
        refine g_getA 54 5 gq49 rfl rfl rfl rfl rfl rfl rfl ?_
        refine g_aload_n 55 gq49 rfl rfl rfl ?_
        refine g_getI 58 gq49 rfl rfl rfl rfl rfl rfl ?_
        refine g_iald 59 gq49 rfl rfl rfl c63 ?_
        refine g_iast 60 gq49 rfl rfl rfl c56 ?_
        refine g_aload_n 61 gq49 rfl rfl rfl ?_
        refine g_aload_n 62 gq49 rfl rfl rfl ?_
        refine g_getI 65 gq49 rfl rfl rfl rfl rfl rfl ?_
        refine g_iload_n 66 gq49 rfl rfl rfl ?_
        refine g_iconst 67 gq49 rfl rfl ?_
        refine g_iadd 68 gq49 rfl rfl ?_
        have c96 := h.1
        replace h := h.2
        have c98 := h.1
        replace h := h.2
        refine g_static 221 _ (i := 141) gq49 rfl rfl gq221 rfl rfl rfl rfl ?_
        refine sp_max c96 c98 ?_
        refine g_putI 74 gq49 rfl rfl rfl rfl rfl rfl rfl rfl ?_
        refine g_aload_n 75 gq49 rfl rfl rfl ?_
        refine g_getA 78 7 gq49 rfl rfl rfl rfl rfl rfl rfl ?_
        refine g_aload_n 79 gq49 rfl rfl rfl ?_
        refine g_getI 82 gq49 rfl rfl rfl rfl rfl rfl ?_
        refine g_iload_n 83 gq49 rfl rfl rfl ?_
        have c108 := h.1
        replace h := h.2
        refine g_iast 84 gq49 rfl rfl rfl c108 ?_
        refine g_iconst 85 gq49 rfl rfl ?_
        exact g_zret gq49 rfl rfl (by omega) h
      · replace h := h.2 c
        refine g_iconst 44 gq49 rfl rfl ?_
        exact g_zret gq49 rfl rfl (by omega) h
set_option maxRecDepth 10000 in
theorem b50_0 {xs : Nat → Int32} {Lx d : Nat} {V : km_V} {Q : Option Value → km_V → Prop} 
    (h : kGo xs Lx (d + 1) 50 2 [some (.ref 3), some (kI 0), none] [] V Q) :
    kGo xs Lx (d + 1) 50 0 [some (.ref 3), none, none] [] V Q := by
  refine g_iconst 1 gq50 rfl rfl ?_
  refine g_istore_n 2 gq50 rfl rfl rfl ?_
  exact kGo.weak (km_Le.s (km_Le.s (km_Le.n km_Le.nil))) h
set_option maxRecDepth 10000 in
theorem b50_2 {xs : Nat → Int32} {Lx d : Nat} {V : km_V} {Q : Option Value → km_V → Prop} {x1 : Int} 
    (h : (kR x1) ∧ (kR (V 3 6)) ∧ (((V 3 6) ≤ x1 →
    kGo xs Lx (d + 1) 50 25 [some (.ref 3), some (kI 0), none] [] V Q) ∧
   (x1 < (V 3 6) →
    (0 ≤ x1 ∧ x1 < (8 : Nat)) ∧ kGo xs Lx (d + 1) 50 2 [some (.ref 3), some (kI (x1 + 1)), none] [] (up V 11 (Int.toNat x1) 0) Q))) :
    kGo xs Lx (d + 1) 50 2 [some (.ref 3), some (kI x1), none] [] V Q := by
  refine g_iload_n 3 gq50 rfl rfl rfl ?_
  refine g_aload_n 4 gq50 rfl rfl rfl ?_
  refine g_getI 7 gq50 rfl rfl rfl rfl rfl rfl ?_
  have c3 := h.1
  replace h := h.2
  have c5 := h.1
  replace h := h.2
  refine g_icmp_ge 23 10 gq50 rfl rfl rfl c3 c5 (fun c => ?_) (fun c => ?_)
  · replace h := h.1 c
    refine g_iconst 24 gq50 rfl rfl ?_
    refine g_istore_n 25 gq50 rfl rfl rfl ?_
    exact kGo.weak (km_Le.s (km_Le.s (km_Le.n km_Le.nil))) h
  · replace h := h.2 c
    refine g_aload_n 11 gq50 rfl rfl rfl ?_
    refine g_getA 14 11 gq50 rfl rfl rfl rfl rfl rfl rfl ?_
    refine g_iload_n 15 gq50 rfl rfl rfl ?_
    refine g_iconst 16 gq50 rfl rfl ?_
    have c17 := h.1
    replace h := h.2
    refine g_iast 17 gq50 rfl rfl rfl c17 ?_
    refine g_iinc 20 gq50 rfl rfl rfl rfl ?_
    refine g_goto 2 gq50 rfl rfl ?_
    exact kGo.weak (km_Le.s (km_Le.s (km_Le.n km_Le.nil))) h
set_option maxRecDepth 10000 in
theorem b50_25 {xs : Nat → Int32} {Lx d : Nat} {V : km_V} {Q : Option Value → km_V → Prop} {x1 : Int} 
    (h : (kR x1) ∧ (kR (V 3 7)) ∧ (((V 3 7) ≤ x1 →
    kGo xs Lx (d + 1) 50 129 [some (.ref 3), some (kI 0), none] [] V Q) ∧
   (x1 < (V 3 7) →
    (0 ≤ x1 ∧ x1 < (134 : Nat)) ∧ (∀ z1 : Int, z1 = (V 7 (Int.toNat x1)) → (kR (V 5 (Int.toNat x1))) ∧ (((V 5 (Int.toNat x1)) ≤ 99 →
      (0 ≤ z1 ∧ z1 < (8 : Nat)) ∧ (kR (V 11 (Int.toNat z1))) ∧ (((V 11 (Int.toNat z1)) ≤ 0 →
        kGo xs Lx (d + 1) 50 25 [some (.ref 3), some (kI (x1 + 1)), none] [] (up (up V 12 (Int.toNat z1) x1) 11 (Int.toNat z1) (((up V 12 (Int.toNat z1) x1) 11 (Int.toNat z1)) + 1)) Q) ∧
       (0 < (V 11 (Int.toNat z1)) →
        kCI xs Lx (d + 0) 51 4 [.ref 3, kI (V 12 (Int.toNat z1)), kI x1, kI (V 11 (Int.toNat z1))] V (fun y2 W2 =>
        (kR y2) ∧ ((y2 ≠ 0 →
          kGo xs Lx (d + 1) 50 25 [some (.ref 3), some (kI (x1 + 1)), none] [] (up (up W2 12 (Int.toNat z1) x1) 11 (Int.toNat z1) (((up W2 12 (Int.toNat z1) x1) 11 (Int.toNat z1)) + 1)) Q) ∧
         (y2 = 0 →
          Q (some (kI 0)) (up (up W2 3 0 3) 3 1 (W2 6 (Int.toNat x1))))))))) ∧
     (99 < (V 5 (Int.toNat x1)) →
      Q (some (kI 0)) (up (up V 3 0 5) 3 1 (V 6 (Int.toNat x1))))))))) :
    kGo xs Lx (d + 1) 50 25 [some (.ref 3), some (kI x1), none] [] V Q := by
  refine g_iload_n 26 gq50 rfl rfl rfl ?_
  refine g_aload_n 27 gq50 rfl rfl rfl ?_
  refine g_getI 30 gq50 rfl rfl rfl rfl rfl rfl ?_
  have c3 := h.1
  replace h := h.2
  have c5 := h.1
  replace h := h.2
  refine g_icmp_ge 127 33 gq50 rfl rfl rfl c3 c5 (fun c => ?_) (fun c => ?_)
  · replace h := h.1 c
    refine g_iconst 128 gq50 rfl rfl ?_
    refine g_istore_n 129 gq50 rfl rfl rfl ?_
    exact kGo.weak (km_Le.s (km_Le.s (km_Le.n km_Le.nil))) h
  · replace h := h.2 c
    refine g_aload_n 34 gq50 rfl rfl rfl ?_
    refine g_getA 37 7 gq50 rfl rfl rfl rfl rfl rfl rfl ?_
    refine g_iload_n 38 gq50 rfl rfl rfl ?_
    have c16 := h.1
    replace h := h.2
    refine g_iald 39 gq50 rfl rfl rfl c16 ?_
    refine g_istore_n 40 gq50 rfl rfl rfl ?_
    replace h := h _ rfl
    refine g_aload_n 41 gq50 rfl rfl rfl ?_
    refine g_getA 44 5 gq50 rfl rfl rfl rfl rfl rfl rfl ?_
    refine g_iload_n 45 gq50 rfl rfl rfl ?_
    refine g_iald 46 gq50 rfl rfl rfl c16 ?_
    refine g_bipush 48 gq50 rfl rfl rfl ?_
    have c26 := h.1
    replace h := h.2
    refine g_icmp_le 63 51 gq50 rfl rfl rfl c26 (by omega) (fun c => ?_) (fun c => ?_)
    · replace h := h.1 c
      refine g_aload_n 64 gq50 rfl rfl rfl ?_
      refine g_getA 67 11 gq50 rfl rfl rfl rfl rfl rfl rfl ?_
      refine g_iload_n 68 gq50 rfl rfl rfl ?_
      have c33 := h.1
      replace h := h.2
      refine g_iald 69 gq50 rfl rfl rfl c33 ?_
      have c36 := h.1
      replace h := h.2
      refine g_if_le 104 72 gq50 rfl rfl rfl c36 (fun c => ?_) (fun c => ?_)
      · replace h := h.1 c
        refine g_aload_n 105 gq50 rfl rfl rfl ?_
        refine g_getA 108 12 gq50 rfl rfl rfl rfl rfl rfl rfl ?_
        refine g_iload_n 109 gq50 rfl rfl rfl ?_
        refine g_iload_n 110 gq50 rfl rfl rfl ?_
        refine g_iast 111 gq50 rfl rfl rfl c33 ?_
        refine g_aload_n 112 gq50 rfl rfl rfl ?_
        refine g_getA 115 11 gq50 rfl rfl rfl rfl rfl rfl rfl ?_
        refine g_iload_n 116 gq50 rfl rfl rfl ?_
        refine g_dup2 117 gq50 rfl rfl rfl rfl ?_
        refine g_iald 118 gq50 rfl rfl rfl c33 ?_
        refine g_iconst 119 gq50 rfl rfl ?_
        refine g_iadd 120 gq50 rfl rfl ?_
        refine g_iast 121 gq50 rfl rfl rfl c33 ?_
        refine g_iinc 124 gq50 rfl rfl rfl rfl ?_
        refine g_goto 25 gq50 rfl rfl ?_
        exact kGo.weak (km_Le.s (km_Le.s (km_Le.n km_Le.nil))) h
      · replace h := h.2 c
        refine g_aload_n 73 gq50 rfl rfl rfl ?_
        refine g_aload_n 74 gq50 rfl rfl rfl ?_
        refine g_getA 77 12 gq50 rfl rfl rfl rfl rfl rfl rfl ?_
        refine g_iload_n 78 gq50 rfl rfl rfl ?_
        refine g_iald 79 gq50 rfl rfl rfl c33 ?_
        refine g_iload_n 80 gq50 rfl rfl rfl ?_
        refine g_aload_n 81 gq50 rfl rfl rfl ?_
        refine g_getA 84 11 gq50 rfl rfl rfl rfl rfl rfl rfl ?_
        refine g_iload_n 85 gq50 rfl rfl rfl ?_
        refine g_iald 86 gq50 rfl rfl rfl c33 ?_
        refine g_virt 51 _ (i := 146) gq50 rfl rfl gq51 rfl rfl rfl rfl rfl rfl ?_
        refine kGo.mono h (fun r W2 hr => ?_)
        obtain ⟨y2, rfl, h⟩ := hr
        have c70 := h.1
        replace h := h.2
        refine g_if_ne 104 92 gq50 rfl rfl rfl c70 (fun c => ?_) (fun c => ?_)
        · replace h := h.1 c
          refine g_aload_n 105 gq50 rfl rfl rfl ?_
          refine g_getA 108 12 gq50 rfl rfl rfl rfl rfl rfl rfl ?_
          refine g_iload_n 109 gq50 rfl rfl rfl ?_
          refine g_iload_n 110 gq50 rfl rfl rfl ?_
          refine g_iast 111 gq50 rfl rfl rfl c33 ?_
          refine g_aload_n 112 gq50 rfl rfl rfl ?_
          refine g_getA 115 11 gq50 rfl rfl rfl rfl rfl rfl rfl ?_
          refine g_iload_n 116 gq50 rfl rfl rfl ?_
          refine g_dup2 117 gq50 rfl rfl rfl rfl ?_
          refine g_iald 118 gq50 rfl rfl rfl c33 ?_
          refine g_iconst 119 gq50 rfl rfl ?_
          refine g_iadd 120 gq50 rfl rfl ?_
          refine g_iast 121 gq50 rfl rfl rfl c33 ?_
          refine g_iinc 124 gq50 rfl rfl rfl rfl ?_
          refine g_goto 25 gq50 rfl rfl ?_
          exact kGo.weak (km_Le.s (km_Le.s (km_Le.n km_Le.nil))) h
        · replace h := h.2 c
          refine g_aload_n 93 gq50 rfl rfl rfl ?_
          refine g_iconst 94 gq50 rfl rfl ?_
          refine g_aload_n 95 gq50 rfl rfl rfl ?_
          refine g_getA 98 6 gq50 rfl rfl rfl rfl rfl rfl rfl ?_
          refine g_iload_n 99 gq50 rfl rfl rfl ?_
          refine g_iald 100 gq50 rfl rfl rfl c16 ?_
          refine g_virt 42 _ (i := 86) gq50 rfl rfl gq42 rfl rfl rfl rfl rfl rfl ?_
          refine g_aload_n 1 gq42 rfl rfl rfl ?_
          refine g_iload_n 2 gq42 rfl rfl rfl ?_
          refine g_putI 5 gq42 rfl rfl rfl rfl rfl rfl rfl rfl ?_
          refine g_aload_n 6 gq42 rfl rfl rfl ?_
          refine g_iload_n 7 gq42 rfl rfl rfl ?_
          refine g_putI 10 gq42 rfl rfl rfl rfl rfl rfl rfl rfl ?_
          refine g_iconst 11 gq42 rfl rfl ?_
          refine g_zret gq42 rfl rfl (by omega) ?_
          exact g_zret gq50 rfl rfl (by omega) h
    · replace h := h.2 c
      refine g_aload_n 52 gq50 rfl rfl rfl ?_
      refine g_iconst 53 gq50 rfl rfl ?_
      refine g_aload_n 54 gq50 rfl rfl rfl ?_
      refine g_getA 57 6 gq50 rfl rfl rfl rfl rfl rfl rfl ?_
      refine g_iload_n 58 gq50 rfl rfl rfl ?_
      refine g_iald 59 gq50 rfl rfl rfl c16 ?_
      refine g_virt 42 _ (i := 86) gq50 rfl rfl gq42 rfl rfl rfl rfl rfl rfl ?_
      refine g_aload_n 1 gq42 rfl rfl rfl ?_
      refine g_iload_n 2 gq42 rfl rfl rfl ?_
      refine g_putI 5 gq42 rfl rfl rfl rfl rfl rfl rfl rfl ?_
      refine g_aload_n 6 gq42 rfl rfl rfl ?_
      refine g_iload_n 7 gq42 rfl rfl rfl ?_
      refine g_putI 10 gq42 rfl rfl rfl rfl rfl rfl rfl rfl ?_
      refine g_iconst 11 gq42 rfl rfl ?_
      refine g_zret gq42 rfl rfl (by omega) ?_
      exact g_zret gq50 rfl rfl (by omega) h
set_option maxRecDepth 10000 in
theorem b50_129 {xs : Nat → Int32} {Lx d : Nat} {V : km_V} {Q : Option Value → km_V → Prop} {x1 : Int} 
    (h : (kR x1) ∧ (kR (V 3 7)) ∧ (((V 3 7) ≤ x1 →
    Q (some (kI 1)) V) ∧
   (x1 < (V 3 7) →
    (0 ≤ x1 ∧ x1 < (134 : Nat)) ∧ (0 ≤ (V 7 (Int.toNat x1)) ∧ (V 7 (Int.toNat x1)) < (8 : Nat)) ∧ (kR (V 11 (Int.toNat (V 7 (Int.toNat x1))))) ∧ (((V 11 (Int.toNat (V 7 (Int.toNat x1)))) ≠ 1 →
      kGo xs Lx (d + 1) 50 129 [some (.ref 3), some (kI (x1 + 1)), none] [] V Q) ∧
     ((V 11 (Int.toNat (V 7 (Int.toNat x1)))) = 1 →
      Q (some (kI 0)) (up (up V 3 0 4) 3 1 (V 6 (Int.toNat x1)))))))) :
    kGo xs Lx (d + 1) 50 129 [some (.ref 3), some (kI x1), none] [] V Q := by
  refine g_iload_n 130 gq50 rfl rfl rfl ?_
  refine g_aload_n 131 gq50 rfl rfl rfl ?_
  refine g_getI 134 gq50 rfl rfl rfl rfl rfl rfl ?_
  have c3 := h.1
  replace h := h.2
  have c5 := h.1
  replace h := h.2
  refine g_icmp_ge 170 137 gq50 rfl rfl rfl c3 c5 (fun c => ?_) (fun c => ?_)
  · replace h := h.1 c
    refine g_iconst 171 gq50 rfl rfl ?_
    exact g_zret gq50 rfl rfl (by omega) h
  · replace h := h.2 c
    refine g_aload_n 138 gq50 rfl rfl rfl ?_
    refine g_getA 141 11 gq50 rfl rfl rfl rfl rfl rfl rfl ?_
    refine g_aload_n 142 gq50 rfl rfl rfl ?_
    refine g_getA 145 7 gq50 rfl rfl rfl rfl rfl rfl rfl ?_
    refine g_iload_n 146 gq50 rfl rfl rfl ?_
    have c17 := h.1
    replace h := h.2
    refine g_iald 147 gq50 rfl rfl rfl c17 ?_
    have c20 := h.1
    replace h := h.2
    refine g_iald 148 gq50 rfl rfl rfl c20 ?_
    refine g_iconst 149 gq50 rfl rfl ?_
    have c24 := h.1
    replace h := h.2
    refine g_icmp_ne 164 152 gq50 rfl rfl rfl c24 (by omega) (fun c => ?_) (fun c => ?_)
    · replace h := h.1 c
      refine g_iinc 167 gq50 rfl rfl rfl rfl ?_
      refine g_goto 129 gq50 rfl rfl ?_
      exact kGo.weak (km_Le.s (km_Le.s (km_Le.n km_Le.nil))) h
    · replace h := h.2 c
      refine g_aload_n 153 gq50 rfl rfl rfl ?_
      refine g_iconst 154 gq50 rfl rfl ?_
      refine g_aload_n 155 gq50 rfl rfl rfl ?_
      refine g_getA 158 6 gq50 rfl rfl rfl rfl rfl rfl rfl ?_
      refine g_iload_n 159 gq50 rfl rfl rfl ?_
      refine g_iald 160 gq50 rfl rfl rfl c17 ?_
      refine g_virt 42 _ (i := 86) gq50 rfl rfl gq42 rfl rfl rfl rfl rfl rfl ?_
      refine g_aload_n 1 gq42 rfl rfl rfl ?_
      refine g_iload_n 2 gq42 rfl rfl rfl ?_
      refine g_putI 5 gq42 rfl rfl rfl rfl rfl rfl rfl rfl ?_
      refine g_aload_n 6 gq42 rfl rfl rfl ?_
      refine g_iload_n 7 gq42 rfl rfl rfl ?_
      refine g_putI 10 gq42 rfl rfl rfl rfl rfl rfl rfl rfl ?_
      refine g_iconst 11 gq42 rfl rfl ?_
      refine g_zret gq42 rfl rfl (by omega) ?_
      exact g_zret gq50 rfl rfl (by omega) h
set_option maxRecDepth 10000 in
theorem b51_0 {xs : Nat → Int32} {Lx d : Nat} {V : km_V} {Q : Option Value → km_V → Prop} {a1 a2 a3 : Int} 
    (h : (kR a3) ∧ ((a3 ≠ 1 →
    Q (some (kI 0)) V) ∧
   (a3 = 1 →
    (0 ≤ a1 ∧ a1 < (134 : Nat)) ∧ (0 ≤ a2 ∧ a2 < (134 : Nat)) ∧ (kR (V 8 (Int.toNat a1))) ∧ (kR (V 8 (Int.toNat a2))) ∧ (((V 8 (Int.toNat a1)) = (V 8 (Int.toNat a2)) →
      Q (some (kI 0)) V) ∧
     ((V 8 (Int.toNat a1)) ≠ (V 8 (Int.toNat a2)) →
      (kR (V 9 (Int.toNat a1))) ∧ (kR (V 9 (Int.toNat a2))) ∧ (((V 9 (Int.toNat a1)) ≠ (V 9 (Int.toNat a2)) →
        Q (some (kI 0)) V) ∧
       ((V 9 (Int.toNat a1)) = (V 9 (Int.toNat a2)) →
        Q (some (kI 1)) V))))))) :
    kGo xs Lx (d + 0) 51 0 [some (.ref 3), some (kI a1), some (kI a2), some (kI a3)] [] V Q := by
  refine g_iload_n 1 gq51 rfl rfl rfl ?_
  refine g_iconst 2 gq51 rfl rfl ?_
  have c2 := h.1
  replace h := h.2
  refine g_icmp_ne 39 5 gq51 rfl rfl rfl c2 (by omega) (fun c => ?_) (fun c => ?_)
  · replace h := h.1 c
    refine g_iconst 40 gq51 rfl rfl ?_
    exact g_zret gq51 rfl rfl (by omega) h
  · replace h := h.2 c
    refine g_aload_n 6 gq51 rfl rfl rfl ?_
    refine g_getA 9 8 gq51 rfl rfl rfl rfl rfl rfl rfl ?_
    refine g_iload_n 10 gq51 rfl rfl rfl ?_
    have c12 := h.1
    replace h := h.2
    refine g_zald 11 gq51 rfl rfl rfl c12 ?_
    refine g_aload_n 12 gq51 rfl rfl rfl ?_
    refine g_getA 15 8 gq51 rfl rfl rfl rfl rfl rfl rfl ?_
    refine g_iload_n 16 gq51 rfl rfl rfl ?_
    have c18 := h.1
    replace h := h.2
    refine g_zald 17 gq51 rfl rfl rfl c18 ?_
    have c21 := h.1
    replace h := h.2
    have c23 := h.1
    replace h := h.2
    refine g_icmp_eq 39 20 gq51 rfl rfl rfl c21 c23 (fun c => ?_) (fun c => ?_)
    · replace h := h.1 c
      refine g_iconst 40 gq51 rfl rfl ?_
      exact g_zret gq51 rfl rfl (by omega) h
    · replace h := h.2 c
      refine g_aload_n 21 gq51 rfl rfl rfl ?_
      refine g_getA 24 9 gq51 rfl rfl rfl rfl rfl rfl rfl ?_
      refine g_iload_n 25 gq51 rfl rfl rfl ?_
      refine g_zald 26 gq51 rfl rfl rfl c12 ?_
      refine g_aload_n 27 gq51 rfl rfl rfl ?_
      refine g_getA 30 9 gq51 rfl rfl rfl rfl rfl rfl rfl ?_
      refine g_iload_n 31 gq51 rfl rfl rfl ?_
      refine g_zald 32 gq51 rfl rfl rfl c18 ?_
      have c38 := h.1
      replace h := h.2
      have c40 := h.1
      replace h := h.2
      refine g_icmp_ne 39 35 gq51 rfl rfl rfl c38 c40 (fun c => ?_) (fun c => ?_)
      · replace h := h.1 c
        refine g_iconst 40 gq51 rfl rfl ?_
        exact g_zret gq51 rfl rfl (by omega) h
      · replace h := h.2 c
        refine g_iconst 36 gq51 rfl rfl ?_
        refine g_goto 40 gq51 rfl rfl ?_
        exact g_zret gq51 rfl rfl (by omega) h
set_option maxRecDepth 10000 in
theorem b52_0 {xs : Nat → Int32} {Lx d : Nat} {V : km_V} {Q : Option Value → km_V → Prop} {r1 : Nat} (hr1 : km_sh[r1]? = some (5, 5))
    (h : (0 ≤ ((up (up V r1 0 (V 3 3)) r1 1 ((up V r1 0 (V 3 3)) 3 6)) 3 3) ∧ ((up (up V r1 0 (V 3 3)) r1 1 ((up V r1 0 (V 3 3)) 3 6)) 3 3) < (5 : Nat)) ∧ kGo xs Lx (d + 0) 52 31 [some (.ref 3), some (.ref r1), some (kI 0)] [] (up (up (up V r1 0 (V 3 3)) r1 1 ((up V r1 0 (V 3 3)) 3 6)) 4 (Int.toNat ((up (up V r1 0 (V 3 3)) r1 1 ((up V r1 0 (V 3 3)) 3 6)) 3 3)) ((up (up V r1 0 (V 3 3)) r1 1 ((up V r1 0 (V 3 3)) 3 6)) 3 7)) Q) :
    kGo xs Lx (d + 0) 52 0 [some (.ref 3), some (.ref r1), none] [] V Q := by
  refine g_aload_n 1 gq52 rfl rfl rfl ?_
  refine g_aload_n 2 gq52 rfl rfl rfl ?_
  refine g_getI 5 gq52 rfl rfl rfl rfl rfl rfl ?_
  refine g_putI 8 gq52 rfl rfl rfl hr1 rfl rfl rfl rfl ?_
  refine g_aload_n 9 gq52 rfl rfl rfl ?_
  refine g_aload_n 10 gq52 rfl rfl rfl ?_
  refine g_getI 13 gq52 rfl rfl rfl rfl rfl rfl ?_
  refine g_putI 16 gq52 rfl rfl rfl hr1 rfl rfl rfl rfl ?_
  refine g_aload_n 17 gq52 rfl rfl rfl ?_
  refine g_getA 20 4 gq52 rfl rfl rfl rfl rfl rfl rfl ?_
  refine g_aload_n 21 gq52 rfl rfl rfl ?_
  refine g_getI 24 gq52 rfl rfl rfl rfl rfl rfl ?_
  refine g_aload_n 25 gq52 rfl rfl rfl ?_
  refine g_getI 28 gq52 rfl rfl rfl rfl rfl rfl ?_
  have c14 := h.1
  replace h := h.2
  refine g_iast 29 gq52 rfl rfl rfl c14 ?_
  refine g_iconst 30 gq52 rfl rfl ?_
  refine g_istore_n 31 gq52 rfl rfl rfl ?_
  exact kGo.weak (km_Le.s (km_Le.s (km_Le.s km_Le.nil))) h
set_option maxRecDepth 10000 in
theorem b52_31 {xs : Nat → Int32} {Lx d : Nat} {V : km_V} {Q : Option Value → km_V → Prop} {x2 : Int} {q1 : Nat} (hq1 : km_sh[q1]? = some (5, 5))
    (h : (kR x2) ∧ (kR (V 3 3)) ∧ (((V 3 3) < x2 →
    kGo xs Lx (d + 0) 52 59 [some (.ref 3), some (.ref q1), some (kI 0)] [] V Q) ∧
   (x2 ≤ (V 3 3) →
    (0 ≤ x2 ∧ x2 < (5 : Nat)) ∧ kGo xs Lx (d + 0) 52 31 [some (.ref 3), some (.ref q1), some (kI (x2 + 1))] [] (up V (q1 + 1) (Int.toNat x2) (V 4 (Int.toNat x2))) Q))) :
    kGo xs Lx (d + 0) 52 31 [some (.ref 3), some (.ref q1), some (kI x2)] [] V Q := by
  refine g_iload_n 32 gq52 rfl rfl rfl ?_
  refine g_aload_n 33 gq52 rfl rfl rfl ?_
  refine g_getI 36 gq52 rfl rfl rfl rfl rfl rfl ?_
  have c3 := h.1
  replace h := h.2
  have c5 := h.1
  replace h := h.2
  refine g_icmp_gt 57 39 gq52 rfl rfl rfl c3 c5 (fun c => ?_) (fun c => ?_)
  · replace h := h.1 c
    refine g_iconst 58 gq52 rfl rfl ?_
    refine g_istore_n 59 gq52 rfl rfl rfl ?_
    exact kGo.weak (km_Le.s (km_Le.s (km_Le.s km_Le.nil))) h
  · replace h := h.2 c
    refine g_aload_n 40 gq52 rfl rfl rfl ?_
    refine g_getA 43 (q1 + 1) gq52 rfl rfl rfl hq1 rfl rfl (rfR2 hq1) ?_
    refine g_iload_n 44 gq52 rfl rfl rfl ?_
    refine g_aload_n 45 gq52 rfl rfl rfl ?_
    refine g_getA 48 4 gq52 rfl rfl rfl rfl rfl rfl rfl ?_
    refine g_iload_n 49 gq52 rfl rfl rfl ?_
    have c19 := h.1
    replace h := h.2
    refine g_iald 50 gq52 rfl rfl rfl c19 ?_
    refine g_iast 51 gq52 rfl rfl (shR2 hq1) c19 ?_
    refine g_iinc 54 gq52 rfl rfl rfl rfl ?_
    refine g_goto 31 gq52 rfl rfl ?_
    exact kGo.weak (km_Le.s (km_Le.s (km_Le.s km_Le.nil))) h
set_option maxRecDepth 10000 in
theorem b52_59 {xs : Nat → Int32} {Lx d : Nat} {V : km_V} {Q : Option Value → km_V → Prop} {x2 : Int} {q1 : Nat} (hq1 : km_sh[q1]? = some (5, 5))
    (h : (kR x2) ∧ (kR (V 3 7)) ∧ (((V 3 7) ≤ x2 →
    Q none V) ∧
   (x2 < (V 3 7) →
    ((16 ≤ x2 →
      Q none V) ∧
     (x2 < 16 →
      (0 ≤ x2 ∧ x2 < (134 : Nat)) ∧ (kR (V 8 (Int.toNat x2))) ∧ (((V 8 (Int.toNat x2)) = 0 →
        (0 ≤ x2 ∧ x2 < (16 : Nat)) ∧ (kR ((up V (q1 + 2) (Int.toNat x2) ((2 * (V 7 (Int.toNat x2))) + 0)) 9 (Int.toNat x2))) ∧ ((((up V (q1 + 2) (Int.toNat x2) ((2 * (V 7 (Int.toNat x2))) + 0)) 9 (Int.toNat x2)) = 0 →
          (0 ≤ ((up V (q1 + 2) (Int.toNat x2) ((2 * (V 7 (Int.toNat x2))) + 0)) 7 (Int.toNat x2)) ∧ ((up V (q1 + 2) (Int.toNat x2) ((2 * (V 7 (Int.toNat x2))) + 0)) 7 (Int.toNat x2)) < (8 : Nat)) ∧ kGo xs Lx (d + 0) 52 59 [some (.ref 3), some (.ref q1), some (kI (x2 + 1))] [] (up (up V (q1 + 2) (Int.toNat x2) ((2 * (V 7 (Int.toNat x2))) + 0)) (q1 + 3) (Int.toNat ((up V (q1 + 2) (Int.toNat x2) ((2 * (V 7 (Int.toNat x2))) + 0)) 7 (Int.toNat x2))) (-1)) Q) ∧
         (((up V (q1 + 2) (Int.toNat x2) ((2 * (V 7 (Int.toNat x2))) + 0)) 9 (Int.toNat x2)) ≠ 0 →
          (0 ≤ ((up V (q1 + 2) (Int.toNat x2) ((2 * (V 7 (Int.toNat x2))) + 0)) 7 (Int.toNat x2)) ∧ ((up V (q1 + 2) (Int.toNat x2) ((2 * (V 7 (Int.toNat x2))) + 0)) 7 (Int.toNat x2)) < (8 : Nat)) ∧ kGo xs Lx (d + 0) 52 59 [some (.ref 3), some (.ref q1), some (kI (x2 + 1))] [] (up (up V (q1 + 2) (Int.toNat x2) ((2 * (V 7 (Int.toNat x2))) + 0)) (q1 + 3) (Int.toNat ((up V (q1 + 2) (Int.toNat x2) ((2 * (V 7 (Int.toNat x2))) + 0)) 7 (Int.toNat x2))) 1) Q))) ∧
       ((V 8 (Int.toNat x2)) ≠ 0 →
        (0 ≤ x2 ∧ x2 < (16 : Nat)) ∧ (kR ((up V (q1 + 2) (Int.toNat x2) ((2 * (V 7 (Int.toNat x2))) + 1)) 9 (Int.toNat x2))) ∧ ((((up V (q1 + 2) (Int.toNat x2) ((2 * (V 7 (Int.toNat x2))) + 1)) 9 (Int.toNat x2)) = 0 →
          (0 ≤ ((up V (q1 + 2) (Int.toNat x2) ((2 * (V 7 (Int.toNat x2))) + 1)) 7 (Int.toNat x2)) ∧ ((up V (q1 + 2) (Int.toNat x2) ((2 * (V 7 (Int.toNat x2))) + 1)) 7 (Int.toNat x2)) < (8 : Nat)) ∧ kGo xs Lx (d + 0) 52 59 [some (.ref 3), some (.ref q1), some (kI (x2 + 1))] [] (up (up V (q1 + 2) (Int.toNat x2) ((2 * (V 7 (Int.toNat x2))) + 1)) (q1 + 3) (Int.toNat ((up V (q1 + 2) (Int.toNat x2) ((2 * (V 7 (Int.toNat x2))) + 1)) 7 (Int.toNat x2))) (-1)) Q) ∧
         (((up V (q1 + 2) (Int.toNat x2) ((2 * (V 7 (Int.toNat x2))) + 1)) 9 (Int.toNat x2)) ≠ 0 →
          (0 ≤ ((up V (q1 + 2) (Int.toNat x2) ((2 * (V 7 (Int.toNat x2))) + 1)) 7 (Int.toNat x2)) ∧ ((up V (q1 + 2) (Int.toNat x2) ((2 * (V 7 (Int.toNat x2))) + 1)) 7 (Int.toNat x2)) < (8 : Nat)) ∧ kGo xs Lx (d + 0) 52 59 [some (.ref 3), some (.ref q1), some (kI (x2 + 1))] [] (up (up V (q1 + 2) (Int.toNat x2) ((2 * (V 7 (Int.toNat x2))) + 1)) (q1 + 3) (Int.toNat ((up V (q1 + 2) (Int.toNat x2) ((2 * (V 7 (Int.toNat x2))) + 1)) 7 (Int.toNat x2))) 1) Q))))))))) :
    kGo xs Lx (d + 0) 52 59 [some (.ref 3), some (.ref q1), some (kI x2)] [] V Q := by
  refine g_iload_n 60 gq52 rfl rfl rfl ?_
  refine g_aload_n 61 gq52 rfl rfl rfl ?_
  refine g_getI 64 gq52 rfl rfl rfl rfl rfl rfl ?_
  have c3 := h.1
  replace h := h.2
  have c5 := h.1
  replace h := h.2
  refine g_icmp_ge 133 67 gq52 rfl rfl rfl c3 c5 (fun c => ?_) (fun c => ?_)
  · replace h := h.1 c
    exact g_vret gq52 rfl rfl h
  · replace h := h.2 c
    refine g_iload_n 68 gq52 rfl rfl rfl ?_
    refine g_bipush 70 gq52 rfl rfl rfl ?_
    refine g_icmp_ge 133 73 gq52 rfl rfl rfl c3 (by omega) (fun c => ?_) (fun c => ?_)
    · replace h := h.1 c
      exact g_vret gq52 rfl rfl h
    · replace h := h.2 c
      refine g_aload_n 74 gq52 rfl rfl rfl ?_
      refine g_getA 77 (q1 + 2) gq52 rfl rfl rfl hq1 rfl rfl (rfR3 hq1) ?_
      refine g_iload_n 78 gq52 rfl rfl rfl ?_
      refine g_iconst 79 gq52 rfl rfl ?_
      refine g_aload_n 80 gq52 rfl rfl rfl ?_
      refine g_getA 83 7 gq52 rfl rfl rfl rfl rfl rfl rfl ?_
      refine g_iload_n 84 gq52 rfl rfl rfl ?_
      have c24 := h.1
      replace h := h.2
      refine g_iald 85 gq52 rfl rfl rfl c24 ?_
      refine g_imul 86 gq52 rfl rfl ?_
      refine g_aload_n 87 gq52 rfl rfl rfl ?_
      refine g_getA 90 8 gq52 rfl rfl rfl rfl rfl rfl rfl ?_
      refine g_iload_n 91 gq52 rfl rfl rfl ?_
      refine g_zald 92 gq52 rfl rfl rfl c24 ?_
      have c32 := h.1
      replace h := h.2
      refine g_if_eq 99 95 gq52 rfl rfl rfl c32 (fun c => ?_) (fun c => ?_)
      · replace h := h.1 c
        refine g_iconst 100 gq52 rfl rfl ?_
        refine g_iadd 101 gq52 rfl rfl ?_
        have c38 := h.1
        replace h := h.2
        refine g_iast 102 gq52 rfl rfl (shR3 hq1) c38 ?_
        refine g_aload_n 103 gq52 rfl rfl rfl ?_
        refine g_getA 106 (q1 + 3) gq52 rfl rfl rfl hq1 rfl rfl (rfR4 hq1) ?_
        refine g_aload_n 107 gq52 rfl rfl rfl ?_
        refine g_getA 110 7 gq52 rfl rfl rfl rfl rfl rfl rfl ?_
        refine g_iload_n 111 gq52 rfl rfl rfl ?_
        refine g_iald 112 gq52 rfl rfl rfl c24 ?_
        refine g_aload_n 113 gq52 rfl rfl rfl ?_
        refine g_getA 116 9 gq52 rfl rfl rfl rfl rfl rfl rfl ?_
        refine g_iload_n 117 gq52 rfl rfl rfl ?_
        refine g_zald 118 gq52 rfl rfl rfl c24 ?_
        have c51 := h.1
        replace h := h.2
        refine g_if_eq 125 121 gq52 rfl rfl rfl c51 (fun c => ?_) (fun c => ?_)
        · replace h := h.1 c
          refine g_iconst 126 gq52 rfl rfl ?_
          have c56 := h.1
          replace h := h.2
          refine g_iast 127 gq52 rfl rfl (shR4 hq1) c56 ?_
          refine g_iinc 130 gq52 rfl rfl rfl rfl ?_
          refine g_goto 59 gq52 rfl rfl ?_
          exact kGo.weak (km_Le.s (km_Le.s (km_Le.s km_Le.nil))) h
        · replace h := h.2 c
          refine g_iconst 122 gq52 rfl rfl ?_
          refine g_goto 126 gq52 rfl rfl ?_
          have c65 := h.1
          replace h := h.2
          refine g_iast 127 gq52 rfl rfl (shR4 hq1) c65 ?_
          refine g_iinc 130 gq52 rfl rfl rfl rfl ?_
          refine g_goto 59 gq52 rfl rfl ?_
          exact kGo.weak (km_Le.s (km_Le.s (km_Le.s km_Le.nil))) h
      · replace h := h.2 c
        refine g_iconst 96 gq52 rfl rfl ?_
        refine g_goto 100 gq52 rfl rfl ?_
        refine g_iadd 101 gq52 rfl rfl ?_
        have c75 := h.1
        replace h := h.2
        refine g_iast 102 gq52 rfl rfl (shR3 hq1) c75 ?_
        refine g_aload_n 103 gq52 rfl rfl rfl ?_
        refine g_getA 106 (q1 + 3) gq52 rfl rfl rfl hq1 rfl rfl (rfR4 hq1) ?_
        refine g_aload_n 107 gq52 rfl rfl rfl ?_
        refine g_getA 110 7 gq52 rfl rfl rfl rfl rfl rfl rfl ?_
        refine g_iload_n 111 gq52 rfl rfl rfl ?_
        refine g_iald 112 gq52 rfl rfl rfl c24 ?_
        refine g_aload_n 113 gq52 rfl rfl rfl ?_
        refine g_getA 116 9 gq52 rfl rfl rfl rfl rfl rfl rfl ?_
        refine g_iload_n 117 gq52 rfl rfl rfl ?_
        refine g_zald 118 gq52 rfl rfl rfl c24 ?_
        have c88 := h.1
        replace h := h.2
        refine g_if_eq 125 121 gq52 rfl rfl rfl c88 (fun c => ?_) (fun c => ?_)
        · replace h := h.1 c
          refine g_iconst 126 gq52 rfl rfl ?_
          have c93 := h.1
          replace h := h.2
          refine g_iast 127 gq52 rfl rfl (shR4 hq1) c93 ?_
          refine g_iinc 130 gq52 rfl rfl rfl rfl ?_
          refine g_goto 59 gq52 rfl rfl ?_
          exact kGo.weak (km_Le.s (km_Le.s (km_Le.s km_Le.nil))) h
        · replace h := h.2 c
          refine g_iconst 122 gq52 rfl rfl ?_
          refine g_goto 126 gq52 rfl rfl ?_
          have c102 := h.1
          replace h := h.2
          refine g_iast 127 gq52 rfl rfl (shR4 hq1) c102 ?_
          refine g_iinc 130 gq52 rfl rfl rfl rfl ?_
          refine g_goto 59 gq52 rfl rfl ?_
          exact kGo.weak (km_Le.s (km_Le.s (km_Le.s km_Le.nil))) h
set_option maxRecDepth 10000 in
theorem b53_0 {xs : Nat → Int32} {Lx d : Nat} {V : km_V} {Q : Option Value → km_V → Prop} 
    (h : (kR (V 3 4)) ∧ (((V 3 4) < 2 →
    Q (some (kI 0)) (up (up V 3 0 5) 3 1 (V 3 5))) ∧
   (2 ≤ (V 3 4) →
    (((V 3 4) ≤ 4 →
      kGo xs Lx (d + 1) 53 28 [some (.ref 3), some (kI 0)] [] V Q) ∧
     (4 < (V 3 4) →
      Q (some (kI 0)) (up (up V 3 0 5) 3 1 (V 3 5))))))) :
    kGo xs Lx (d + 1) 53 0 [some (.ref 3), none] [] V Q := by
  refine g_aload_n 1 gq53 rfl rfl rfl ?_
  refine g_getI 4 gq53 rfl rfl rfl rfl rfl rfl ?_
  refine g_iconst 5 gq53 rfl rfl ?_
  have c3 := h.1
  replace h := h.2
  refine g_icmp_lt 16 8 gq53 rfl rfl rfl c3 (by omega) (fun c => ?_) (fun c => ?_)
  · replace h := h.1 c
    refine g_aload_n 17 gq53 rfl rfl rfl ?_
    refine g_iconst 18 gq53 rfl rfl ?_
    refine g_aload_n 19 gq53 rfl rfl rfl ?_
    refine g_getI 22 gq53 rfl rfl rfl rfl rfl rfl ?_
    refine g_virt 42 _ (i := 86) gq53 rfl rfl gq42 rfl rfl rfl rfl rfl rfl ?_
    refine g_aload_n 1 gq42 rfl rfl rfl ?_
    refine g_iload_n 2 gq42 rfl rfl rfl ?_
    refine g_putI 5 gq42 rfl rfl rfl rfl rfl rfl rfl rfl ?_
    refine g_aload_n 6 gq42 rfl rfl rfl ?_
    refine g_iload_n 7 gq42 rfl rfl rfl ?_
    refine g_putI 10 gq42 rfl rfl rfl rfl rfl rfl rfl rfl ?_
    refine g_iconst 11 gq42 rfl rfl ?_
    refine g_zret gq42 rfl rfl (by omega) ?_
    exact g_zret gq53 rfl rfl (by omega) h
  · replace h := h.2 c
    refine g_aload_n 9 gq53 rfl rfl rfl ?_
    refine g_getI 12 gq53 rfl rfl rfl rfl rfl rfl ?_
    refine g_iconst 13 gq53 rfl rfl ?_
    refine g_icmp_le 26 16 gq53 rfl rfl rfl c3 (by omega) (fun c => ?_) (fun c => ?_)
    · replace h := h.1 c
      refine g_iconst 27 gq53 rfl rfl ?_
      refine g_istore_n 28 gq53 rfl rfl rfl ?_
      exact kGo.weak (km_Le.s (km_Le.s km_Le.nil)) h
    · replace h := h.2 c
      refine g_aload_n 17 gq53 rfl rfl rfl ?_
      refine g_iconst 18 gq53 rfl rfl ?_
      refine g_aload_n 19 gq53 rfl rfl rfl ?_
      refine g_getI 22 gq53 rfl rfl rfl rfl rfl rfl ?_
      refine g_virt 42 _ (i := 86) gq53 rfl rfl gq42 rfl rfl rfl rfl rfl rfl ?_
      refine g_aload_n 1 gq42 rfl rfl rfl ?_
      refine g_iload_n 2 gq42 rfl rfl rfl ?_
      refine g_putI 5 gq42 rfl rfl rfl rfl rfl rfl rfl rfl ?_
      refine g_aload_n 6 gq42 rfl rfl rfl ?_
      refine g_iload_n 7 gq42 rfl rfl rfl ?_
      refine g_putI 10 gq42 rfl rfl rfl rfl rfl rfl rfl rfl ?_
      refine g_iconst 11 gq42 rfl rfl ?_
      refine g_zret gq42 rfl rfl (by omega) ?_
      exact g_zret gq53 rfl rfl (by omega) h
set_option maxRecDepth 10000 in
theorem b53_28 {xs : Nat → Int32} {Lx d : Nat} {V : km_V} {Q : Option Value → km_V → Prop} {x1 : Int} 
    (h : (kR x1) ∧ (kR (V 3 7)) ∧ (((V 3 7) ≤ x1 →
    Q (some (kI 1)) V) ∧
   (x1 < (V 3 7) →
    (0 ≤ x1 ∧ x1 < (134 : Nat)) ∧ (kR (V 5 (Int.toNat x1))) ∧ (((V 5 (Int.toNat x1)) < 1 →
      Q (some (kI 0)) (up (up V 3 0 5) 3 1 (V 6 (Int.toNat x1)))) ∧
     (1 ≤ (V 5 (Int.toNat x1)) →
      (kR (V 3 4)) ∧ (((V 5 (Int.toNat x1)) < (V 3 4) →
        kGo xs Lx (d + 1) 53 28 [some (.ref 3), some (kI (x1 + 1))] [] V Q) ∧
       ((V 3 4) ≤ (V 5 (Int.toNat x1)) →
        Q (some (kI 0)) (up (up V 3 0 5) 3 1 (V 6 (Int.toNat x1)))))))))) :
    kGo xs Lx (d + 1) 53 28 [some (.ref 3), some (kI x1)] [] V Q := by
  refine g_iload_n 29 gq53 rfl rfl rfl ?_
  refine g_aload_n 30 gq53 rfl rfl rfl ?_
  refine g_getI 33 gq53 rfl rfl rfl rfl rfl rfl ?_
  have c3 := h.1
  replace h := h.2
  have c5 := h.1
  replace h := h.2
  refine g_icmp_ge 77 36 gq53 rfl rfl rfl c3 c5 (fun c => ?_) (fun c => ?_)
  · replace h := h.1 c
    refine g_iconst 78 gq53 rfl rfl ?_
    exact g_zret gq53 rfl rfl (by omega) h
  · replace h := h.2 c
    refine g_aload_n 37 gq53 rfl rfl rfl ?_
    refine g_getA 40 5 gq53 rfl rfl rfl rfl rfl rfl rfl ?_
    refine g_iload_n 41 gq53 rfl rfl rfl ?_
    have c15 := h.1
    replace h := h.2
    refine g_iald 42 gq53 rfl rfl rfl c15 ?_
    refine g_iconst 43 gq53 rfl rfl ?_
    have c19 := h.1
    replace h := h.2
    refine g_icmp_lt 59 46 gq53 rfl rfl rfl c19 (by omega) (fun c => ?_) (fun c => ?_)
    · replace h := h.1 c
      refine g_aload_n 60 gq53 rfl rfl rfl ?_
      refine g_iconst 61 gq53 rfl rfl ?_
      refine g_aload_n 62 gq53 rfl rfl rfl ?_
      refine g_getA 65 6 gq53 rfl rfl rfl rfl rfl rfl rfl ?_
      refine g_iload_n 66 gq53 rfl rfl rfl ?_
      refine g_iald 67 gq53 rfl rfl rfl c15 ?_
      refine g_virt 42 _ (i := 86) gq53 rfl rfl gq42 rfl rfl rfl rfl rfl rfl ?_
      refine g_aload_n 1 gq42 rfl rfl rfl ?_
      refine g_iload_n 2 gq42 rfl rfl rfl ?_
      refine g_putI 5 gq42 rfl rfl rfl rfl rfl rfl rfl rfl ?_
      refine g_aload_n 6 gq42 rfl rfl rfl ?_
      refine g_iload_n 7 gq42 rfl rfl rfl ?_
      refine g_putI 10 gq42 rfl rfl rfl rfl rfl rfl rfl rfl ?_
      refine g_iconst 11 gq42 rfl rfl ?_
      refine g_zret gq42 rfl rfl (by omega) ?_
      exact g_zret gq53 rfl rfl (by omega) h
    · replace h := h.2 c
      refine g_aload_n 47 gq53 rfl rfl rfl ?_
      refine g_getA 50 5 gq53 rfl rfl rfl rfl rfl rfl rfl ?_
      refine g_iload_n 51 gq53 rfl rfl rfl ?_
      refine g_iald 52 gq53 rfl rfl rfl c15 ?_
      refine g_aload_n 53 gq53 rfl rfl rfl ?_
      refine g_getI 56 gq53 rfl rfl rfl rfl rfl rfl ?_
      have c46 := h.1
      replace h := h.2
      refine g_icmp_lt 71 59 gq53 rfl rfl rfl c19 c46 (fun c => ?_) (fun c => ?_)
      · replace h := h.1 c
        refine g_iinc 74 gq53 rfl rfl rfl rfl ?_
        refine g_goto 28 gq53 rfl rfl ?_
        exact kGo.weak (km_Le.s (km_Le.s km_Le.nil)) h
      · replace h := h.2 c
        refine g_aload_n 60 gq53 rfl rfl rfl ?_
        refine g_iconst 61 gq53 rfl rfl ?_
        refine g_aload_n 62 gq53 rfl rfl rfl ?_
        refine g_getA 65 6 gq53 rfl rfl rfl rfl rfl rfl rfl ?_
        refine g_iload_n 66 gq53 rfl rfl rfl ?_
        refine g_iald 67 gq53 rfl rfl rfl c15 ?_
        refine g_virt 42 _ (i := 86) gq53 rfl rfl gq42 rfl rfl rfl rfl rfl rfl ?_
        refine g_aload_n 1 gq42 rfl rfl rfl ?_
        refine g_iload_n 2 gq42 rfl rfl rfl ?_
        refine g_putI 5 gq42 rfl rfl rfl rfl rfl rfl rfl rfl ?_
        refine g_aload_n 6 gq42 rfl rfl rfl ?_
        refine g_iload_n 7 gq42 rfl rfl rfl ?_
        refine g_putI 10 gq42 rfl rfl rfl rfl rfl rfl rfl rfl ?_
        refine g_iconst 11 gq42 rfl rfl ?_
        refine g_zret gq42 rfl rfl (by omega) ?_
        exact g_zret gq53 rfl rfl (by omega) h
set_option maxRecDepth 10000 in
theorem b54_0 {xs : Nat → Int32} {Lx d : Nat} {V : km_V} {Q : Option Value → km_V → Prop} {r1 : Nat} (hr1 : km_sh[r1]? = some (5, 5))
    (h : kGo xs Lx (d + 1) 54 15 [some (.ref 3), some (.ref r1), some (kI 0), none, none, none, none, none, none] [] (up (up V r1 0 0) r1 1 ((up V r1 0 0) 3 7)) Q) :
    kGo xs Lx (d + 1) 54 0 [some (.ref 3), some (.ref r1), none, none, none, none, none, none, none] [] V Q := by
  refine g_aload_n 1 gq54 rfl rfl rfl ?_
  refine g_iconst 2 gq54 rfl rfl ?_
  refine g_putI 5 gq54 rfl rfl rfl hr1 rfl rfl rfl rfl ?_
  refine g_aload_n 6 gq54 rfl rfl rfl ?_
  refine g_aload_n 7 gq54 rfl rfl rfl ?_
  refine g_getI 10 gq54 rfl rfl rfl rfl rfl rfl ?_
  refine g_putI 13 gq54 rfl rfl rfl hr1 rfl rfl rfl rfl ?_
  refine g_iconst 14 gq54 rfl rfl ?_
  refine g_istore_n 15 gq54 rfl rfl rfl ?_
  exact kGo.weak (km_Le.s (km_Le.s (km_Le.s (km_Le.n (km_Le.n (km_Le.n (km_Le.n (km_Le.n (km_Le.n km_Le.nil))))))))) h
set_option maxRecDepth 10000 in
theorem b54_15 {xs : Nat → Int32} {Lx d : Nat} {V : km_V} {Q : Option Value → km_V → Prop} {x2 : Int} {q1 : Nat} (hq1 : km_sh[q1]? = some (5, 5))
    (h : (kR x2) ∧ (kR (V 3 7)) ∧ (((V 3 7) ≤ x2 →
    kGo xs Lx (d + 1) 54 56 [some (.ref 3), some (.ref q1), some (kI 0), some (kI 0), some (kI 1), none, none, none, none] [] V Q) ∧
   (x2 < (V 3 7) →
    (0 ≤ x2 ∧ x2 < (134 : Nat)) ∧ (kR (V 9 (Int.toNat x2))) ∧ (((V 9 (Int.toNat x2)) = 0 →
      (0 ≤ x2 ∧ x2 < (8 : Nat)) ∧ kGo xs Lx (d + 1) 54 15 [some (.ref 3), some (.ref q1), some (kI (x2 + 1)), none, none, none, none, none, none] [] (up V (q1 + 3) (Int.toNat x2) (-1)) Q) ∧
     ((V 9 (Int.toNat x2)) ≠ 0 →
      (0 ≤ x2 ∧ x2 < (8 : Nat)) ∧ kGo xs Lx (d + 1) 54 15 [some (.ref 3), some (.ref q1), some (kI (x2 + 1)), none, none, none, none, none, none] [] (up V (q1 + 3) (Int.toNat x2) 1) Q))))) :
    kGo xs Lx (d + 1) 54 15 [some (.ref 3), some (.ref q1), some (kI x2), none, none, none, none, none, none] [] V Q := by
  refine g_iload_n 16 gq54 rfl rfl rfl ?_
  refine g_aload_n 17 gq54 rfl rfl rfl ?_
  refine g_getI 20 gq54 rfl rfl rfl rfl rfl rfl ?_
  have c3 := h.1
  replace h := h.2
  have c5 := h.1
  replace h := h.2
  refine g_icmp_ge 49 23 gq54 rfl rfl rfl c3 c5 (fun c => ?_) (fun c => ?_)
  · replace h := h.1 c
    refine g_iconst 50 gq54 rfl rfl ?_
    refine g_istore_n 51 gq54 rfl rfl rfl ?_
    refine g_iconst 52 gq54 rfl rfl ?_
    refine g_istore_n 53 gq54 rfl rfl rfl ?_
    refine g_iconst 54 gq54 rfl rfl ?_
    refine g_istore 56 gq54 rfl rfl rfl ?_
    exact kGo.weak (km_Le.s (km_Le.s (km_Le.s (km_Le.s (km_Le.s (km_Le.n (km_Le.n (km_Le.n (km_Le.n km_Le.nil))))))))) h
  · replace h := h.2 c
    refine g_aload_n 24 gq54 rfl rfl rfl ?_
    refine g_getA 27 (q1 + 3) gq54 rfl rfl rfl hq1 rfl rfl (rfR4 hq1) ?_
    refine g_iload_n 28 gq54 rfl rfl rfl ?_
    refine g_aload_n 29 gq54 rfl rfl rfl ?_
    refine g_getA 32 9 gq54 rfl rfl rfl rfl rfl rfl rfl ?_
    refine g_iload_n 33 gq54 rfl rfl rfl ?_
    have c23 := h.1
    replace h := h.2
    refine g_zald 34 gq54 rfl rfl rfl c23 ?_
    have c26 := h.1
    replace h := h.2
    refine g_if_eq 41 37 gq54 rfl rfl rfl c26 (fun c => ?_) (fun c => ?_)
    · replace h := h.1 c
      refine g_iconst 42 gq54 rfl rfl ?_
      have c31 := h.1
      replace h := h.2
      refine g_iast 43 gq54 rfl rfl (shR4 hq1) c31 ?_
      refine g_iinc 46 gq54 rfl rfl rfl rfl ?_
      refine g_goto 15 gq54 rfl rfl ?_
      exact kGo.weak (km_Le.s (km_Le.s (km_Le.s (km_Le.n (km_Le.n (km_Le.n (km_Le.n (km_Le.n (km_Le.n km_Le.nil))))))))) h
    · replace h := h.2 c
      refine g_iconst 38 gq54 rfl rfl ?_
      refine g_goto 42 gq54 rfl rfl ?_
      have c40 := h.1
      replace h := h.2
      refine g_iast 43 gq54 rfl rfl (shR4 hq1) c40 ?_
      refine g_iinc 46 gq54 rfl rfl rfl rfl ?_
      refine g_goto 15 gq54 rfl rfl ?_
      exact kGo.weak (km_Le.s (km_Le.s (km_Le.s (km_Le.n (km_Le.n (km_Le.n (km_Le.n (km_Le.n (km_Le.n km_Le.nil))))))))) h
set_option maxRecDepth 10000 in
theorem b54_56 {xs : Nat → Int32} {Lx d : Nat} {V : km_V} {Q : Option Value → km_V → Prop} {x2 x3 x4 : Int} {q1 : Nat} (hq1 : km_sh[q1]? = some (5, 5))
    (h : (kR x4) ∧ (kR (V 3 4)) ∧ (((V 3 4) < x4 →
    (0 ≤ (V q1 0) ∧ (V q1 0) < (5 : Nat)) ∧ Q none (up V (q1 + 1) (Int.toNat (V q1 0)) x3)) ∧
   (x4 ≤ (V 3 4) →
    (kR x2) ∧ (0 ≤ x4 ∧ x4 < 32) ∧ (kR ((x2 / ((2 ^ Int.toNat x4 : Nat) : Int)) % 2)) ∧ ((((x2 / ((2 ^ Int.toNat x4 : Nat) : Int)) % 2) ≠ 1 →
      (0 ≤ (V q1 0) ∧ (V q1 0) < (5 : Nat)) ∧ kGo xs Lx (d + 1) 54 105 [some (.ref 3), some (.ref q1), some (kI x2), some (kI x3), some (kI x4), some (kI x4), some (kI 0), none, none] [] (up (up V (q1 + 1) (Int.toNat (V q1 0)) x3) q1 0 (((up V (q1 + 1) (Int.toNat (V q1 0)) x3) q1 0) + 1)) Q) ∧
     (((x2 / ((2 ^ Int.toNat x4 : Nat) : Int)) % 2) = 1 →
      kGo xs Lx (d + 1) 54 56 [some (.ref 3), some (.ref q1), some (kI x2), some (kI x3), some (kI (x4 + 1)), none, none, none, none] [] V Q))))) :
    kGo xs Lx (d + 1) 54 56 [some (.ref 3), some (.ref q1), some (kI x2), some (kI x3), some (kI x4), none, none, none, none] [] V Q := by
  refine g_iload 58 gq54 rfl rfl rfl ?_
  refine g_aload_n 59 gq54 rfl rfl rfl ?_
  refine g_getI 62 gq54 rfl rfl rfl rfl rfl rfl ?_
  have c3 := h.1
  replace h := h.2
  have c5 := h.1
  replace h := h.2
  refine g_icmp_gt 222 65 gq54 rfl rfl rfl c3 c5 (fun c => ?_) (fun c => ?_)
  · replace h := h.1 c
    refine g_aload_n 223 gq54 rfl rfl rfl ?_
    refine g_getA 226 (q1 + 1) gq54 rfl rfl rfl hq1 rfl rfl (rfR2 hq1) ?_
    refine g_aload_n 227 gq54 rfl rfl rfl ?_
    refine g_getI 230 gq54 rfl rfl rfl hq1 rfl rfl ?_
    refine g_iload_n 231 gq54 rfl rfl rfl ?_
    have c14 := h.1
    replace h := h.2
    refine g_iast 232 gq54 rfl rfl (shR2 hq1) c14 ?_
    exact g_vret gq54 rfl rfl h
  · replace h := h.2 c
    refine g_iload_n 66 gq54 rfl rfl rfl ?_
    refine g_iload 68 gq54 rfl rfl rfl ?_
    have c21 := h.1
    replace h := h.2
    have c23 := h.1
    replace h := h.2
    refine g_ishr 69 gq54 rfl rfl c21 c23 ?_
    refine g_iconst 70 gq54 rfl rfl ?_
    refine g_iandM 71 1 gq54 rfl rfl (by decide) rfl ?_
    refine g_iconst 72 gq54 rfl rfl ?_
    have c29 := h.1
    replace h := h.2
    refine g_icmp_ne 78 75 gq54 rfl rfl rfl c29 (by omega) (fun c => ?_) (fun c => ?_)
    · replace h := h.1 c
      refine g_aload_n 79 gq54 rfl rfl rfl ?_
      refine g_getA 82 (q1 + 1) gq54 rfl rfl rfl hq1 rfl rfl (rfR2 hq1) ?_
      refine g_aload_n 83 gq54 rfl rfl rfl ?_
      refine g_getI 86 gq54 rfl rfl rfl hq1 rfl rfl ?_
      refine g_iload_n 87 gq54 rfl rfl rfl ?_
      have c38 := h.1
      replace h := h.2
      refine g_iast 88 gq54 rfl rfl (shR2 hq1) c38 ?_
      refine g_aload_n 89 gq54 rfl rfl rfl ?_
      refine g_dup 90 gq54 rfl rfl rfl ?_
      refine g_getI 93 gq54 rfl rfl rfl hq1 rfl rfl ?_
      refine g_iconst 94 gq54 rfl rfl ?_
      refine g_iadd 95 gq54 rfl rfl ?_
      refine g_putI 98 gq54 rfl rfl rfl hq1 rfl rfl rfl rfl ?_
      refine g_iload 100 gq54 rfl rfl rfl ?_
      refine g_istore 102 gq54 rfl rfl rfl ?_
      refine g_iconst 103 gq54 rfl rfl ?_
      refine g_istore 105 gq54 rfl rfl rfl ?_
      exact kGo.weak (km_Le.s (km_Le.s (km_Le.s (km_Le.s (km_Le.s (km_Le.s (km_Le.s (km_Le.n (km_Le.n km_Le.nil))))))))) h
    · replace h := h.2 c
      refine g_goto 216 gq54 rfl rfl ?_
      refine g_iinc 219 gq54 rfl rfl rfl rfl ?_
      refine g_goto 56 gq54 rfl rfl ?_
      exact kGo.weak (km_Le.s (km_Le.s (km_Le.s (km_Le.s (km_Le.s (km_Le.n (km_Le.n (km_Le.n (km_Le.n km_Le.nil))))))))) h
set_option maxRecDepth 10000 in
theorem b54_105 {xs : Nat → Int32} {Lx d : Nat} {V : km_V} {Q : Option Value → km_V → Prop} {x2 x3 x4 x5 x6 : Int} {q1 : Nat} (hq1 : km_sh[q1]? = some (5, 5))
    (h : (kR x6) ∧ (kR (V 3 4)) ∧ (((V 3 4) ≤ x6 →
    kGo xs Lx (d + 1) 54 56 [some (.ref 3), some (.ref q1), some (kI x2), some (kI x3), some (kI (x4 + 1)), none, none, none, none] [] V Q) ∧
   (x6 < (V 3 4) →
    (kR x2) ∧ (0 ≤ x5 ∧ x5 < 32) ∧ (kR ((x2 / ((2 ^ Int.toNat x5 : Nat) : Int)) % 2)) ∧ ((((x2 / ((2 ^ Int.toNat x5 : Nat) : Int)) % 2) ≠ 0 →
      kGo xs Lx (d + 1) 54 56 [some (.ref 3), some (.ref q1), some (kI x2), some (kI x3), some (kI (x4 + 1)), none, none, none, none] [] V Q) ∧
     (((x2 / ((2 ^ Int.toNat x5 : Nat) : Int)) % 2) = 0 →
      (0 ≤ x2) ∧ (0 ≤ (1 * ((2 ^ Int.toNat x5 : Nat) : Int))) ∧ (∀ z1 : Int, z1 = ((Int.toNat x2 ||| Int.toNat (1 * ((2 ^ Int.toNat x5 : Nat) : Int)) : Nat) : Int) → kGo xs Lx (d + 1) 54 133 [some (.ref 3), some (.ref q1), some (kI z1), some (kI x3), some (kI x4), some (kI x5), some (kI x6), some (kI 0), none] [] V Q)))))) :
    kGo xs Lx (d + 1) 54 105 [some (.ref 3), some (.ref q1), some (kI x2), some (kI x3), some (kI x4), some (kI x5), some (kI x6), none, none] [] V Q := by
  refine g_iload 107 gq54 rfl rfl rfl ?_
  refine g_aload_n 108 gq54 rfl rfl rfl ?_
  refine g_getI 111 gq54 rfl rfl rfl rfl rfl rfl ?_
  have c3 := h.1
  replace h := h.2
  have c5 := h.1
  replace h := h.2
  refine g_icmp_ge 216 114 gq54 rfl rfl rfl c3 c5 (fun c => ?_) (fun c => ?_)
  · replace h := h.1 c
    refine g_iinc 219 gq54 rfl rfl rfl rfl ?_
    refine g_goto 56 gq54 rfl rfl ?_
    exact kGo.weak (km_Le.s (km_Le.s (km_Le.s (km_Le.s (km_Le.s (km_Le.n (km_Le.n (km_Le.n (km_Le.n km_Le.nil))))))))) h
  · replace h := h.2 c
    refine g_iload_n 115 gq54 rfl rfl rfl ?_
    refine g_iload 117 gq54 rfl rfl rfl ?_
    have c15 := h.1
    replace h := h.2
    have c17 := h.1
    replace h := h.2
    refine g_ishr 118 gq54 rfl rfl c15 c17 ?_
    refine g_iconst 119 gq54 rfl rfl ?_
    refine g_iandM 120 1 gq54 rfl rfl (by decide) rfl ?_
    have c22 := h.1
    replace h := h.2
    refine g_if_ne 216 123 gq54 rfl rfl rfl c22 (fun c => ?_) (fun c => ?_)
    · replace h := h.1 c
      refine g_iinc 219 gq54 rfl rfl rfl rfl ?_
      refine g_goto 56 gq54 rfl rfl ?_
      exact kGo.weak (km_Le.s (km_Le.s (km_Le.s (km_Le.s (km_Le.s (km_Le.n (km_Le.n (km_Le.n (km_Le.n km_Le.nil))))))))) h
    · replace h := h.2 c
      refine g_iload_n 124 gq54 rfl rfl rfl ?_
      refine g_iconst 125 gq54 rfl rfl ?_
      refine g_iload 127 gq54 rfl rfl rfl ?_
      refine g_ishl 128 gq54 rfl rfl c17 ?_
      have c34 := h.1
      replace h := h.2
      have c36 := h.1
      replace h := h.2
      refine g_ior 129 gq54 rfl rfl c34 c36 ?_
      refine g_istore_n 130 gq54 rfl rfl rfl ?_
      replace h := h _ rfl
      refine g_iconst 131 gq54 rfl rfl ?_
      refine g_istore 133 gq54 rfl rfl rfl ?_
      exact kGo.weak (km_Le.s (km_Le.s (km_Le.s (km_Le.s (km_Le.s (km_Le.s (km_Le.s (km_Le.s (km_Le.n km_Le.nil))))))))) h
set_option maxRecDepth 10000 in
theorem b54_133 {xs : Nat → Int32} {Lx d : Nat} {V : km_V} {Q : Option Value → km_V → Prop} {x2 x3 x4 x5 x6 x7 : Int} {q1 : Nat} (hq1 : km_sh[q1]? = some (5, 5))
    (h : (kR x7) ∧ (kR (V 3 7)) ∧ (((V 3 7) ≤ x7 →
    kGo xs Lx (d + 1) 54 105 [some (.ref 3), some (.ref q1), some (kI x2), some (kI x3), some (kI x4), some (kI x5), some (kI (x6 + 1)), none, none] [] V Q) ∧
   (x7 < (V 3 7) →
    kCI xs Lx (d + 0) 55 3 [.ref 3, kI x7, kI x5] V (fun y1 W1 =>
    (kR y1) ∧ (kR x5) ∧ ((y1 = x5 →
      kGo xs Lx (d + 1) 54 133 [some (.ref 3), some (.ref q1), some (kI x2), some (kI x3), some (kI x4), some (kI y1), some (kI x6), some (kI (x7 + 1)), none] [] W1 Q) ∧
     (y1 ≠ x5 →
      (0 ≤ x7 ∧ x7 < (134 : Nat)) ∧ ((y1 ≤ x5 →
        (kR (W1 9 (Int.toNat x7))) ∧ (((W1 9 (Int.toNat x7)) ≠ 0 →
          (0 ≤ x3 ∧ x3 < (16 : Nat)) ∧ kGo xs Lx (d + 1) 54 133 [some (.ref 3), some (.ref q1), some (kI x2), some (kI (x3 + 1)), some (kI x4), some (kI y1), some (kI x6), some (kI (x7 + 1)), none] [] (up W1 (q1 + 2) (Int.toNat x3) ((2 * x7) + 0)) Q) ∧
         ((W1 9 (Int.toNat x7)) = 0 →
          (0 ≤ x3 ∧ x3 < (16 : Nat)) ∧ kGo xs Lx (d + 1) 54 133 [some (.ref 3), some (.ref q1), some (kI x2), some (kI (x3 + 1)), some (kI x4), some (kI y1), some (kI x6), some (kI (x7 + 1)), none] [] (up W1 (q1 + 2) (Int.toNat x3) ((2 * x7) + 1)) Q))) ∧
       (x5 < y1 →
        (kR (W1 9 (Int.toNat x7))) ∧ (((W1 9 (Int.toNat x7)) ≠ 1 →
          (0 ≤ x3 ∧ x3 < (16 : Nat)) ∧ kGo xs Lx (d + 1) 54 133 [some (.ref 3), some (.ref q1), some (kI x2), some (kI (x3 + 1)), some (kI x4), some (kI y1), some (kI x6), some (kI (x7 + 1)), none] [] (up W1 (q1 + 2) (Int.toNat x3) ((2 * x7) + 0)) Q) ∧
         ((W1 9 (Int.toNat x7)) = 1 →
          (0 ≤ x3 ∧ x3 < (16 : Nat)) ∧ kGo xs Lx (d + 1) 54 133 [some (.ref 3), some (.ref q1), some (kI x2), some (kI (x3 + 1)), some (kI x4), some (kI y1), some (kI x6), some (kI (x7 + 1)), none] [] (up W1 (q1 + 2) (Int.toNat x3) ((2 * x7) + 1)) Q)))))))))) :
    kGo xs Lx (d + 1) 54 133 [some (.ref 3), some (.ref q1), some (kI x2), some (kI x3), some (kI x4), some (kI x5), some (kI x6), some (kI x7), none] [] V Q := by
  refine g_iload 135 gq54 rfl rfl rfl ?_
  refine g_aload_n 136 gq54 rfl rfl rfl ?_
  refine g_getI 139 gq54 rfl rfl rfl rfl rfl rfl ?_
  have c3 := h.1
  replace h := h.2
  have c5 := h.1
  replace h := h.2
  refine g_icmp_ge 210 142 gq54 rfl rfl rfl c3 c5 (fun c => ?_) (fun c => ?_)
  · replace h := h.1 c
    refine g_iinc 213 gq54 rfl rfl rfl rfl ?_
    refine g_goto 105 gq54 rfl rfl ?_
    exact kGo.weak (km_Le.s (km_Le.s (km_Le.s (km_Le.s (km_Le.s (km_Le.s (km_Le.s (km_Le.n (km_Le.n km_Le.nil))))))))) h
  · replace h := h.2 c
    refine g_aload_n 143 gq54 rfl rfl rfl ?_
    refine g_iload 145 gq54 rfl rfl rfl ?_
    refine g_iload 147 gq54 rfl rfl rfl ?_
    refine g_virt 55 _ (i := 163) gq54 rfl rfl gq55 rfl rfl rfl rfl rfl rfl ?_
    refine kGo.mono h (fun r W1 hr => ?_)
    obtain ⟨y1, rfl, h⟩ := hr
    refine g_istore 152 gq54 rfl rfl rfl ?_
    refine g_iload 154 gq54 rfl rfl rfl ?_
    refine g_iload 156 gq54 rfl rfl rfl ?_
    have c22 := h.1
    replace h := h.2
    have c24 := h.1
    replace h := h.2
    refine g_icmp_eq 200 159 gq54 rfl rfl rfl c22 c24 (fun c => ?_) (fun c => ?_)
    · replace h := h.1 c
      refine g_iload 202 gq54 rfl rfl rfl ?_
      refine g_istore 204 gq54 rfl rfl rfl ?_
      refine g_iinc 207 gq54 rfl rfl rfl rfl ?_
      refine g_goto 133 gq54 rfl rfl ?_
      exact kGo.weak (km_Le.s (km_Le.s (km_Le.s (km_Le.s (km_Le.s (km_Le.s (km_Le.s (km_Le.s (km_Le.n km_Le.nil))))))))) h
    · replace h := h.2 c
      refine g_aload_n 160 gq54 rfl rfl rfl ?_
      refine g_getA 163 (q1 + 2) gq54 rfl rfl rfl hq1 rfl rfl (rfR3 hq1) ?_
      refine g_iload_n 164 gq54 rfl rfl rfl ?_
      refine g_iconst 165 gq54 rfl rfl ?_
      refine g_iload 167 gq54 rfl rfl rfl ?_
      refine g_imul 168 gq54 rfl rfl ?_
      refine g_aload_n 169 gq54 rfl rfl rfl ?_
      refine g_getA 172 9 gq54 rfl rfl rfl rfl rfl rfl rfl ?_
      refine g_iload 174 gq54 rfl rfl rfl ?_
      have c43 := h.1
      replace h := h.2
      refine g_zald 175 gq54 rfl rfl rfl c43 ?_
      refine g_iload 177 gq54 rfl rfl rfl ?_
      refine g_iload 179 gq54 rfl rfl rfl ?_
      refine g_icmp_le 186 182 gq54 rfl rfl rfl c22 c24 (fun c => ?_) (fun c => ?_)
      · replace h := h.1 c
        refine g_iconst 187 gq54 rfl rfl ?_
        have c51 := h.1
        replace h := h.2
        refine g_icmp_ne 194 190 gq54 rfl rfl rfl c51 (by omega) (fun c => ?_) (fun c => ?_)
        · replace h := h.1 c
          refine g_iconst 195 gq54 rfl rfl ?_
          refine g_iadd 196 gq54 rfl rfl ?_
          have c57 := h.1
          replace h := h.2
          refine g_iast 197 gq54 rfl rfl (shR3 hq1) c57 ?_
          refine g_iinc 200 gq54 rfl rfl rfl rfl ?_
          refine g_iload 202 gq54 rfl rfl rfl ?_
          refine g_istore 204 gq54 rfl rfl rfl ?_
          refine g_iinc 207 gq54 rfl rfl rfl rfl ?_
          refine g_goto 133 gq54 rfl rfl ?_
          exact kGo.weak (km_Le.s (km_Le.s (km_Le.s (km_Le.s (km_Le.s (km_Le.s (km_Le.s (km_Le.s (km_Le.n km_Le.nil))))))))) h
        · replace h := h.2 c
          refine g_iconst 191 gq54 rfl rfl ?_
          refine g_goto 195 gq54 rfl rfl ?_
          refine g_iadd 196 gq54 rfl rfl ?_
          have c70 := h.1
          replace h := h.2
          refine g_iast 197 gq54 rfl rfl (shR3 hq1) c70 ?_
          refine g_iinc 200 gq54 rfl rfl rfl rfl ?_
          refine g_iload 202 gq54 rfl rfl rfl ?_
          refine g_istore 204 gq54 rfl rfl rfl ?_
          refine g_iinc 207 gq54 rfl rfl rfl rfl ?_
          refine g_goto 133 gq54 rfl rfl ?_
          exact kGo.weak (km_Le.s (km_Le.s (km_Le.s (km_Le.s (km_Le.s (km_Le.s (km_Le.s (km_Le.s (km_Le.n km_Le.nil))))))))) h
      · replace h := h.2 c
        refine g_iconst 183 gq54 rfl rfl ?_
        refine g_goto 187 gq54 rfl rfl ?_
        have c82 := h.1
        replace h := h.2
        refine g_icmp_ne 194 190 gq54 rfl rfl rfl c82 (by omega) (fun c => ?_) (fun c => ?_)
        · replace h := h.1 c
          refine g_iconst 195 gq54 rfl rfl ?_
          refine g_iadd 196 gq54 rfl rfl ?_
          have c88 := h.1
          replace h := h.2
          refine g_iast 197 gq54 rfl rfl (shR3 hq1) c88 ?_
          refine g_iinc 200 gq54 rfl rfl rfl rfl ?_
          refine g_iload 202 gq54 rfl rfl rfl ?_
          refine g_istore 204 gq54 rfl rfl rfl ?_
          refine g_iinc 207 gq54 rfl rfl rfl rfl ?_
          refine g_goto 133 gq54 rfl rfl ?_
          exact kGo.weak (km_Le.s (km_Le.s (km_Le.s (km_Le.s (km_Le.s (km_Le.s (km_Le.s (km_Le.s (km_Le.n km_Le.nil))))))))) h
        · replace h := h.2 c
          refine g_iconst 191 gq54 rfl rfl ?_
          refine g_goto 195 gq54 rfl rfl ?_
          refine g_iadd 196 gq54 rfl rfl ?_
          have c101 := h.1
          replace h := h.2
          refine g_iast 197 gq54 rfl rfl (shR3 hq1) c101 ?_
          refine g_iinc 200 gq54 rfl rfl rfl rfl ?_
          refine g_iload 202 gq54 rfl rfl rfl ?_
          refine g_istore 204 gq54 rfl rfl rfl ?_
          refine g_iinc 207 gq54 rfl rfl rfl rfl ?_
          refine g_goto 133 gq54 rfl rfl ?_
          exact kGo.weak (km_Le.s (km_Le.s (km_Le.s (km_Le.s (km_Le.s (km_Le.s (km_Le.s (km_Le.s (km_Le.n km_Le.nil))))))))) h
set_option maxRecDepth 10000 in
theorem b55_0 {xs : Nat → Int32} {Lx d : Nat} {V : km_V} {Q : Option Value → km_V → Prop} {a1 a2 : Int} 
    (h : (0 ≤ a1 ∧ a1 < (134 : Nat)) ∧ (kR a2) ∧ (kR (V 5 (Int.toNat a1))) ∧ ((a2 ≠ (V 5 (Int.toNat a1)) →
    (kR ((V 5 (Int.toNat a1)) + 1)) ∧ ((a2 ≠ ((V 5 (Int.toNat a1)) + 1) →
      Q (some (kI a2)) V) ∧
     (a2 = ((V 5 (Int.toNat a1)) + 1) →
      Q (some (kI (a2 - 1))) V))) ∧
   (a2 = (V 5 (Int.toNat a1)) →
    Q (some (kI (a2 + 1))) V))) :
    kGo xs Lx (d + 0) 55 0 [some (.ref 3), some (kI a1), some (kI a2)] [] V Q := by
  refine g_iload_n 1 gq55 rfl rfl rfl ?_
  refine g_aload_n 2 gq55 rfl rfl rfl ?_
  refine g_getA 5 5 gq55 rfl rfl rfl rfl rfl rfl rfl ?_
  refine g_iload_n 6 gq55 rfl rfl rfl ?_
  have c4 := h.1
  replace h := h.2
  refine g_iald 7 gq55 rfl rfl rfl c4 ?_
  have c7 := h.1
  replace h := h.2
  have c9 := h.1
  replace h := h.2
  refine g_icmp_ne 14 10 gq55 rfl rfl rfl c7 c9 (fun c => ?_) (fun c => ?_)
  · replace h := h.1 c
    refine g_iload_n 15 gq55 rfl rfl rfl ?_
    refine g_aload_n 16 gq55 rfl rfl rfl ?_
    refine g_getA 19 5 gq55 rfl rfl rfl rfl rfl rfl rfl ?_
    refine g_iload_n 20 gq55 rfl rfl rfl ?_
    refine g_iald 21 gq55 rfl rfl rfl c4 ?_
    refine g_iconst 22 gq55 rfl rfl ?_
    refine g_iadd 23 gq55 rfl rfl ?_
    have c20 := h.1
    replace h := h.2
    refine g_icmp_ne 32 26 gq55 rfl rfl rfl c7 c20 (fun c => ?_) (fun c => ?_)
    · replace h := h.1 c
      refine g_iload_n 33 gq55 rfl rfl rfl ?_
      exact g_iret gq55 rfl rfl h
    · replace h := h.2 c
      refine g_iload_n 27 gq55 rfl rfl rfl ?_
      refine g_iconst 28 gq55 rfl rfl ?_
      refine g_isub 29 gq55 rfl rfl ?_
      refine g_goto 33 gq55 rfl rfl ?_
      exact g_iret gq55 rfl rfl h
  · replace h := h.2 c
    refine g_iload_n 11 gq55 rfl rfl rfl ?_
    refine g_iconst 12 gq55 rfl rfl ?_
    refine g_iadd 13 gq55 rfl rfl ?_
    exact g_iret gq55 rfl rfl h

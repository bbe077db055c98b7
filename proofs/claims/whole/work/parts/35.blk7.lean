set_option maxRecDepth 10000 in
theorem b80_0 {xs : Nat → Int32} {Lx d : Nat} {V : km_V} {Q : Option Value → km_V → Prop} {a1 : Int} 
    (h : kGo xs Lx (d + 0) 80 3 [some (.ref 1), some (kI a1), some (kI 24)] [] V Q) :
    kGo xs Lx (d + 0) 80 0 [some (.ref 1), some (kI a1), none] [] V Q := by
  refine g_bipush 2 gq80 rfl rfl rfl ?_
  refine g_istore_n 3 gq80 rfl rfl rfl ?_
  exact kGo.weak (km_Le.s (km_Le.s (km_Le.s km_Le.nil))) h
set_option maxRecDepth 10000 in
theorem b80_3 {xs : Nat → Int32} {Lx d : Nat} {V : km_V} {Q : Option Value → km_V → Prop} {x1 x2 : Int} 
    (h : (kR x2) ∧ ((x2 < 0 →
    Q none V) ∧
   (0 ≤ x2 →
    (kR (V 1 0)) ∧ ((2000 ≤ (V 1 0) →
      Q none V) ∧
     ((V 1 0) < 2000 →
      (kR x1) ∧ (0 ≤ x2 ∧ x2 < 32) ∧ (0 ≤ (V 1 0) ∧ (V 1 0) < (2000 : Nat)) ∧ kGo xs Lx (d + 0) 80 3 [some (.ref 1), some (kI x1), some (kI (x2 + (-8)))] [] (up (up V 2 (Int.toNat (V 1 0)) (k8 (k8 (x1 / ((2 ^ Int.toNat x2 : Nat) : Int))))) 1 0 (((up V 2 (Int.toNat (V 1 0)) (k8 (k8 (x1 / ((2 ^ Int.toNat x2 : Nat) : Int))))) 1 0) + 1)) Q))))) :
    kGo xs Lx (d + 0) 80 3 [some (.ref 1), some (kI x1), some (kI x2)] [] V Q := by
  refine g_iload_n 4 gq80 rfl rfl rfl ?_
  have c1 := h.1
  replace h := h.2
  refine g_if_lt 46 7 gq80 rfl rfl rfl c1 (fun c => ?_) (fun c => ?_)
  · replace h := h.1 c
    exact g_vret gq80 rfl rfl h
  · replace h := h.2 c
    refine g_aload_n 8 gq80 rfl rfl rfl ?_
    refine g_getI 11 gq80 rfl rfl rfl rfl rfl rfl ?_
    refine g_sipush 14 gq80 rfl rfl rfl ?_
    have c10 := h.1
    replace h := h.2
    refine g_icmp_ge 46 17 gq80 rfl rfl rfl c10 (by omega) (fun c => ?_) (fun c => ?_)
    · replace h := h.1 c
      exact g_vret gq80 rfl rfl h
    · replace h := h.2 c
      refine g_aload_n 18 gq80 rfl rfl rfl ?_
      refine g_getA 21 2 gq80 rfl rfl rfl rfl rfl rfl rfl ?_
      refine g_aload_n 22 gq80 rfl rfl rfl ?_
      refine g_getI 25 gq80 rfl rfl rfl rfl rfl rfl ?_
      refine g_iload_n 26 gq80 rfl rfl rfl ?_
      refine g_iload_n 27 gq80 rfl rfl rfl ?_
      have c22 := h.1
      replace h := h.2
      have c24 := h.1
      replace h := h.2
      refine g_ishr 28 gq80 rfl rfl c22 c24 ?_
      refine g_i2b 29 gq80 rfl rfl ?_
      have c28 := h.1
      replace h := h.2
      refine g_bast 30 gq80 rfl rfl rfl c28 ?_
      refine g_aload_n 31 gq80 rfl rfl rfl ?_
      refine g_dup 32 gq80 rfl rfl rfl ?_
      refine g_getI 35 gq80 rfl rfl rfl rfl rfl rfl ?_
      refine g_iconst 36 gq80 rfl rfl ?_
      refine g_iadd 37 gq80 rfl rfl ?_
      refine g_putI 40 gq80 rfl rfl rfl rfl rfl rfl rfl rfl ?_
      refine g_iinc 43 gq80 rfl rfl rfl rfl ?_
      refine g_goto 3 gq80 rfl rfl ?_
      exact kGo.weak (km_Le.s (km_Le.s (km_Le.s km_Le.nil))) h
set_option maxRecDepth 10000 in
theorem b81_0 {xs : Nat → Int32} {Lx d : Nat} {V : km_V} {Q : Option Value → km_V → Prop} 
    (h : Q none (up V 1 4 0)) :
    kGo xs Lx (d + 0) 81 0 [some (.ref 1)] [] V Q := by
  refine g_aload_n 1 gq81 rfl rfl rfl ?_
  refine g_iconst 2 gq81 rfl rfl ?_
  refine g_putI 5 gq81 rfl rfl rfl rfl rfl rfl rfl rfl ?_
  exact g_vret gq81 rfl rfl h
set_option maxRecDepth 10000 in
theorem b82_0 {xs : Nat → Int32} {Lx d : Nat} {V : km_V} {Q : Option Value → km_V → Prop} 
    (h : kGo xs Lx (d + 3) 82 2 [some (.ref 1), some (kI 0)] [] V Q) :
    kGo xs Lx (d + 3) 82 0 [some (.ref 1), none] [] V Q := by
  refine g_iconst 1 gq82 rfl rfl ?_
  refine g_istore_n 2 gq82 rfl rfl rfl ?_
  exact kGo.weak (km_Le.s (km_Le.s km_Le.nil)) h
set_option maxRecDepth 10000 in
theorem b82_2 {xs : Nat → Int32} {Lx d : Nat} {V : km_V} {Q : Option Value → km_V → Prop} {x1 : Int} 
    (h : (kR x1) ∧ ((2000 ≤ x1 →
    (kcbyC (up V 1 3 (V 1 4)) ((up V 1 3 (V 1 4)) 1 4)) ∧ (∀ z1 : Int, z1 = (kcby (up V 1 3 (V 1 4)) ((up V 1 3 (V 1 4)) 1 4)) → (kR z1) ∧ ((z1 ≠ (-1) →
      (kR (klet z1)) ∧ (((klet z1) = 0 →
        (kR (kdig z1)) ∧ (((kdig z1) = 0 →
          ((z1 ≠ 59 →
            ((z1 ≠ 43 →
              ((z1 ≠ 45 →
                Q none (up (up (up V 1 3 (V 1 4)) 1 4 (((up V 1 3 (V 1 4)) 1 4) + 1)) 1 1 1)) ∧
               (z1 = 45 →
                Q none (up (up (up V 1 3 (V 1 4)) 1 4 (((up V 1 3 (V 1 4)) 1 4) + 1)) 1 1 9)))) ∧
             (z1 = 43 →
              Q none (up (up (up V 1 3 (V 1 4)) 1 4 (((up V 1 3 (V 1 4)) 1 4) + 1)) 1 1 8)))) ∧
           (z1 = 59 →
            Q none (up (up (up V 1 3 (V 1 4)) 1 4 (((up V 1 3 (V 1 4)) 1 4) + 1)) 1 1 7)))) ∧
         ((kdig z1) ≠ 0 →
          kCV xs Lx (d + 2) 85 2 [.ref 1] (up V 1 3 (V 1 4)) (fun W2 =>
          Q none W2)))) ∧
       ((klet z1) ≠ 0 →
        kCV xs Lx (d + 2) 83 2 [.ref 1] (up V 1 3 (V 1 4)) (fun W3 =>
        Q none W3)))) ∧
     (z1 = (-1) →
      Q none (up (up V 1 3 (V 1 4)) 1 1 0))))) ∧
   (x1 < 2000 →
    (kcbyC V (V 1 4)) ∧ (kR (kcby V (V 1 4))) ∧ (kR (kblk (kcby V (V 1 4)))) ∧ (((kblk (kcby V (V 1 4))) = 0 →
      (kcbyC (up V 1 3 (V 1 4)) ((up V 1 3 (V 1 4)) 1 4)) ∧ (∀ z4 : Int, z4 = (kcby (up V 1 3 (V 1 4)) ((up V 1 3 (V 1 4)) 1 4)) → (kR z4) ∧ ((z4 ≠ (-1) →
        (kR (klet z4)) ∧ (((klet z4) = 0 →
          (kR (kdig z4)) ∧ (((kdig z4) = 0 →
            ((z4 ≠ 59 →
              ((z4 ≠ 43 →
                ((z4 ≠ 45 →
                  Q none (up (up (up V 1 3 (V 1 4)) 1 4 (((up V 1 3 (V 1 4)) 1 4) + 1)) 1 1 1)) ∧
                 (z4 = 45 →
                  Q none (up (up (up V 1 3 (V 1 4)) 1 4 (((up V 1 3 (V 1 4)) 1 4) + 1)) 1 1 9)))) ∧
               (z4 = 43 →
                Q none (up (up (up V 1 3 (V 1 4)) 1 4 (((up V 1 3 (V 1 4)) 1 4) + 1)) 1 1 8)))) ∧
             (z4 = 59 →
              Q none (up (up (up V 1 3 (V 1 4)) 1 4 (((up V 1 3 (V 1 4)) 1 4) + 1)) 1 1 7)))) ∧
           ((kdig z4) ≠ 0 →
            kCV xs Lx (d + 2) 85 2 [.ref 1] (up V 1 3 (V 1 4)) (fun W5 =>
            Q none W5)))) ∧
         ((klet z4) ≠ 0 →
          kCV xs Lx (d + 2) 83 2 [.ref 1] (up V 1 3 (V 1 4)) (fun W6 =>
          Q none W6)))) ∧
       (z4 = (-1) →
        Q none (up (up V 1 3 (V 1 4)) 1 1 0))))) ∧
     ((kblk (kcby V (V 1 4))) ≠ 0 →
      kGo xs Lx (d + 3) 82 2 [some (.ref 1), some (kI (x1 + 1))] [] (up V 1 4 ((V 1 4) + 1)) Q))))) :
    kGo xs Lx (d + 3) 82 2 [some (.ref 1), some (kI x1)] [] V Q := by
  refine g_iload_n 3 gq82 rfl rfl rfl ?_
  refine g_sipush 6 gq82 rfl rfl rfl ?_
  have c2 := h.1
  replace h := h.2
  refine g_icmp_ge 39 9 gq82 rfl rfl rfl c2 (by omega) (fun c => ?_) (fun c => ?_)
  · replace h := h.1 c
    refine g_aload_n 40 gq82 rfl rfl rfl ?_
    refine g_aload_n 41 gq82 rfl rfl rfl ?_
    refine g_getI 44 gq82 rfl rfl rfl rfl rfl rfl ?_
    refine g_putI 47 gq82 rfl rfl rfl rfl rfl rfl rfl rfl ?_
    refine g_aload_n 48 gq82 rfl rfl rfl ?_
    refine g_aload_n 49 gq82 rfl rfl rfl ?_
    refine g_getI 52 gq82 rfl rfl rfl rfl rfl rfl ?_
    have c13 := h.1
    replace h := h.2
    refine g_virt 86 _ (i := 22) gq82 rfl rfl gq86 rfl rfl rfl rfl rfl rfl ?_
    refine sp_cby  c13 ?_
    refine g_istore_n 56 gq82 rfl rfl rfl ?_
    replace h := h _ rfl
    refine g_iload_n 57 gq82 rfl rfl rfl ?_
    refine g_iconst 58 gq82 rfl rfl ?_
    have c21 := h.1
    replace h := h.2
    refine g_icmp_ne 69 61 gq82 rfl rfl rfl c21 (by omega) (fun c => ?_) (fun c => ?_)
    · replace h := h.1 c
      refine g_iload_n 70 gq82 rfl rfl rfl ?_
      refine g_static 88 _ (i := 36) gq82 rfl rfl gq88 rfl rfl rfl rfl ?_
      refine sp_clet c21 ?_
      have c28 := h.1
      replace h := h.2
      refine g_if_eq 83 76 gq82 rfl rfl rfl c28 (fun c => ?_) (fun c => ?_)
      · replace h := h.1 c
        refine g_iload_n 84 gq82 rfl rfl rfl ?_
        refine g_static 89 _ (i := 42) gq82 rfl rfl gq89 rfl rfl rfl rfl ?_
        refine sp_cdig c21 ?_
        have c35 := h.1
        replace h := h.2
        refine g_if_eq 97 90 gq82 rfl rfl rfl c35 (fun c => ?_) (fun c => ?_)
        · replace h := h.1 c
          refine g_aload_n 98 gq82 rfl rfl rfl ?_
          refine g_dup 99 gq82 rfl rfl rfl ?_
          refine g_getI 102 gq82 rfl rfl rfl rfl rfl rfl ?_
          refine g_iconst 103 gq82 rfl rfl ?_
          refine g_iadd 104 gq82 rfl rfl ?_
          refine g_putI 107 gq82 rfl rfl rfl rfl rfl rfl rfl rfl ?_
          refine g_aload_n 108 gq82 rfl rfl rfl ?_
          refine g_iload_n 109 gq82 rfl rfl rfl ?_
          refine g_bipush 111 gq82 rfl rfl rfl ?_
          refine g_icmp_ne 119 114 gq82 rfl rfl rfl c21 (by omega) (fun c => ?_) (fun c => ?_)
          · replace h := h.1 c
            refine g_iload_n 120 gq82 rfl rfl rfl ?_
            refine g_bipush 122 gq82 rfl rfl rfl ?_
            refine g_icmp_ne 130 125 gq82 rfl rfl rfl c21 (by omega) (fun c => ?_) (fun c => ?_)
            · replace h := h.1 c
              refine g_iload_n 131 gq82 rfl rfl rfl ?_
              refine g_bipush 133 gq82 rfl rfl rfl ?_
              refine g_icmp_ne 141 136 gq82 rfl rfl rfl c21 (by omega) (fun c => ?_) (fun c => ?_)
              · replace h := h.1 c
                refine g_iconst 142 gq82 rfl rfl ?_
                refine g_putI 145 gq82 rfl rfl rfl rfl rfl rfl rfl rfl ?_
                exact g_vret gq82 rfl rfl h
              · replace h := h.2 c
                refine g_bipush 138 gq82 rfl rfl rfl ?_
                refine g_goto 142 gq82 rfl rfl ?_
                refine g_putI 145 gq82 rfl rfl rfl rfl rfl rfl rfl rfl ?_
                exact g_vret gq82 rfl rfl h
            · replace h := h.2 c
              refine g_bipush 127 gq82 rfl rfl rfl ?_
              refine g_goto 142 gq82 rfl rfl ?_
              refine g_putI 145 gq82 rfl rfl rfl rfl rfl rfl rfl rfl ?_
              exact g_vret gq82 rfl rfl h
          · replace h := h.2 c
            refine g_bipush 116 gq82 rfl rfl rfl ?_
            refine g_goto 142 gq82 rfl rfl ?_
            refine g_putI 145 gq82 rfl rfl rfl rfl rfl rfl rfl rfl ?_
            exact g_vret gq82 rfl rfl h
        · replace h := h.2 c
          refine g_aload_n 91 gq82 rfl rfl rfl ?_
          refine g_virt 85 _ (i := 45) gq82 rfl rfl gq85 rfl rfl rfl rfl rfl rfl ?_
          refine kGo.mono h (fun r W2 hr => ?_)
          obtain ⟨rfl, h⟩ := hr
          refine g_goto 145 gq82 rfl rfl ?_
          exact g_vret gq82 rfl rfl h
      · replace h := h.2 c
        refine g_aload_n 77 gq82 rfl rfl rfl ?_
        refine g_virt 83 _ (i := 39) gq82 rfl rfl gq83 rfl rfl rfl rfl rfl rfl ?_
        refine kGo.mono h (fun r W3 hr => ?_)
        obtain ⟨rfl, h⟩ := hr
        refine g_goto 145 gq82 rfl rfl ?_
        exact g_vret gq82 rfl rfl h
    · replace h := h.2 c
      refine g_aload_n 62 gq82 rfl rfl rfl ?_
      refine g_iconst 63 gq82 rfl rfl ?_
      refine g_putI 66 gq82 rfl rfl rfl rfl rfl rfl rfl rfl ?_
      refine g_goto 145 gq82 rfl rfl ?_
      exact g_vret gq82 rfl rfl h
  · replace h := h.2 c
    refine g_aload_n 10 gq82 rfl rfl rfl ?_
    refine g_aload_n 11 gq82 rfl rfl rfl ?_
    refine g_getI 14 gq82 rfl rfl rfl rfl rfl rfl ?_
    have c100 := h.1
    replace h := h.2
    refine g_virt 86 _ (i := 22) gq82 rfl rfl gq86 rfl rfl rfl rfl rfl rfl ?_
    refine sp_cby  c100 ?_
    have c104 := h.1
    replace h := h.2
    refine g_static 87 _ (i := 26) gq82 rfl rfl gq87 rfl rfl rfl rfl ?_
    refine sp_cblk c104 ?_
    have c108 := h.1
    replace h := h.2
    refine g_if_eq 39 23 gq82 rfl rfl rfl c108 (fun c => ?_) (fun c => ?_)
    · replace h := h.1 c
      refine g_aload_n 40 gq82 rfl rfl rfl ?_
      refine g_aload_n 41 gq82 rfl rfl rfl ?_
      refine g_getI 44 gq82 rfl rfl rfl rfl rfl rfl ?_
      refine g_putI 47 gq82 rfl rfl rfl rfl rfl rfl rfl rfl ?_
      refine g_aload_n 48 gq82 rfl rfl rfl ?_
      refine g_aload_n 49 gq82 rfl rfl rfl ?_
      refine g_getI 52 gq82 rfl rfl rfl rfl rfl rfl ?_
      have c119 := h.1
      replace h := h.2
      refine g_virt 86 _ (i := 22) gq82 rfl rfl gq86 rfl rfl rfl rfl rfl rfl ?_
      refine sp_cby  c119 ?_
      refine g_istore_n 56 gq82 rfl rfl rfl ?_
      replace h := h _ rfl
      refine g_iload_n 57 gq82 rfl rfl rfl ?_
      refine g_iconst 58 gq82 rfl rfl ?_
      have c127 := h.1
      replace h := h.2
      refine g_icmp_ne 69 61 gq82 rfl rfl rfl c127 (by omega) (fun c => ?_) (fun c => ?_)
      · replace h := h.1 c
        refine g_iload_n 70 gq82 rfl rfl rfl ?_
        refine g_static 88 _ (i := 36) gq82 rfl rfl gq88 rfl rfl rfl rfl ?_
        refine sp_clet c127 ?_
        have c134 := h.1
        replace h := h.2
        refine g_if_eq 83 76 gq82 rfl rfl rfl c134 (fun c => ?_) (fun c => ?_)
        · replace h := h.1 c
          refine g_iload_n 84 gq82 rfl rfl rfl ?_
          refine g_static 89 _ (i := 42) gq82 rfl rfl gq89 rfl rfl rfl rfl ?_
          refine sp_cdig c127 ?_
          have c141 := h.1
          replace h := h.2
          refine g_if_eq 97 90 gq82 rfl rfl rfl c141 (fun c => ?_) (fun c => ?_)
          · replace h := h.1 c
            refine g_aload_n 98 gq82 rfl rfl rfl ?_
            refine g_dup 99 gq82 rfl rfl rfl ?_
            refine g_getI 102 gq82 rfl rfl rfl rfl rfl rfl ?_
            refine g_iconst 103 gq82 rfl rfl ?_
            refine g_iadd 104 gq82 rfl rfl ?_
            refine g_putI 107 gq82 rfl rfl rfl rfl rfl rfl rfl rfl ?_
            refine g_aload_n 108 gq82 rfl rfl rfl ?_
            refine g_iload_n 109 gq82 rfl rfl rfl ?_
            refine g_bipush 111 gq82 rfl rfl rfl ?_
            refine g_icmp_ne 119 114 gq82 rfl rfl rfl c127 (by omega) (fun c => ?_) (fun c => ?_)
            · replace h := h.1 c
              refine g_iload_n 120 gq82 rfl rfl rfl ?_
              refine g_bipush 122 gq82 rfl rfl rfl ?_
              refine g_icmp_ne 130 125 gq82 rfl rfl rfl c127 (by omega) (fun c => ?_) (fun c => ?_)
              · replace h := h.1 c
                refine g_iload_n 131 gq82 rfl rfl rfl ?_
                refine g_bipush 133 gq82 rfl rfl rfl ?_
                refine g_icmp_ne 141 136 gq82 rfl rfl rfl c127 (by omega) (fun c => ?_) (fun c => ?_)
                · replace h := h.1 c
                  refine g_iconst 142 gq82 rfl rfl ?_
                  refine g_putI 145 gq82 rfl rfl rfl rfl rfl rfl rfl rfl ?_
                  exact g_vret gq82 rfl rfl h
                · replace h := h.2 c
                  refine g_bipush 138 gq82 rfl rfl rfl ?_
                  refine g_goto 142 gq82 rfl rfl ?_
                  refine g_putI 145 gq82 rfl rfl rfl rfl rfl rfl rfl rfl ?_
                  exact g_vret gq82 rfl rfl h
              · replace h := h.2 c
                refine g_bipush 127 gq82 rfl rfl rfl ?_
                refine g_goto 142 gq82 rfl rfl ?_
                refine g_putI 145 gq82 rfl rfl rfl rfl rfl rfl rfl rfl ?_
                exact g_vret gq82 rfl rfl h
            · replace h := h.2 c
              refine g_bipush 116 gq82 rfl rfl rfl ?_
              refine g_goto 142 gq82 rfl rfl ?_
              refine g_putI 145 gq82 rfl rfl rfl rfl rfl rfl rfl rfl ?_
              exact g_vret gq82 rfl rfl h
          · replace h := h.2 c
            refine g_aload_n 91 gq82 rfl rfl rfl ?_
            refine g_virt 85 _ (i := 45) gq82 rfl rfl gq85 rfl rfl rfl rfl rfl rfl ?_
            refine kGo.mono h (fun r W5 hr => ?_)
            obtain ⟨rfl, h⟩ := hr
            refine g_goto 145 gq82 rfl rfl ?_
            exact g_vret gq82 rfl rfl h
        · replace h := h.2 c
          refine g_aload_n 77 gq82 rfl rfl rfl ?_
          refine g_virt 83 _ (i := 39) gq82 rfl rfl gq83 rfl rfl rfl rfl rfl rfl ?_
          refine kGo.mono h (fun r W6 hr => ?_)
          obtain ⟨rfl, h⟩ := hr
          refine g_goto 145 gq82 rfl rfl ?_
          exact g_vret gq82 rfl rfl h
      · replace h := h.2 c
        refine g_aload_n 62 gq82 rfl rfl rfl ?_
        refine g_iconst 63 gq82 rfl rfl ?_
        refine g_putI 66 gq82 rfl rfl rfl rfl rfl rfl rfl rfl ?_
        refine g_goto 145 gq82 rfl rfl ?_
        exact g_vret gq82 rfl rfl h
    · replace h := h.2 c
      refine g_aload_n 24 gq82 rfl rfl rfl ?_
      refine g_dup 25 gq82 rfl rfl rfl ?_
      refine g_getI 28 gq82 rfl rfl rfl rfl rfl rfl ?_
      refine g_iconst 29 gq82 rfl rfl ?_
      refine g_iadd 30 gq82 rfl rfl ?_
      refine g_putI 33 gq82 rfl rfl rfl rfl rfl rfl rfl rfl ?_
      refine g_iinc 36 gq82 rfl rfl rfl rfl ?_
      refine g_goto 2 gq82 rfl rfl ?_
      exact kGo.weak (km_Le.s (km_Le.s km_Le.nil)) h
set_option maxRecDepth 10000 in
theorem b83_0 {xs : Nat → Int32} {Lx d : Nat} {V : km_V} {Q : Option Value → km_V → Prop} 
    (h : kGo xs Lx (d + 2) 83 2 [some (.ref 1), some (kI 0)] [] V Q) :
    kGo xs Lx (d + 2) 83 0 [some (.ref 1), none] [] V Q := by
  refine g_iconst 1 gq83 rfl rfl ?_
  refine g_istore_n 2 gq83 rfl rfl rfl ?_
  exact kGo.weak (km_Le.s (km_Le.s km_Le.nil)) h
set_option maxRecDepth 10000 in
theorem b83_2 {xs : Nat → Int32} {Lx d : Nat} {V : km_V} {Q : Option Value → km_V → Prop} {x1 : Int} 
    (h : (kR x1) ∧ ((2000 ≤ x1 →
    kCI xs Lx (d + 1) 84 4 [.ref 1, .ref 1000001] V (fun y1 W1 =>
    (kR y1) ∧ ((y1 = 0 →
      kCI xs Lx (d + 1) 84 4 [.ref 1, .ref 1000002] W1 (fun y2 W2 =>
      (kR y2) ∧ ((y2 = 0 →
        kCI xs Lx (d + 1) 84 4 [.ref 1, .ref 1000003] W2 (fun y3 W3 =>
        (kR y3) ∧ ((y3 = 0 →
          kCI xs Lx (d + 1) 84 4 [.ref 1, .ref 1000004] W3 (fun y4 W4 =>
          (kR y4) ∧ ((y4 = 0 →
            Q none (up W4 1 1 1)) ∧
           (y4 ≠ 0 →
            Q none (up W4 1 1 5))))) ∧
         (y3 ≠ 0 →
          Q none (up W3 1 1 4))))) ∧
       (y2 ≠ 0 →
        Q none (up W2 1 1 3))))) ∧
     (y1 ≠ 0 →
      Q none (up W1 1 1 2))))) ∧
   (x1 < 2000 →
    (kcbyC V (V 1 4)) ∧ (kR (kcby V (V 1 4))) ∧ (kR (klet (kcby V (V 1 4)))) ∧ (((klet (kcby V (V 1 4))) = 0 →
      kCI xs Lx (d + 1) 84 4 [.ref 1, .ref 1000001] V (fun y5 W5 =>
      (kR y5) ∧ ((y5 = 0 →
        kCI xs Lx (d + 1) 84 4 [.ref 1, .ref 1000002] W5 (fun y6 W6 =>
        (kR y6) ∧ ((y6 = 0 →
          kCI xs Lx (d + 1) 84 4 [.ref 1, .ref 1000003] W6 (fun y7 W7 =>
          (kR y7) ∧ ((y7 = 0 →
            kCI xs Lx (d + 1) 84 4 [.ref 1, .ref 1000004] W7 (fun y8 W8 =>
            (kR y8) ∧ ((y8 = 0 →
              Q none (up W8 1 1 1)) ∧
             (y8 ≠ 0 →
              Q none (up W8 1 1 5))))) ∧
           (y7 ≠ 0 →
            Q none (up W7 1 1 4))))) ∧
         (y6 ≠ 0 →
          Q none (up W6 1 1 3))))) ∧
       (y5 ≠ 0 →
        Q none (up W5 1 1 2))))) ∧
     ((klet (kcby V (V 1 4))) ≠ 0 →
      kGo xs Lx (d + 2) 83 2 [some (.ref 1), some (kI (x1 + 1))] [] (up V 1 4 ((V 1 4) + 1)) Q))))) :
    kGo xs Lx (d + 2) 83 2 [some (.ref 1), some (kI x1)] [] V Q := by
  refine g_iload_n 3 gq83 rfl rfl rfl ?_
  refine g_sipush 6 gq83 rfl rfl rfl ?_
  have c2 := h.1
  replace h := h.2
  refine g_icmp_ge 39 9 gq83 rfl rfl rfl c2 (by omega) (fun c => ?_) (fun c => ?_)
  · replace h := h.1 c
    refine g_aload_n 40 gq83 rfl rfl rfl ?_
    refine g_ldcS 42 gq83 rfl rfl rfl ?_
    refine g_virt 84 _ (i := 50) gq83 rfl rfl gq84 rfl rfl rfl rfl rfl rfl ?_
    refine kGo.mono h (fun r W1 hr => ?_)
    obtain ⟨y1, rfl, h⟩ := hr
    have c11 := h.1
    replace h := h.2
    refine g_if_eq 56 48 gq83 rfl rfl rfl c11 (fun c => ?_) (fun c => ?_)
    · replace h := h.1 c
      refine g_aload_n 57 gq83 rfl rfl rfl ?_
      refine g_ldcS 59 gq83 rfl rfl rfl ?_
      refine g_virt 84 _ (i := 50) gq83 rfl rfl gq84 rfl rfl rfl rfl rfl rfl ?_
      refine kGo.mono h (fun r W2 hr => ?_)
      obtain ⟨y2, rfl, h⟩ := hr
      have c20 := h.1
      replace h := h.2
      refine g_if_eq 73 65 gq83 rfl rfl rfl c20 (fun c => ?_) (fun c => ?_)
      · replace h := h.1 c
        refine g_aload_n 74 gq83 rfl rfl rfl ?_
        refine g_ldcS 76 gq83 rfl rfl rfl ?_
        refine g_virt 84 _ (i := 50) gq83 rfl rfl gq84 rfl rfl rfl rfl rfl rfl ?_
        refine kGo.mono h (fun r W3 hr => ?_)
        obtain ⟨y3, rfl, h⟩ := hr
        have c29 := h.1
        replace h := h.2
        refine g_if_eq 90 82 gq83 rfl rfl rfl c29 (fun c => ?_) (fun c => ?_)
        · replace h := h.1 c
          refine g_aload_n 91 gq83 rfl rfl rfl ?_
          refine g_ldcS 93 gq83 rfl rfl rfl ?_
          refine g_virt 84 _ (i := 50) gq83 rfl rfl gq84 rfl rfl rfl rfl rfl rfl ?_
          refine kGo.mono h (fun r W4 hr => ?_)
          obtain ⟨y4, rfl, h⟩ := hr
          have c38 := h.1
          replace h := h.2
          refine g_if_eq 107 99 gq83 rfl rfl rfl c38 (fun c => ?_) (fun c => ?_)
          · replace h := h.1 c
            refine g_aload_n 108 gq83 rfl rfl rfl ?_
            refine g_iconst 109 gq83 rfl rfl ?_
            refine g_putI 112 gq83 rfl rfl rfl rfl rfl rfl rfl rfl ?_
            exact g_vret gq83 rfl rfl h
          · replace h := h.2 c
            refine g_aload_n 100 gq83 rfl rfl rfl ?_
            refine g_iconst 101 gq83 rfl rfl ?_
            refine g_putI 104 gq83 rfl rfl rfl rfl rfl rfl rfl rfl ?_
            refine g_goto 112 gq83 rfl rfl ?_
            exact g_vret gq83 rfl rfl h
        · replace h := h.2 c
          refine g_aload_n 83 gq83 rfl rfl rfl ?_
          refine g_iconst 84 gq83 rfl rfl ?_
          refine g_putI 87 gq83 rfl rfl rfl rfl rfl rfl rfl rfl ?_
          refine g_goto 112 gq83 rfl rfl ?_
          exact g_vret gq83 rfl rfl h
      · replace h := h.2 c
        refine g_aload_n 66 gq83 rfl rfl rfl ?_
        refine g_iconst 67 gq83 rfl rfl ?_
        refine g_putI 70 gq83 rfl rfl rfl rfl rfl rfl rfl rfl ?_
        refine g_goto 112 gq83 rfl rfl ?_
        exact g_vret gq83 rfl rfl h
    · replace h := h.2 c
      refine g_aload_n 49 gq83 rfl rfl rfl ?_
      refine g_iconst 50 gq83 rfl rfl ?_
      refine g_putI 53 gq83 rfl rfl rfl rfl rfl rfl rfl rfl ?_
      refine g_goto 112 gq83 rfl rfl ?_
      exact g_vret gq83 rfl rfl h
  · replace h := h.2 c
    refine g_aload_n 10 gq83 rfl rfl rfl ?_
    refine g_aload_n 11 gq83 rfl rfl rfl ?_
    refine g_getI 14 gq83 rfl rfl rfl rfl rfl rfl ?_
    have c74 := h.1
    replace h := h.2
    refine g_virt 86 _ (i := 22) gq83 rfl rfl gq86 rfl rfl rfl rfl rfl rfl ?_
    refine sp_cby  c74 ?_
    have c78 := h.1
    replace h := h.2
    refine g_static 88 _ (i := 36) gq83 rfl rfl gq88 rfl rfl rfl rfl ?_
    refine sp_clet c78 ?_
    have c82 := h.1
    replace h := h.2
    refine g_if_eq 39 23 gq83 rfl rfl rfl c82 (fun c => ?_) (fun c => ?_)
    · replace h := h.1 c
      refine g_aload_n 40 gq83 rfl rfl rfl ?_
      refine g_ldcS 42 gq83 rfl rfl rfl ?_
      refine g_virt 84 _ (i := 50) gq83 rfl rfl gq84 rfl rfl rfl rfl rfl rfl ?_
      refine kGo.mono h (fun r W5 hr => ?_)
      obtain ⟨y5, rfl, h⟩ := hr
      have c91 := h.1
      replace h := h.2
      refine g_if_eq 56 48 gq83 rfl rfl rfl c91 (fun c => ?_) (fun c => ?_)
      · replace h := h.1 c
        refine g_aload_n 57 gq83 rfl rfl rfl ?_
        refine g_ldcS 59 gq83 rfl rfl rfl ?_
        refine g_virt 84 _ (i := 50) gq83 rfl rfl gq84 rfl rfl rfl rfl rfl rfl ?_
        refine kGo.mono h (fun r W6 hr => ?_)
        obtain ⟨y6, rfl, h⟩ := hr
        have c100 := h.1
        replace h := h.2
        refine g_if_eq 73 65 gq83 rfl rfl rfl c100 (fun c => ?_) (fun c => ?_)
        · replace h := h.1 c
          refine g_aload_n 74 gq83 rfl rfl rfl ?_
          refine g_ldcS 76 gq83 rfl rfl rfl ?_
          refine g_virt 84 _ (i := 50) gq83 rfl rfl gq84 rfl rfl rfl rfl rfl rfl ?_
          refine kGo.mono h (fun r W7 hr => ?_)
          obtain ⟨y7, rfl, h⟩ := hr
          have c109 := h.1
          replace h := h.2
          refine g_if_eq 90 82 gq83 rfl rfl rfl c109 (fun c => ?_) (fun c => ?_)
          · replace h := h.1 c
            refine g_aload_n 91 gq83 rfl rfl rfl ?_
            refine g_ldcS 93 gq83 rfl rfl rfl ?_
            refine g_virt 84 _ (i := 50) gq83 rfl rfl gq84 rfl rfl rfl rfl rfl rfl ?_
            refine kGo.mono h (fun r W8 hr => ?_)
            obtain ⟨y8, rfl, h⟩ := hr
            have c118 := h.1
            replace h := h.2
            refine g_if_eq 107 99 gq83 rfl rfl rfl c118 (fun c => ?_) (fun c => ?_)
            · replace h := h.1 c
              refine g_aload_n 108 gq83 rfl rfl rfl ?_
              refine g_iconst 109 gq83 rfl rfl ?_
              refine g_putI 112 gq83 rfl rfl rfl rfl rfl rfl rfl rfl ?_
              exact g_vret gq83 rfl rfl h
            · replace h := h.2 c
              refine g_aload_n 100 gq83 rfl rfl rfl ?_
              refine g_iconst 101 gq83 rfl rfl ?_
              refine g_putI 104 gq83 rfl rfl rfl rfl rfl rfl rfl rfl ?_
              refine g_goto 112 gq83 rfl rfl ?_
              exact g_vret gq83 rfl rfl h
          · replace h := h.2 c
            refine g_aload_n 83 gq83 rfl rfl rfl ?_
            refine g_iconst 84 gq83 rfl rfl ?_
            refine g_putI 87 gq83 rfl rfl rfl rfl rfl rfl rfl rfl ?_
            refine g_goto 112 gq83 rfl rfl ?_
            exact g_vret gq83 rfl rfl h
        · replace h := h.2 c
          refine g_aload_n 66 gq83 rfl rfl rfl ?_
          refine g_iconst 67 gq83 rfl rfl ?_
          refine g_putI 70 gq83 rfl rfl rfl rfl rfl rfl rfl rfl ?_
          refine g_goto 112 gq83 rfl rfl ?_
          exact g_vret gq83 rfl rfl h
      · replace h := h.2 c
        refine g_aload_n 49 gq83 rfl rfl rfl ?_
        refine g_iconst 50 gq83 rfl rfl ?_
        refine g_putI 53 gq83 rfl rfl rfl rfl rfl rfl rfl rfl ?_
        refine g_goto 112 gq83 rfl rfl ?_
        exact g_vret gq83 rfl rfl h
    · replace h := h.2 c
      refine g_aload_n 24 gq83 rfl rfl rfl ?_
      refine g_dup 25 gq83 rfl rfl rfl ?_
      refine g_getI 28 gq83 rfl rfl rfl rfl rfl rfl ?_
      refine g_iconst 29 gq83 rfl rfl ?_
      refine g_iadd 30 gq83 rfl rfl ?_
      refine g_putI 33 gq83 rfl rfl rfl rfl rfl rfl rfl rfl ?_
      refine g_iinc 36 gq83 rfl rfl rfl rfl ?_
      refine g_goto 2 gq83 rfl rfl ?_
      exact kGo.weak (km_Le.s (km_Le.s km_Le.nil)) h
set_option maxRecDepth 10000 in
theorem b84_0 {xs : Nat → Int32} {Lx d : Nat} {V : km_V} {Q : Option Value → km_V → Prop} {w : Nat} (hw : w < 4)
    (h : (kR ((V 1 4) - (V 1 3))) ∧ (kR (((km_tx w).length : Nat) : Int)) ∧ ((((V 1 4) - (V 1 3)) ≠ (((km_tx w).length : Nat) : Int) →
    kGo xs Lx (d + 1) 84 24 [some (.ref 1), some (.ref (1000001 + w)), some (kI 0), some (kI 0)] [] V Q) ∧
   (((V 1 4) - (V 1 3)) = (((km_tx w).length : Nat) : Int) →
    kGo xs Lx (d + 1) 84 24 [some (.ref 1), some (.ref (1000001 + w)), some (kI 1), some (kI 0)] [] V Q))) :
    kGo xs Lx (d + 1) 84 0 [some (.ref 1), some (.ref (1000001 + w)), none, none] [] V Q := by
  refine g_aload_n 1 gq84 rfl rfl rfl ?_
  refine g_getI 4 gq84 rfl rfl rfl rfl rfl rfl ?_
  refine g_aload_n 5 gq84 rfl rfl rfl ?_
  refine g_getI 8 gq84 rfl rfl rfl rfl rfl rfl ?_
  refine g_isub 9 gq84 rfl rfl ?_
  refine g_aload_n 10 gq84 rfl rfl rfl ?_
  refine g_slen 13 w gq84 rfl rfl rfl hw rfl ?_
  have c7 := h.1
  replace h := h.2
  have c9 := h.1
  replace h := h.2
  refine g_icmp_ne 20 16 gq84 rfl rfl rfl c7 c9 (fun c => ?_) (fun c => ?_)
  · replace h := h.1 c
    refine g_iconst 21 gq84 rfl rfl ?_
    refine g_istore_n 22 gq84 rfl rfl rfl ?_
    refine g_iconst 23 gq84 rfl rfl ?_
    refine g_istore_n 24 gq84 rfl rfl rfl ?_
    exact kGo.weak (km_Le.s (km_Le.s (km_Le.s (km_Le.s km_Le.nil)))) h
  · replace h := h.2 c
    refine g_iconst 17 gq84 rfl rfl ?_
    refine g_goto 21 gq84 rfl rfl ?_
    refine g_istore_n 22 gq84 rfl rfl rfl ?_
    refine g_iconst 23 gq84 rfl rfl ?_
    refine g_istore_n 24 gq84 rfl rfl rfl ?_
    exact kGo.weak (km_Le.s (km_Le.s (km_Le.s (km_Le.s km_Le.nil)))) h
set_option maxRecDepth 10000 in
theorem b84_24 {xs : Nat → Int32} {Lx d : Nat} {V : km_V} {Q : Option Value → km_V → Prop} {x2 x3 : Int} {w : Nat} (hw : w < 4)
    (h : (kR x2) ∧ ((x2 = 0 →
    (x2 = 0 ∨ x2 = 1) ∧ Q (some (kI x2)) V) ∧
   (x2 ≠ 0 →
    (kR x3) ∧ (kR (((km_tx w).length : Nat) : Int)) ∧ (((((km_tx w).length : Nat) : Int) ≤ x3 →
      (x2 = 0 ∨ x2 = 1) ∧ Q (some (kI x2)) V) ∧
     (x3 < (((km_tx w).length : Nat) : Int) →
      (kcbyC V ((V 1 3) + x3)) ∧ (∃ b1 : Nat, (0 ≤ x3 ∧ x3 ≤ 100) ∧ (km_tx w)[Int.toNat x3]? = some b1 ∧
      (kR (kcby V ((V 1 3) + x3))) ∧ (kR ((b1 : Nat) : Int)) ∧ (((kcby V ((V 1 3) + x3)) ≠ ((b1 : Nat) : Int) →
        kGo xs Lx (d + 1) 84 24 [some (.ref 1), some (.ref (1000001 + w)), some (kI 0), some (kI (x3 + 1))] [] V Q) ∧
       ((kcby V ((V 1 3) + x3)) = ((b1 : Nat) : Int) →
        kGo xs Lx (d + 1) 84 24 [some (.ref 1), some (.ref (1000001 + w)), some (kI 1), some (kI (x3 + 1))] [] V Q)))))))) :
    kGo xs Lx (d + 1) 84 24 [some (.ref 1), some (.ref (1000001 + w)), some (kI x2), some (kI x3)] [] V Q := by
  refine g_iload_n 25 gq84 rfl rfl rfl ?_
  have c1 := h.1
  replace h := h.2
  refine g_if_eq 66 28 gq84 rfl rfl rfl c1 (fun c => ?_) (fun c => ?_)
  · replace h := h.1 c
    refine g_iload_n 67 gq84 rfl rfl rfl ?_
    have c6 := h.1
    replace h := h.2
    exact g_zret gq84 rfl rfl c6 h
  · replace h := h.2 c
    refine g_iload_n 29 gq84 rfl rfl rfl ?_
    refine g_aload_n 30 gq84 rfl rfl rfl ?_
    refine g_slen 33 w gq84 rfl rfl rfl hw rfl ?_
    have c13 := h.1
    replace h := h.2
    have c15 := h.1
    replace h := h.2
    refine g_icmp_ge 66 36 gq84 rfl rfl rfl c13 c15 (fun c => ?_) (fun c => ?_)
    · replace h := h.1 c
      refine g_iload_n 67 gq84 rfl rfl rfl ?_
      have c20 := h.1
      replace h := h.2
      exact g_zret gq84 rfl rfl c20 h
    · replace h := h.2 c
      refine g_aload_n 37 gq84 rfl rfl rfl ?_
      refine g_aload_n 38 gq84 rfl rfl rfl ?_
      refine g_getI 41 gq84 rfl rfl rfl rfl rfl rfl ?_
      refine g_iload_n 42 gq84 rfl rfl rfl ?_
      refine g_iadd 43 gq84 rfl rfl ?_
      have c29 := h.1
      replace h := h.2
      refine g_virt 86 _ (i := 22) gq84 rfl rfl gq86 rfl rfl rfl rfl rfl rfl ?_
      refine sp_cby  c29 ?_
      refine g_aload_n 47 gq84 rfl rfl rfl ?_
      refine g_iload_n 48 gq84 rfl rfl rfl ?_
      obtain ⟨b1, hx1, hb1, h⟩ := h
      refine g_char 51 w b1 gq84 rfl rfl rfl hw rfl hx1 hb1 ?_
      have c37 := h.1
      replace h := h.2
      have c39 := h.1
      replace h := h.2
      refine g_icmp_ne 58 54 gq84 rfl rfl rfl c37 c39 (fun c => ?_) (fun c => ?_)
      · replace h := h.1 c
        refine g_iconst 59 gq84 rfl rfl ?_
        refine g_istore_n 60 gq84 rfl rfl rfl ?_
        refine g_iinc 63 gq84 rfl rfl rfl rfl ?_
        refine g_goto 24 gq84 rfl rfl ?_
        exact kGo.weak (km_Le.s (km_Le.s (km_Le.s (km_Le.s km_Le.nil)))) h
      · replace h := h.2 c
        refine g_iconst 55 gq84 rfl rfl ?_
        refine g_goto 59 gq84 rfl rfl ?_
        refine g_istore_n 60 gq84 rfl rfl rfl ?_
        refine g_iinc 63 gq84 rfl rfl rfl rfl ?_
        refine g_goto 24 gq84 rfl rfl ?_
        exact kGo.weak (km_Le.s (km_Le.s (km_Le.s (km_Le.s km_Le.nil)))) h
set_option maxRecDepth 10000 in
theorem b85_0 {xs : Nat → Int32} {Lx d : Nat} {V : km_V} {Q : Option Value → km_V → Prop} 
    (h : kGo xs Lx (d + 1) 85 7 [some (.ref 1), some (kI 0)] [] (up V 1 2 0) Q) :
    kGo xs Lx (d + 1) 85 0 [some (.ref 1), none] [] V Q := by
  refine g_aload_n 1 gq85 rfl rfl rfl ?_
  refine g_iconst 2 gq85 rfl rfl ?_
  refine g_putI 5 gq85 rfl rfl rfl rfl rfl rfl rfl rfl ?_
  refine g_iconst 6 gq85 rfl rfl ?_
  refine g_istore_n 7 gq85 rfl rfl rfl ?_
  exact kGo.weak (km_Le.s (km_Le.s km_Le.nil)) h
set_option maxRecDepth 10000 in
theorem b85_7 {xs : Nat → Int32} {Lx d : Nat} {V : km_V} {Q : Option Value → km_V → Prop} {x1 : Int} 
    (h : (kR x1) ∧ ((2000 ≤ x1 →
    (kR ((V 1 4) - (V 1 3))) ∧ ((4 < ((V 1 4) - (V 1 3)) →
      Q none (up V 1 1 1)) ∧
     (((V 1 4) - (V 1 3)) ≤ 4 →
      Q none (up V 1 1 6)))) ∧
   (x1 < 2000 →
    (kcbyC V (V 1 4)) ∧ (kR (kcby V (V 1 4))) ∧ (kR (kdig (kcby V (V 1 4)))) ∧ (((kdig (kcby V (V 1 4))) = 0 →
      (kR ((V 1 4) - (V 1 3))) ∧ ((4 < ((V 1 4) - (V 1 3)) →
        Q none (up V 1 1 1)) ∧
       (((V 1 4) - (V 1 3)) ≤ 4 →
        Q none (up V 1 1 6)))) ∧
     ((kdig (kcby V (V 1 4))) ≠ 0 →
      kGo xs Lx (d + 1) 85 7 [some (.ref 1), some (kI (x1 + 1))] [] (up (up V 1 2 (((10 * (V 1 2)) + (kcby V (V 1 4))) - 48)) 1 4 (((up V 1 2 (((10 * (V 1 2)) + (kcby V (V 1 4))) - 48)) 1 4) + 1)) Q))))) :
    kGo xs Lx (d + 1) 85 7 [some (.ref 1), some (kI x1)] [] V Q := by
  refine g_iload_n 8 gq85 rfl rfl rfl ?_
  refine g_sipush 11 gq85 rfl rfl rfl ?_
  have c2 := h.1
  replace h := h.2
  refine g_icmp_ge 67 14 gq85 rfl rfl rfl c2 (by omega) (fun c => ?_) (fun c => ?_)
  · replace h := h.1 c
    refine g_aload_n 68 gq85 rfl rfl rfl ?_
    refine g_aload_n 69 gq85 rfl rfl rfl ?_
    refine g_getI 72 gq85 rfl rfl rfl rfl rfl rfl ?_
    refine g_aload_n 73 gq85 rfl rfl rfl ?_
    refine g_getI 76 gq85 rfl rfl rfl rfl rfl rfl ?_
    refine g_isub 77 gq85 rfl rfl ?_
    refine g_iconst 78 gq85 rfl rfl ?_
    have c13 := h.1
    replace h := h.2
    refine g_icmp_gt 86 81 gq85 rfl rfl rfl c13 (by omega) (fun c => ?_) (fun c => ?_)
    · replace h := h.1 c
      refine g_iconst 87 gq85 rfl rfl ?_
      refine g_putI 90 gq85 rfl rfl rfl rfl rfl rfl rfl rfl ?_
      exact g_vret gq85 rfl rfl h
    · replace h := h.2 c
      refine g_bipush 83 gq85 rfl rfl rfl ?_
      refine g_goto 87 gq85 rfl rfl ?_
      refine g_putI 90 gq85 rfl rfl rfl rfl rfl rfl rfl rfl ?_
      exact g_vret gq85 rfl rfl h
  · replace h := h.2 c
    refine g_aload_n 15 gq85 rfl rfl rfl ?_
    refine g_aload_n 16 gq85 rfl rfl rfl ?_
    refine g_getI 19 gq85 rfl rfl rfl rfl rfl rfl ?_
    have c29 := h.1
    replace h := h.2
    refine g_virt 86 _ (i := 22) gq85 rfl rfl gq86 rfl rfl rfl rfl rfl rfl ?_
    refine sp_cby  c29 ?_
    have c33 := h.1
    replace h := h.2
    refine g_static 89 _ (i := 42) gq85 rfl rfl gq89 rfl rfl rfl rfl ?_
    refine sp_cdig c33 ?_
    have c37 := h.1
    replace h := h.2
    refine g_if_eq 67 28 gq85 rfl rfl rfl c37 (fun c => ?_) (fun c => ?_)
    · replace h := h.1 c
      refine g_aload_n 68 gq85 rfl rfl rfl ?_
      refine g_aload_n 69 gq85 rfl rfl rfl ?_
      refine g_getI 72 gq85 rfl rfl rfl rfl rfl rfl ?_
      refine g_aload_n 73 gq85 rfl rfl rfl ?_
      refine g_getI 76 gq85 rfl rfl rfl rfl rfl rfl ?_
      refine g_isub 77 gq85 rfl rfl ?_
      refine g_iconst 78 gq85 rfl rfl ?_
      have c48 := h.1
      replace h := h.2
      refine g_icmp_gt 86 81 gq85 rfl rfl rfl c48 (by omega) (fun c => ?_) (fun c => ?_)
      · replace h := h.1 c
        refine g_iconst 87 gq85 rfl rfl ?_
        refine g_putI 90 gq85 rfl rfl rfl rfl rfl rfl rfl rfl ?_
        exact g_vret gq85 rfl rfl h
      · replace h := h.2 c
        refine g_bipush 83 gq85 rfl rfl rfl ?_
        refine g_goto 87 gq85 rfl rfl ?_
        refine g_putI 90 gq85 rfl rfl rfl rfl rfl rfl rfl rfl ?_
        exact g_vret gq85 rfl rfl h
    · replace h := h.2 c
      refine g_aload_n 29 gq85 rfl rfl rfl ?_
      refine g_bipush 31 gq85 rfl rfl rfl ?_
      refine g_aload_n 32 gq85 rfl rfl rfl ?_
      refine g_getI 35 gq85 rfl rfl rfl rfl rfl rfl ?_
      refine g_imul 36 gq85 rfl rfl ?_
      refine g_aload_n 37 gq85 rfl rfl rfl ?_
      refine g_aload_n 38 gq85 rfl rfl rfl ?_
      refine g_getI 41 gq85 rfl rfl rfl rfl rfl rfl ?_
      refine g_virt 86 _ (i := 22) gq85 rfl rfl gq86 rfl rfl rfl rfl rfl rfl ?_
      refine sp_cby  c29 ?_
      refine g_iadd 45 gq85 rfl rfl ?_
      refine g_bipush 47 gq85 rfl rfl rfl ?_
      refine g_isub 48 gq85 rfl rfl ?_
      refine g_putI 51 gq85 rfl rfl rfl rfl rfl rfl rfl rfl ?_
      refine g_aload_n 52 gq85 rfl rfl rfl ?_
      refine g_dup 53 gq85 rfl rfl rfl ?_
      refine g_getI 56 gq85 rfl rfl rfl rfl rfl rfl ?_
      refine g_iconst 57 gq85 rfl rfl ?_
      refine g_iadd 58 gq85 rfl rfl ?_
      refine g_putI 61 gq85 rfl rfl rfl rfl rfl rfl rfl rfl ?_
      refine g_iinc 64 gq85 rfl rfl rfl rfl ?_
      refine g_goto 7 gq85 rfl rfl ?_
      exact kGo.weak (km_Le.s (km_Le.s km_Le.nil)) h

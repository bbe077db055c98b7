set_option maxRecDepth 10000 in
theorem b57_0 {xs : Nat → Int32} {Lx d : Nat} {V : km_V} {Q : Option Value → km_V → Prop} {t : Nat} (ht : km_sh[t]? = some (5, 5)) {r1 : Nat} (hr1 : km_sh[r1]? = some (5, 5))
    (h : ∀ W1 : km_V, (∀ j, j < 5 → W1 (t + 1) j = (up (up V t 0 (V r1 0)) t 1 ((up V t 0 (V r1 0)) r1 1)) (r1 + 1) j) → (∀ c j, ¬ (c = (t + 1) ∧ j < 5) → W1 c j = (up (up V t 0 (V r1 0)) t 1 ((up V t 0 (V r1 0)) r1 1)) c j) →
  ∀ W2 : km_V, (∀ j, j < 16 → W2 (t + 2) j = W1 (r1 + 2) j) → (∀ c j, ¬ (c = (t + 2) ∧ j < 16) → W2 c j = W1 c j) →
  ∀ W3 : km_V, (∀ j, j < 8 → W3 (t + 3) j = W2 (r1 + 3) j) → (∀ c j, ¬ (c = (t + 3) ∧ j < 8) → W3 c j = W2 c j) →
  Q none W3) :
    kGo xs Lx (d + 0) 57 0 [some (.ref t), some (.ref r1)] [] V Q := by
  refine g_aload_n 1 gq57 rfl rfl rfl ?_
  refine g_aload_n 2 gq57 rfl rfl rfl ?_
  refine g_getI 5 gq57 rfl rfl rfl hr1 rfl rfl ?_
  refine g_putI 8 gq57 rfl rfl rfl ht rfl rfl rfl rfl ?_
  refine g_aload_n 9 gq57 rfl rfl rfl ?_
  refine g_aload_n 10 gq57 rfl rfl rfl ?_
  refine g_getI 13 gq57 rfl rfl rfl hr1 rfl rfl ?_
  refine g_putI 16 gq57 rfl rfl rfl ht rfl rfl rfl rfl ?_
  refine g_aload_n 17 gq57 rfl rfl rfl ?_
  refine g_getA 20 (r1 + 1) gq57 rfl rfl rfl hr1 rfl rfl (rfR2 hr1) ?_
  refine g_iconst 21 gq57 rfl rfl ?_
  refine g_aload_n 22 gq57 rfl rfl rfl ?_
  refine g_getA 25 (t + 1) gq57 rfl rfl rfl ht rfl rfl (rfR2 ht) ?_
  refine g_iconst 26 gq57 rfl rfl ?_
  refine g_iconst 27 gq57 rfl rfl ?_
  refine g_copy (n := 5) 30 gq57 rfl rfl rfl (shR2 hr1) (shR2 ht) (by decide) (by decide) (by decide) (fun W1 e1 e2 => ?_)
  replace h := h W1 e1 e2
  refine g_aload_n 31 gq57 rfl rfl rfl ?_
  refine g_getA 34 (r1 + 2) gq57 rfl rfl rfl hr1 rfl rfl (rfR3 hr1) ?_
  refine g_iconst 35 gq57 rfl rfl ?_
  refine g_aload_n 36 gq57 rfl rfl rfl ?_
  refine g_getA 39 (t + 2) gq57 rfl rfl rfl ht rfl rfl (rfR3 ht) ?_
  refine g_iconst 40 gq57 rfl rfl ?_
  refine g_bipush 42 gq57 rfl rfl rfl ?_
  refine g_copy (n := 16) 45 gq57 rfl rfl rfl (shR3 hr1) (shR3 ht) (by decide) (by decide) (by decide) (fun W2 e1 e2 => ?_)
  replace h := h W2 e1 e2
  refine g_aload_n 46 gq57 rfl rfl rfl ?_
  refine g_getA 49 (r1 + 3) gq57 rfl rfl rfl hr1 rfl rfl (rfR4 hr1) ?_
  refine g_iconst 50 gq57 rfl rfl ?_
  refine g_aload_n 51 gq57 rfl rfl rfl ?_
  refine g_getA 54 (t + 3) gq57 rfl rfl rfl ht rfl rfl (rfR4 ht) ?_
  refine g_iconst 55 gq57 rfl rfl ?_
  refine g_bipush 57 gq57 rfl rfl rfl ?_
  refine g_copy (n := 8) 60 gq57 rfl rfl rfl (shR4 hr1) (shR4 ht) (by decide) (by decide) (by decide) (fun W3 e1 e2 => ?_)
  replace h := h W3 e1 e2
  exact g_vret gq57 rfl rfl h
set_option maxRecDepth 10000 in
theorem b58_0 {xs : Nat → Int32} {Lx d : Nat} {V : km_V} {Q : Option Value → km_V → Prop} {t : Nat} (ht : km_sh[t]? = some (5, 5)) {r1 : Nat} (hr1 : km_sh[r1]? = some (5, 5))
    (h : (kR (V t 0)) ∧ (kR (V r1 0)) ∧ (((V t 0) ≠ (V r1 0) →
    kGo xs Lx (d + 1) 58 30 [some (.ref t), some (.ref r1), some (kI 0), some (kI 0)] [] V Q) ∧
   ((V t 0) = (V r1 0) →
    (kR (V t 1)) ∧ (kR (V r1 1)) ∧ (((V t 1) ≠ (V r1 1) →
      kGo xs Lx (d + 1) 58 30 [some (.ref t), some (.ref r1), some (kI 0), some (kI 0)] [] V Q) ∧
     ((V t 1) = (V r1 1) →
      kGo xs Lx (d + 1) 58 30 [some (.ref t), some (.ref r1), some (kI 1), some (kI 0)] [] V Q))))) :
    kGo xs Lx (d + 1) 58 0 [some (.ref t), some (.ref r1), none, none] [] V Q := by
  refine g_aload_n 1 gq58 rfl rfl rfl ?_
  refine g_getI 4 gq58 rfl rfl rfl ht rfl rfl ?_
  refine g_aload_n 5 gq58 rfl rfl rfl ?_
  refine g_getI 8 gq58 rfl rfl rfl hr1 rfl rfl ?_
  have c4 := h.1
  replace h := h.2
  have c6 := h.1
  replace h := h.2
  refine g_icmp_ne 26 11 gq58 rfl rfl rfl c4 c6 (fun c => ?_) (fun c => ?_)
  · replace h := h.1 c
    refine g_iconst 27 gq58 rfl rfl ?_
    refine g_istore_n 28 gq58 rfl rfl rfl ?_
    refine g_iconst 29 gq58 rfl rfl ?_
    refine g_istore_n 30 gq58 rfl rfl rfl ?_
    exact kGo.weak (km_Le.s (km_Le.s (km_Le.s (km_Le.s km_Le.nil)))) h
  · replace h := h.2 c
    refine g_aload_n 12 gq58 rfl rfl rfl ?_
    refine g_getI 15 gq58 rfl rfl rfl ht rfl rfl ?_
    refine g_aload_n 16 gq58 rfl rfl rfl ?_
    refine g_getI 19 gq58 rfl rfl rfl hr1 rfl rfl ?_
    have c20 := h.1
    replace h := h.2
    have c22 := h.1
    replace h := h.2
    refine g_icmp_ne 26 22 gq58 rfl rfl rfl c20 c22 (fun c => ?_) (fun c => ?_)
    · replace h := h.1 c
      refine g_iconst 27 gq58 rfl rfl ?_
      refine g_istore_n 28 gq58 rfl rfl rfl ?_
      refine g_iconst 29 gq58 rfl rfl ?_
      refine g_istore_n 30 gq58 rfl rfl rfl ?_
      exact kGo.weak (km_Le.s (km_Le.s (km_Le.s (km_Le.s km_Le.nil)))) h
    · replace h := h.2 c
      refine g_iconst 23 gq58 rfl rfl ?_
      refine g_goto 27 gq58 rfl rfl ?_
      refine g_istore_n 28 gq58 rfl rfl rfl ?_
      refine g_iconst 29 gq58 rfl rfl ?_
      refine g_istore_n 30 gq58 rfl rfl rfl ?_
      exact kGo.weak (km_Le.s (km_Le.s (km_Le.s (km_Le.s km_Le.nil)))) h
set_option maxRecDepth 10000 in
theorem b58_30 {xs : Nat → Int32} {Lx d : Nat} {V : km_V} {Q : Option Value → km_V → Prop} {x2 x3 : Int} {q0 : Nat} (hq0 : km_sh[q0]? = some (5, 5)) {q1 : Nat} (hq1 : km_sh[q1]? = some (5, 5))
    (h : (kR x2) ∧ ((x2 = 0 →
    kGo xs Lx (d + 1) 58 71 [some (.ref q0), some (.ref q1), some (kI x2), some (kI 0)] [] V Q) ∧
   (x2 ≠ 0 →
    (kR x3) ∧ (kR (V q0 0)) ∧ (((V q0 0) < x3 →
      kGo xs Lx (d + 1) 58 71 [some (.ref q0), some (.ref q1), some (kI x2), some (kI 0)] [] V Q) ∧
     (x3 ≤ (V q0 0) →
      (0 ≤ x3 ∧ x3 < (5 : Nat)) ∧ (kR (V (q0 + 1) (Int.toNat x3))) ∧ (kR (V (q1 + 1) (Int.toNat x3))) ∧ (((V (q0 + 1) (Int.toNat x3)) ≠ (V (q1 + 1) (Int.toNat x3)) →
        kGo xs Lx (d + 1) 58 30 [some (.ref q0), some (.ref q1), some (kI 0), some (kI (x3 + 1))] [] V Q) ∧
       ((V (q0 + 1) (Int.toNat x3)) = (V (q1 + 1) (Int.toNat x3)) →
        kGo xs Lx (d + 1) 58 30 [some (.ref q0), some (.ref q1), some (kI 1), some (kI (x3 + 1))] [] V Q))))))) :
    kGo xs Lx (d + 1) 58 30 [some (.ref q0), some (.ref q1), some (kI x2), some (kI x3)] [] V Q := by
  refine g_iload_n 31 gq58 rfl rfl rfl ?_
  have c1 := h.1
  replace h := h.2
  refine g_if_eq 69 34 gq58 rfl rfl rfl c1 (fun c => ?_) (fun c => ?_)
  · replace h := h.1 c
    refine g_iconst 70 gq58 rfl rfl ?_
    refine g_istore_n 71 gq58 rfl rfl rfl ?_
    exact kGo.weak (km_Le.s (km_Le.s (km_Le.s (km_Le.s km_Le.nil)))) h
  · replace h := h.2 c
    refine g_iload_n 35 gq58 rfl rfl rfl ?_
    refine g_aload_n 36 gq58 rfl rfl rfl ?_
    refine g_getI 39 gq58 rfl rfl rfl hq0 rfl rfl ?_
    have c12 := h.1
    replace h := h.2
    have c14 := h.1
    replace h := h.2
    refine g_icmp_gt 69 42 gq58 rfl rfl rfl c12 c14 (fun c => ?_) (fun c => ?_)
    · replace h := h.1 c
      refine g_iconst 70 gq58 rfl rfl ?_
      refine g_istore_n 71 gq58 rfl rfl rfl ?_
      exact kGo.weak (km_Le.s (km_Le.s (km_Le.s (km_Le.s km_Le.nil)))) h
    · replace h := h.2 c
      refine g_aload_n 43 gq58 rfl rfl rfl ?_
      refine g_getA 46 (q0 + 1) gq58 rfl rfl rfl hq0 rfl rfl (rfR2 hq0) ?_
      refine g_iload_n 47 gq58 rfl rfl rfl ?_
      have c25 := h.1
      replace h := h.2
      refine g_iald 48 gq58 rfl rfl (shR2 hq0) c25 ?_
      refine g_aload_n 49 gq58 rfl rfl rfl ?_
      refine g_getA 52 (q1 + 1) gq58 rfl rfl rfl hq1 rfl rfl (rfR2 hq1) ?_
      refine g_iload_n 53 gq58 rfl rfl rfl ?_
      refine g_iald 54 gq58 rfl rfl (shR2 hq1) c25 ?_
      have c32 := h.1
      replace h := h.2
      have c34 := h.1
      replace h := h.2
      refine g_icmp_ne 61 57 gq58 rfl rfl rfl c32 c34 (fun c => ?_) (fun c => ?_)
      · replace h := h.1 c
        refine g_iconst 62 gq58 rfl rfl ?_
        refine g_istore_n 63 gq58 rfl rfl rfl ?_
        refine g_iinc 66 gq58 rfl rfl rfl rfl ?_
        refine g_goto 30 gq58 rfl rfl ?_
        exact kGo.weak (km_Le.s (km_Le.s (km_Le.s (km_Le.s km_Le.nil)))) h
      · replace h := h.2 c
        refine g_iconst 58 gq58 rfl rfl ?_
        refine g_goto 62 gq58 rfl rfl ?_
        refine g_istore_n 63 gq58 rfl rfl rfl ?_
        refine g_iinc 66 gq58 rfl rfl rfl rfl ?_
        refine g_goto 30 gq58 rfl rfl ?_
        exact kGo.weak (km_Le.s (km_Le.s (km_Le.s (km_Le.s km_Le.nil)))) h
set_option maxRecDepth 10000 in
theorem b58_71 {xs : Nat → Int32} {Lx d : Nat} {V : km_V} {Q : Option Value → km_V → Prop} {x2 x3 : Int} {q0 : Nat} (hq0 : km_sh[q0]? = some (5, 5)) {q1 : Nat} (hq1 : km_sh[q1]? = some (5, 5))
    (h : (kR x2) ∧ ((x2 = 0 →
    kGo xs Lx (d + 1) 58 112 [some (.ref q0), some (.ref q1), some (kI x2), some (kI 0)] [] V Q) ∧
   (x2 ≠ 0 →
    (kR x3) ∧ (kR (2 * (V q0 1))) ∧ (((2 * (V q0 1)) ≤ x3 →
      kGo xs Lx (d + 1) 58 112 [some (.ref q0), some (.ref q1), some (kI x2), some (kI 0)] [] V Q) ∧
     (x3 < (2 * (V q0 1)) →
      (0 ≤ x3 ∧ x3 < (16 : Nat)) ∧ (kR (V (q0 + 2) (Int.toNat x3))) ∧ (kR (V (q1 + 2) (Int.toNat x3))) ∧ (((V (q0 + 2) (Int.toNat x3)) ≠ (V (q1 + 2) (Int.toNat x3)) →
        kGo xs Lx (d + 1) 58 71 [some (.ref q0), some (.ref q1), some (kI 0), some (kI (x3 + 1))] [] V Q) ∧
       ((V (q0 + 2) (Int.toNat x3)) = (V (q1 + 2) (Int.toNat x3)) →
        kGo xs Lx (d + 1) 58 71 [some (.ref q0), some (.ref q1), some (kI 1), some (kI (x3 + 1))] [] V Q))))))) :
    kGo xs Lx (d + 1) 58 71 [some (.ref q0), some (.ref q1), some (kI x2), some (kI x3)] [] V Q := by
  refine g_iload_n 72 gq58 rfl rfl rfl ?_
  have c1 := h.1
  replace h := h.2
  refine g_if_eq 110 75 gq58 rfl rfl rfl c1 (fun c => ?_) (fun c => ?_)
  · replace h := h.1 c
    refine g_iconst 111 gq58 rfl rfl ?_
    refine g_istore_n 112 gq58 rfl rfl rfl ?_
    exact kGo.weak (km_Le.s (km_Le.s (km_Le.s (km_Le.s km_Le.nil)))) h
  · replace h := h.2 c
    refine g_iload_n 76 gq58 rfl rfl rfl ?_
    refine g_aload_n 77 gq58 rfl rfl rfl ?_
    refine g_virt 59 _ (i := 34) gq58 rfl rfl gq59 hq0 rfl rfl rfl rfl rfl ?_
    refine g_iconst 1 gq59 rfl rfl ?_
    refine g_aload_n 2 gq59 rfl rfl rfl ?_
    refine g_getI 5 gq59 rfl rfl rfl hq0 rfl rfl ?_
    refine g_imul 6 gq59 rfl rfl ?_
    refine g_iret gq59 rfl rfl ?_
    have c17 := h.1
    replace h := h.2
    have c19 := h.1
    replace h := h.2
    refine g_icmp_ge 110 83 gq58 rfl rfl rfl c17 c19 (fun c => ?_) (fun c => ?_)
    · replace h := h.1 c
      refine g_iconst 111 gq58 rfl rfl ?_
      refine g_istore_n 112 gq58 rfl rfl rfl ?_
      exact kGo.weak (km_Le.s (km_Le.s (km_Le.s (km_Le.s km_Le.nil)))) h
    · replace h := h.2 c
      refine g_aload_n 84 gq58 rfl rfl rfl ?_
      refine g_getA 87 (q0 + 2) gq58 rfl rfl rfl hq0 rfl rfl (rfR3 hq0) ?_
      refine g_iload_n 88 gq58 rfl rfl rfl ?_
      have c30 := h.1
      replace h := h.2
      refine g_iald 89 gq58 rfl rfl (shR3 hq0) c30 ?_
      refine g_aload_n 90 gq58 rfl rfl rfl ?_
      refine g_getA 93 (q1 + 2) gq58 rfl rfl rfl hq1 rfl rfl (rfR3 hq1) ?_
      refine g_iload_n 94 gq58 rfl rfl rfl ?_
      refine g_iald 95 gq58 rfl rfl (shR3 hq1) c30 ?_
      have c37 := h.1
      replace h := h.2
      have c39 := h.1
      replace h := h.2
      refine g_icmp_ne 102 98 gq58 rfl rfl rfl c37 c39 (fun c => ?_) (fun c => ?_)
      · replace h := h.1 c
        refine g_iconst 103 gq58 rfl rfl ?_
        refine g_istore_n 104 gq58 rfl rfl rfl ?_
        refine g_iinc 107 gq58 rfl rfl rfl rfl ?_
        refine g_goto 71 gq58 rfl rfl ?_
        exact kGo.weak (km_Le.s (km_Le.s (km_Le.s (km_Le.s km_Le.nil)))) h
      · replace h := h.2 c
        refine g_iconst 99 gq58 rfl rfl ?_
        refine g_goto 103 gq58 rfl rfl ?_
        refine g_istore_n 104 gq58 rfl rfl rfl ?_
        refine g_iinc 107 gq58 rfl rfl rfl rfl ?_
        refine g_goto 71 gq58 rfl rfl ?_
        exact kGo.weak (km_Le.s (km_Le.s (km_Le.s (km_Le.s km_Le.nil)))) h
set_option maxRecDepth 10000 in
theorem b58_112 {xs : Nat → Int32} {Lx d : Nat} {V : km_V} {Q : Option Value → km_V → Prop} {x2 x3 : Int} {q0 : Nat} (hq0 : km_sh[q0]? = some (5, 5)) {q1 : Nat} (hq1 : km_sh[q1]? = some (5, 5))
    (h : (kR x2) ∧ ((x2 = 0 →
    (x2 = 0 ∨ x2 = 1) ∧ Q (some (kI x2)) V) ∧
   (x2 ≠ 0 →
    (kR x3) ∧ (kR (V q0 1)) ∧ (((V q0 1) ≤ x3 →
      (x2 = 0 ∨ x2 = 1) ∧ Q (some (kI x2)) V) ∧
     (x3 < (V q0 1) →
      (0 ≤ x3 ∧ x3 < (8 : Nat)) ∧ (kR (V (q0 + 3) (Int.toNat x3))) ∧ (kR (V (q1 + 3) (Int.toNat x3))) ∧ (((V (q0 + 3) (Int.toNat x3)) ≠ (V (q1 + 3) (Int.toNat x3)) →
        kGo xs Lx (d + 1) 58 112 [some (.ref q0), some (.ref q1), some (kI 0), some (kI (x3 + 1))] [] V Q) ∧
       ((V (q0 + 3) (Int.toNat x3)) = (V (q1 + 3) (Int.toNat x3)) →
        kGo xs Lx (d + 1) 58 112 [some (.ref q0), some (.ref q1), some (kI 1), some (kI (x3 + 1))] [] V Q))))))) :
    kGo xs Lx (d + 1) 58 112 [some (.ref q0), some (.ref q1), some (kI x2), some (kI x3)] [] V Q := by
  refine g_iload_n 113 gq58 rfl rfl rfl ?_
  have c1 := h.1
  replace h := h.2
  refine g_if_eq 151 116 gq58 rfl rfl rfl c1 (fun c => ?_) (fun c => ?_)
  · replace h := h.1 c
    refine g_iload_n 152 gq58 rfl rfl rfl ?_
    have c6 := h.1
    replace h := h.2
    exact g_zret gq58 rfl rfl c6 h
  · replace h := h.2 c
    refine g_iload_n 117 gq58 rfl rfl rfl ?_
    refine g_aload_n 118 gq58 rfl rfl rfl ?_
    refine g_getI 121 gq58 rfl rfl rfl hq0 rfl rfl ?_
    have c13 := h.1
    replace h := h.2
    have c15 := h.1
    replace h := h.2
    refine g_icmp_ge 151 124 gq58 rfl rfl rfl c13 c15 (fun c => ?_) (fun c => ?_)
    · replace h := h.1 c
      refine g_iload_n 152 gq58 rfl rfl rfl ?_
      have c20 := h.1
      replace h := h.2
      exact g_zret gq58 rfl rfl c20 h
    · replace h := h.2 c
      refine g_aload_n 125 gq58 rfl rfl rfl ?_
      refine g_getA 128 (q0 + 3) gq58 rfl rfl rfl hq0 rfl rfl (rfR4 hq0) ?_
      refine g_iload_n 129 gq58 rfl rfl rfl ?_
      have c27 := h.1
      replace h := h.2
      refine g_iald 130 gq58 rfl rfl (shR4 hq0) c27 ?_
      refine g_aload_n 131 gq58 rfl rfl rfl ?_
      refine g_getA 134 (q1 + 3) gq58 rfl rfl rfl hq1 rfl rfl (rfR4 hq1) ?_
      refine g_iload_n 135 gq58 rfl rfl rfl ?_
      refine g_iald 136 gq58 rfl rfl (shR4 hq1) c27 ?_
      have c34 := h.1
      replace h := h.2
      have c36 := h.1
      replace h := h.2
      refine g_icmp_ne 143 139 gq58 rfl rfl rfl c34 c36 (fun c => ?_) (fun c => ?_)
      · replace h := h.1 c
        refine g_iconst 144 gq58 rfl rfl ?_
        refine g_istore_n 145 gq58 rfl rfl rfl ?_
        refine g_iinc 148 gq58 rfl rfl rfl rfl ?_
        refine g_goto 112 gq58 rfl rfl ?_
        exact kGo.weak (km_Le.s (km_Le.s (km_Le.s (km_Le.s km_Le.nil)))) h
      · replace h := h.2 c
        refine g_iconst 140 gq58 rfl rfl ?_
        refine g_goto 144 gq58 rfl rfl ?_
        refine g_istore_n 145 gq58 rfl rfl rfl ?_
        refine g_iinc 148 gq58 rfl rfl rfl rfl ?_
        refine g_goto 112 gq58 rfl rfl ?_
        exact kGo.weak (km_Le.s (km_Le.s (km_Le.s (km_Le.s km_Le.nil)))) h
set_option maxRecDepth 10000 in
theorem b59_0 {xs : Nat → Int32} {Lx d : Nat} {V : km_V} {Q : Option Value → km_V → Prop} {t : Nat} (ht : km_sh[t]? = some (5, 5))
    (h : Q (some (kI (2 * (V t 1)))) V) :
    kGo xs Lx (d + 0) 59 0 [some (.ref t)] [] V Q := by
  refine g_iconst 1 gq59 rfl rfl ?_
  refine g_aload_n 2 gq59 rfl rfl rfl ?_
  refine g_getI 5 gq59 rfl rfl rfl ht rfl rfl ?_
  refine g_imul 6 gq59 rfl rfl ?_
  exact g_iret gq59 rfl rfl h
set_option maxRecDepth 10000 in
theorem b60_0 {xs : Nat → Int32} {Lx d : Nat} {V : km_V} {Q : Option Value → km_V → Prop} {t : Nat} (ht : km_sh[t]? = some (5, 5))
    (h : (0 ≤ (V t 1) ∧ (V t 1) < 32) ∧ Q (some (kI ((1 * ((2 ^ Int.toNat (V t 1) : Nat) : Int)) - 1))) V) :
    kGo xs Lx (d + 0) 60 0 [some (.ref t)] [] V Q := by
  refine g_iconst 1 gq60 rfl rfl ?_
  refine g_aload_n 2 gq60 rfl rfl rfl ?_
  refine g_getI 5 gq60 rfl rfl rfl ht rfl rfl ?_
  have c3 := h.1
  replace h := h.2
  refine g_ishl 6 gq60 rfl rfl c3 ?_
  refine g_iconst 7 gq60 rfl rfl ?_
  refine g_isub 8 gq60 rfl rfl ?_
  exact g_iret gq60 rfl rfl h
set_option maxRecDepth 10000 in
theorem b61_0 {xs : Nat → Int32} {Lx d : Nat} {V : km_V} {Q : Option Value → km_V → Prop} {a1 : Int} {t : Nat} (ht : km_sh[t]? = some (5, 5))
    (h : (0 ≤ a1 ∧ a1 < (16 : Nat)) ∧ (kR (V (t + 2) (Int.toNat a1))) ∧ Q (some (kI ((V (t + 2) (Int.toNat a1)) / 2))) V) :
    kGo xs Lx (d + 0) 61 0 [some (.ref t), some (kI a1)] [] V Q := by
  refine g_aload_n 1 gq61 rfl rfl rfl ?_
  refine g_getA 4 (t + 2) gq61 rfl rfl rfl ht rfl rfl (rfR3 ht) ?_
  refine g_iload_n 5 gq61 rfl rfl rfl ?_
  have c3 := h.1
  replace h := h.2
  refine g_iald 6 gq61 rfl rfl (shR3 ht) c3 ?_
  refine g_iconst 7 gq61 rfl rfl ?_
  have c7 := h.1
  replace h := h.2
  refine g_ishr 8 gq61 rfl rfl c7 (by omega) ?_
  exact g_iret gq61 rfl rfl h
set_option maxRecDepth 10000 in
theorem b62_0 {xs : Nat → Int32} {Lx d : Nat} {V : km_V} {Q : Option Value → km_V → Prop} {a1 : Int} {t : Nat} (ht : km_sh[t]? = some (5, 5))
    (h : (0 ≤ a1 ∧ a1 < (16 : Nat)) ∧ (kR ((V (t + 2) (Int.toNat a1)) % 2)) ∧ ((((V (t + 2) (Int.toNat a1)) % 2) ≠ 1 →
    Q (some (kI 0)) V) ∧
   (((V (t + 2) (Int.toNat a1)) % 2) = 1 →
    Q (some (kI 1)) V))) :
    kGo xs Lx (d + 0) 62 0 [some (.ref t), some (kI a1)] [] V Q := by
  refine g_aload_n 1 gq62 rfl rfl rfl ?_
  refine g_getA 4 (t + 2) gq62 rfl rfl rfl ht rfl rfl (rfR3 ht) ?_
  refine g_iload_n 5 gq62 rfl rfl rfl ?_
  have c3 := h.1
  replace h := h.2
  refine g_iald 6 gq62 rfl rfl (shR3 ht) c3 ?_
  refine g_iconst 7 gq62 rfl rfl ?_
  refine g_iandM 8 1 gq62 rfl rfl (by decide) rfl ?_
  refine g_iconst 9 gq62 rfl rfl ?_
  have c9 := h.1
  replace h := h.2
  refine g_icmp_ne 16 12 gq62 rfl rfl rfl c9 (by omega) (fun c => ?_) (fun c => ?_)
  · replace h := h.1 c
    refine g_iconst 17 gq62 rfl rfl ?_
    exact g_zret gq62 rfl rfl (by omega) h
  · replace h := h.2 c
    refine g_iconst 13 gq62 rfl rfl ?_
    refine g_goto 17 gq62 rfl rfl ?_
    exact g_zret gq62 rfl rfl (by omega) h
set_option maxRecDepth 10000 in
theorem b63_0 {xs : Nat → Int32} {Lx d : Nat} {V : km_V} {Q : Option Value → km_V → Prop} {t : Nat} (ht : km_sh[t]? = some (5, 5))
    (h : kGo xs Lx (d + 0) 63 4 [some (.ref t), some (kI 0), some (kI 0)] [] V Q) :
    kGo xs Lx (d + 0) 63 0 [some (.ref t), none, none] [] V Q := by
  refine g_iconst 1 gq63 rfl rfl ?_
  refine g_istore_n 2 gq63 rfl rfl rfl ?_
  refine g_iconst 3 gq63 rfl rfl ?_
  refine g_istore_n 4 gq63 rfl rfl rfl ?_
  exact kGo.weak (km_Le.s (km_Le.s (km_Le.s km_Le.nil))) h
set_option maxRecDepth 10000 in
theorem b63_4 {xs : Nat → Int32} {Lx d : Nat} {V : km_V} {Q : Option Value → km_V → Prop} {x1 x2 : Int} {q0 : Nat} (hq0 : km_sh[q0]? = some (5, 5))
    (h : (kR x2) ∧ (kR (V q0 1)) ∧ (((V q0 1) ≤ x2 →
    Q (some (kI x1)) V) ∧
   (x2 < (V q0 1) →
    (0 ≤ x2 ∧ x2 < (8 : Nat)) ∧ (∀ z1 : Int, z1 = (x1 + (V (q0 + 3) (Int.toNat x2))) → kGo xs Lx (d + 0) 63 4 [some (.ref q0), some (kI z1), some (kI (x2 + 1))] [] V Q)))) :
    kGo xs Lx (d + 0) 63 4 [some (.ref q0), some (kI x1), some (kI x2)] [] V Q := by
  refine g_iload_n 5 gq63 rfl rfl rfl ?_
  refine g_aload_n 6 gq63 rfl rfl rfl ?_
  refine g_getI 9 gq63 rfl rfl rfl hq0 rfl rfl ?_
  have c3 := h.1
  replace h := h.2
  have c5 := h.1
  replace h := h.2
  refine g_icmp_ge 27 12 gq63 rfl rfl rfl c3 c5 (fun c => ?_) (fun c => ?_)
  · replace h := h.1 c
    refine g_iload_n 28 gq63 rfl rfl rfl ?_
    exact g_iret gq63 rfl rfl h
  · replace h := h.2 c
    refine g_iload_n 13 gq63 rfl rfl rfl ?_
    refine g_aload_n 14 gq63 rfl rfl rfl ?_
    refine g_getA 17 (q0 + 3) gq63 rfl rfl rfl hq0 rfl rfl (rfR4 hq0) ?_
    refine g_iload_n 18 gq63 rfl rfl rfl ?_
    have c16 := h.1
    replace h := h.2
    refine g_iald 19 gq63 rfl rfl (shR4 hq0) c16 ?_
    refine g_iadd 20 gq63 rfl rfl ?_
    refine g_istore_n 21 gq63 rfl rfl rfl ?_
    replace h := h _ rfl
    refine g_iinc 24 gq63 rfl rfl rfl rfl ?_
    refine g_goto 4 gq63 rfl rfl ?_
    exact kGo.weak (km_Le.s (km_Le.s (km_Le.s km_Le.nil))) h
set_option maxRecDepth 10000 in
theorem b64_0 {xs : Nat → Int32} {Lx d : Nat} {V : km_V} {Q : Option Value → km_V → Prop} {t : Nat} (ht : km_sh[t]? = some (5, 5))
    (h : kGo xs Lx (d + 0) 64 4 [some (.ref t), some (kI 0), some (kI 0)] [] V Q) :
    kGo xs Lx (d + 0) 64 0 [some (.ref t), none, none] [] V Q := by
  refine g_iconst 1 gq64 rfl rfl ?_
  refine g_istore_n 2 gq64 rfl rfl rfl ?_
  refine g_iconst 3 gq64 rfl rfl ?_
  refine g_istore_n 4 gq64 rfl rfl rfl ?_
  exact kGo.weak (km_Le.s (km_Le.s (km_Le.s km_Le.nil))) h
set_option maxRecDepth 10000 in
theorem b64_4 {xs : Nat → Int32} {Lx d : Nat} {V : km_V} {Q : Option Value → km_V → Prop} {x1 x2 : Int} {q0 : Nat} (hq0 : km_sh[q0]? = some (5, 5))
    (h : (kR x2) ∧ (kR (V q0 0)) ∧ (((V q0 0) ≤ x2 →
    Q (some (kI x1)) V) ∧
   (x2 < (V q0 0) →
    (0 ≤ x2 ∧ x2 < (5 : Nat)) ∧ (0 ≤ (x2 + 1) ∧ (x2 + 1) < (5 : Nat)) ∧ (kR (V (q0 + 1) (Int.toNat x2))) ∧ (kR (V (q0 + 1) (Int.toNat (x2 + 1)))) ∧ (((V (q0 + 1) (Int.toNat x2)) ≠ (V (q0 + 1) (Int.toNat (x2 + 1))) →
      kGo xs Lx (d + 0) 64 4 [some (.ref q0), some (kI (x1 + 0)), some (kI (x2 + 1))] [] V Q) ∧
     ((V (q0 + 1) (Int.toNat x2)) = (V (q0 + 1) (Int.toNat (x2 + 1))) →
      kGo xs Lx (d + 0) 64 4 [some (.ref q0), some (kI (x1 + 1)), some (kI (x2 + 1))] [] V Q))))) :
    kGo xs Lx (d + 0) 64 4 [some (.ref q0), some (kI x1), some (kI x2)] [] V Q := by
  refine g_iload_n 5 gq64 rfl rfl rfl ?_
  refine g_aload_n 6 gq64 rfl rfl rfl ?_
  refine g_getI 9 gq64 rfl rfl rfl hq0 rfl rfl ?_
  have c3 := h.1
  replace h := h.2
  have c5 := h.1
  replace h := h.2
  refine g_icmp_ge 43 12 gq64 rfl rfl rfl c3 c5 (fun c => ?_) (fun c => ?_)
  · replace h := h.1 c
    refine g_iload_n 44 gq64 rfl rfl rfl ?_
    exact g_iret gq64 rfl rfl h
  · replace h := h.2 c
    refine g_iload_n 13 gq64 rfl rfl rfl ?_
    refine g_aload_n 14 gq64 rfl rfl rfl ?_
    refine g_getA 17 (q0 + 1) gq64 rfl rfl rfl hq0 rfl rfl (rfR2 hq0) ?_
    refine g_iload_n 18 gq64 rfl rfl rfl ?_
    have c16 := h.1
    replace h := h.2
    refine g_iald 19 gq64 rfl rfl (shR2 hq0) c16 ?_
    refine g_aload_n 20 gq64 rfl rfl rfl ?_
    refine g_getA 23 (q0 + 1) gq64 rfl rfl rfl hq0 rfl rfl (rfR2 hq0) ?_
    refine g_iload_n 24 gq64 rfl rfl rfl ?_
    refine g_iconst 25 gq64 rfl rfl ?_
    refine g_iadd 26 gq64 rfl rfl ?_
    have c24 := h.1
    replace h := h.2
    refine g_iald 27 gq64 rfl rfl (shR2 hq0) c24 ?_
    have c27 := h.1
    replace h := h.2
    have c29 := h.1
    replace h := h.2
    refine g_icmp_ne 34 30 gq64 rfl rfl rfl c27 c29 (fun c => ?_) (fun c => ?_)
    · replace h := h.1 c
      refine g_iconst 35 gq64 rfl rfl ?_
      refine g_iadd 36 gq64 rfl rfl ?_
      refine g_istore_n 37 gq64 rfl rfl rfl ?_
      refine g_iinc 40 gq64 rfl rfl rfl rfl ?_
      refine g_goto 4 gq64 rfl rfl ?_
      exact kGo.weak (km_Le.s (km_Le.s (km_Le.s km_Le.nil))) h
    · replace h := h.2 c
      refine g_iconst 31 gq64 rfl rfl ?_
      refine g_goto 35 gq64 rfl rfl ?_
      refine g_iadd 36 gq64 rfl rfl ?_
      refine g_istore_n 37 gq64 rfl rfl rfl ?_
      refine g_iinc 40 gq64 rfl rfl rfl rfl ?_
      refine g_goto 4 gq64 rfl rfl ?_
      exact kGo.weak (km_Le.s (km_Le.s (km_Le.s km_Le.nil))) h
set_option maxRecDepth 10000 in
theorem b65_0 {xs : Nat → Int32} {Lx d : Nat} {V : km_V} {Q : Option Value → km_V → Prop} {t : Nat} (ht : km_sh[t]? = some (5, 5))
    (h : kGo xs Lx (d + 1) 65 2 [some (.ref t), some (kI 0), none, none, none] [] V Q) :
    kGo xs Lx (d + 1) 65 0 [some (.ref t), none, none, none, none] [] V Q := by
  refine g_iconst 1 gq65 rfl rfl ?_
  refine g_istore_n 2 gq65 rfl rfl rfl ?_
  exact kGo.weak (km_Le.s (km_Le.s (km_Le.n (km_Le.n (km_Le.n km_Le.nil))))) h
set_option maxRecDepth 10000 in
theorem b65_2 {xs : Nat → Int32} {Lx d : Nat} {V : km_V} {Q : Option Value → km_V → Prop} {x1 : Int} {q0 : Nat} (hq0 : km_sh[q0]? = some (5, 5))
    (h : (kR x1) ∧ (kR (V q0 0)) ∧ (((V q0 0) ≤ x1 →
    Q (some (kI 1)) V) ∧
   (x1 < (V q0 0) →
    (0 ≤ (x1 + 1) ∧ (x1 + 1) < (5 : Nat)) ∧ (∀ z1 : Int, z1 = ((V (q0 + 1) (Int.toNat (x1 + 1))) - 1) → (0 ≤ x1 ∧ x1 < (5 : Nat)) ∧ (∀ z2 : Int, z2 = (V (q0 + 1) (Int.toNat x1)) → kGo xs Lx (d + 1) 65 28 [some (.ref q0), some (kI x1), some (kI z1), some (kI z2), none] [] V Q))))) :
    kGo xs Lx (d + 1) 65 2 [some (.ref q0), some (kI x1), none, none, none] [] V Q := by
  refine g_iload_n 3 gq65 rfl rfl rfl ?_
  refine g_aload_n 4 gq65 rfl rfl rfl ?_
  refine g_getI 7 gq65 rfl rfl rfl hq0 rfl rfl ?_
  have c3 := h.1
  replace h := h.2
  have c5 := h.1
  replace h := h.2
  refine g_icmp_ge 80 10 gq65 rfl rfl rfl c3 c5 (fun c => ?_) (fun c => ?_)
  · replace h := h.1 c
    refine g_iconst 81 gq65 rfl rfl ?_
    exact g_zret gq65 rfl rfl (by omega) h
  · replace h := h.2 c
    refine g_aload_n 11 gq65 rfl rfl rfl ?_
    refine g_getA 14 (q0 + 1) gq65 rfl rfl rfl hq0 rfl rfl (rfR2 hq0) ?_
    refine g_iload_n 15 gq65 rfl rfl rfl ?_
    refine g_iconst 16 gq65 rfl rfl ?_
    refine g_iadd 17 gq65 rfl rfl ?_
    have c17 := h.1
    replace h := h.2
    refine g_iald 18 gq65 rfl rfl (shR2 hq0) c17 ?_
    refine g_iconst 19 gq65 rfl rfl ?_
    refine g_isub 20 gq65 rfl rfl ?_
    refine g_istore_n 21 gq65 rfl rfl rfl ?_
    replace h := h _ rfl
    refine g_aload_n 22 gq65 rfl rfl rfl ?_
    refine g_getA 25 (q0 + 1) gq65 rfl rfl rfl hq0 rfl rfl (rfR2 hq0) ?_
    refine g_iload_n 26 gq65 rfl rfl rfl ?_
    have c27 := h.1
    replace h := h.2
    refine g_iald 27 gq65 rfl rfl (shR2 hq0) c27 ?_
    refine g_istore_n 28 gq65 rfl rfl rfl ?_
    replace h := h _ rfl
    exact kGo.weak (km_Le.s (km_Le.s (km_Le.s (km_Le.s (km_Le.n km_Le.nil))))) h
set_option maxRecDepth 10000 in
theorem b65_28 {xs : Nat → Int32} {Lx d : Nat} {V : km_V} {Q : Option Value → km_V → Prop} {x1 x2 x3 : Int} {q0 : Nat} (hq0 : km_sh[q0]? = some (5, 5))
    (h : (kR x3) ∧ (kR x2) ∧ ((x2 < x3 →
    kGo xs Lx (d + 1) 65 2 [some (.ref q0), some (kI (x1 + 1)), none, none, none] [] V Q) ∧
   (x3 ≤ x2 →
    ((x2 ≤ x3 →
      (0 ≤ x1 ∧ x1 < (5 : Nat)) ∧ (∀ z1 : Int, z1 = (V (q0 + 1) (Int.toNat x1)) → (0 ≤ x3 ∧ x3 < (16 : Nat)) ∧ (kR ((V (q0 + 2) (Int.toNat x3)) % 2)) ∧ ((((V (q0 + 2) (Int.toNat x3)) % 2) ≠ 1 →
        (0 ≤ z1 ∧ z1 < (16 : Nat)) ∧ (kR ((V (q0 + 2) (Int.toNat z1)) % 2)) ∧ ((((V (q0 + 2) (Int.toNat z1)) % 2) ≠ 1 →
          Q (some (kI 0)) V) ∧
         (((V (q0 + 2) (Int.toNat z1)) % 2) = 1 →
          kGo xs Lx (d + 1) 65 28 [some (.ref q0), some (kI x1), some (kI x2), some (kI (x3 + 1)), none] [] V Q))) ∧
       (((V (q0 + 2) (Int.toNat x3)) % 2) = 1 →
        (0 ≤ z1 ∧ z1 < (16 : Nat)) ∧ (kR ((V (q0 + 2) (Int.toNat z1)) % 2)) ∧ ((((V (q0 + 2) (Int.toNat z1)) % 2) ≠ 1 →
          kGo xs Lx (d + 1) 65 28 [some (.ref q0), some (kI x1), some (kI x2), some (kI (x3 + 1)), none] [] V Q) ∧
         (((V (q0 + 2) (Int.toNat z1)) % 2) = 1 →
          Q (some (kI 0)) V)))))) ∧
     (x3 < x2 →
      (0 ≤ x3 ∧ x3 < (16 : Nat)) ∧ (kR ((V (q0 + 2) (Int.toNat x3)) % 2)) ∧ ((((V (q0 + 2) (Int.toNat x3)) % 2) ≠ 1 →
        (0 ≤ (x3 + 1) ∧ (x3 + 1) < (16 : Nat)) ∧ (kR ((V (q0 + 2) (Int.toNat (x3 + 1))) % 2)) ∧ ((((V (q0 + 2) (Int.toNat (x3 + 1))) % 2) ≠ 1 →
          Q (some (kI 0)) V) ∧
         (((V (q0 + 2) (Int.toNat (x3 + 1))) % 2) = 1 →
          kGo xs Lx (d + 1) 65 28 [some (.ref q0), some (kI x1), some (kI x2), some (kI (x3 + 1)), none] [] V Q))) ∧
       (((V (q0 + 2) (Int.toNat x3)) % 2) = 1 →
        (0 ≤ (x3 + 1) ∧ (x3 + 1) < (16 : Nat)) ∧ (kR ((V (q0 + 2) (Int.toNat (x3 + 1))) % 2)) ∧ ((((V (q0 + 2) (Int.toNat (x3 + 1))) % 2) ≠ 1 →
          kGo xs Lx (d + 1) 65 28 [some (.ref q0), some (kI x1), some (kI x2), some (kI (x3 + 1)), none] [] V Q) ∧
         (((V (q0 + 2) (Int.toNat (x3 + 1))) % 2) = 1 →
          Q (some (kI 0)) V))))))))) :
    kGo xs Lx (d + 1) 65 28 [some (.ref q0), some (kI x1), some (kI x2), some (kI x3), none] [] V Q := by
  refine g_iload_n 29 gq65 rfl rfl rfl ?_
  refine g_iload_n 30 gq65 rfl rfl rfl ?_
  have c2 := h.1
  replace h := h.2
  have c4 := h.1
  replace h := h.2
  refine g_icmp_gt 74 33 gq65 rfl rfl rfl c2 c4 (fun c => ?_) (fun c => ?_)
  · replace h := h.1 c
    refine g_iinc 77 gq65 rfl rfl rfl rfl ?_
    refine g_goto 2 gq65 rfl rfl ?_
    exact kGo.weak (km_Le.s (km_Le.s (km_Le.n (km_Le.n (km_Le.n km_Le.nil))))) h
  · replace h := h.2 c
    refine g_iload_n 34 gq65 rfl rfl rfl ?_
    refine g_iload_n 35 gq65 rfl rfl rfl ?_
    refine g_icmp_ge 44 38 gq65 rfl rfl rfl c2 c4 (fun c => ?_) (fun c => ?_)
    · replace h := h.1 c
      refine g_aload_n 45 gq65 rfl rfl rfl ?_
      refine g_getA 48 (q0 + 1) gq65 rfl rfl rfl hq0 rfl rfl (rfR2 hq0) ?_
      refine g_iload_n 49 gq65 rfl rfl rfl ?_
      have c19 := h.1
      replace h := h.2
      refine g_iald 50 gq65 rfl rfl (shR2 hq0) c19 ?_
      refine g_istore 52 gq65 rfl rfl rfl ?_
      replace h := h _ rfl
      refine g_aload_n 53 gq65 rfl rfl rfl ?_
      refine g_iload_n 54 gq65 rfl rfl rfl ?_
      refine g_virt 62 _ (i := 38) gq65 rfl rfl gq62 hq0 rfl rfl rfl rfl rfl ?_
      refine g_aload_n 1 gq62 rfl rfl rfl ?_
      refine g_getA 4 (q0 + 2) gq62 rfl rfl rfl hq0 rfl rfl (rfR3 hq0) ?_
      refine g_iload_n 5 gq62 rfl rfl rfl ?_
      have c30 := h.1
      replace h := h.2
      refine g_iald 6 gq62 rfl rfl (shR3 hq0) c30 ?_
      refine g_iconst 7 gq62 rfl rfl ?_
      refine g_iandM 8 1 gq62 rfl rfl (by decide) rfl ?_
      refine g_iconst 9 gq62 rfl rfl ?_
      have c36 := h.1
      replace h := h.2
      refine g_icmp_ne 16 12 gq62 rfl rfl rfl c36 (by omega) (fun c => ?_) (fun c => ?_)
      · replace h := h.1 c
        refine g_iconst 17 gq62 rfl rfl ?_
        refine g_zret gq62 rfl rfl (by omega) ?_
        refine g_aload_n 58 gq65 rfl rfl rfl ?_
        refine g_iload 60 gq65 rfl rfl rfl ?_
        refine g_virt 62 _ (i := 38) gq65 rfl rfl gq62 hq0 rfl rfl rfl rfl rfl ?_
        refine g_aload_n 1 gq62 rfl rfl rfl ?_
        refine g_getA 4 (q0 + 2) gq62 rfl rfl rfl hq0 rfl rfl (rfR3 hq0) ?_
        refine g_iload_n 5 gq62 rfl rfl rfl ?_
        have c48 := h.1
        replace h := h.2
        refine g_iald 6 gq62 rfl rfl (shR3 hq0) c48 ?_
        refine g_iconst 7 gq62 rfl rfl ?_
        refine g_iandM 8 1 gq62 rfl rfl (by decide) rfl ?_
        refine g_iconst 9 gq62 rfl rfl ?_
        have c54 := h.1
        replace h := h.2
        refine g_icmp_ne 16 12 gq62 rfl rfl rfl c54 (by omega) (fun c => ?_) (fun c => ?_)
        · replace h := h.1 c
          refine g_iconst 17 gq62 rfl rfl ?_
          refine g_zret gq62 rfl rfl (by omega) ?_
          refine g_icmp_ne 68 66 gq65 rfl rfl rfl (by omega) (by omega) (fun c => ?_) (fun c => ?_)
          · exact absurd c (by decide)
          refine g_iconst 67 gq65 rfl rfl ?_
          exact g_zret gq65 rfl rfl (by omega) h
        · replace h := h.2 c
          refine g_iconst 13 gq62 rfl rfl ?_
          refine g_goto 17 gq62 rfl rfl ?_
          refine g_zret gq62 rfl rfl (by omega) ?_
          refine g_icmp_ne 68 66 gq65 rfl rfl rfl (by omega) (by omega) (fun c => ?_) (fun c => ?_)
          rotate_left
          · exact absurd c (by decide)
          refine g_iinc 71 gq65 rfl rfl rfl rfl ?_
          refine g_goto 28 gq65 rfl rfl ?_
          exact kGo.weak (km_Le.s (km_Le.s (km_Le.s (km_Le.s (km_Le.n km_Le.nil))))) h
      · replace h := h.2 c
        refine g_iconst 13 gq62 rfl rfl ?_
        refine g_goto 17 gq62 rfl rfl ?_
        refine g_zret gq62 rfl rfl (by omega) ?_
        refine g_aload_n 58 gq65 rfl rfl rfl ?_
        refine g_iload 60 gq65 rfl rfl rfl ?_
        refine g_virt 62 _ (i := 38) gq65 rfl rfl gq62 hq0 rfl rfl rfl rfl rfl ?_
        refine g_aload_n 1 gq62 rfl rfl rfl ?_
        refine g_getA 4 (q0 + 2) gq62 rfl rfl rfl hq0 rfl rfl (rfR3 hq0) ?_
        refine g_iload_n 5 gq62 rfl rfl rfl ?_
        have c84 := h.1
        replace h := h.2
        refine g_iald 6 gq62 rfl rfl (shR3 hq0) c84 ?_
        refine g_iconst 7 gq62 rfl rfl ?_
        refine g_iandM 8 1 gq62 rfl rfl (by decide) rfl ?_
        refine g_iconst 9 gq62 rfl rfl ?_
        have c90 := h.1
        replace h := h.2
        refine g_icmp_ne 16 12 gq62 rfl rfl rfl c90 (by omega) (fun c => ?_) (fun c => ?_)
        · replace h := h.1 c
          refine g_iconst 17 gq62 rfl rfl ?_
          refine g_zret gq62 rfl rfl (by omega) ?_
          refine g_icmp_ne 68 66 gq65 rfl rfl rfl (by omega) (by omega) (fun c => ?_) (fun c => ?_)
          rotate_left
          · exact absurd c (by decide)
          refine g_iinc 71 gq65 rfl rfl rfl rfl ?_
          refine g_goto 28 gq65 rfl rfl ?_
          exact kGo.weak (km_Le.s (km_Le.s (km_Le.s (km_Le.s (km_Le.n km_Le.nil))))) h
        · replace h := h.2 c
          refine g_iconst 13 gq62 rfl rfl ?_
          refine g_goto 17 gq62 rfl rfl ?_
          refine g_zret gq62 rfl rfl (by omega) ?_
          refine g_icmp_ne 68 66 gq65 rfl rfl rfl (by omega) (by omega) (fun c => ?_) (fun c => ?_)
          · exact absurd c (by decide)
          refine g_iconst 67 gq65 rfl rfl ?_
          exact g_zret gq65 rfl rfl (by omega) h
    · replace h := h.2 c
      refine g_iload_n 39 gq65 rfl rfl rfl ?_
      refine g_iconst 40 gq65 rfl rfl ?_
      refine g_iadd 41 gq65 rfl rfl ?_
      refine g_goto 50 gq65 rfl rfl ?_
      refine g_istore 52 gq65 rfl rfl rfl ?_
      refine g_aload_n 53 gq65 rfl rfl rfl ?_
      refine g_iload_n 54 gq65 rfl rfl rfl ?_
      refine g_virt 62 _ (i := 38) gq65 rfl rfl gq62 hq0 rfl rfl rfl rfl rfl ?_
      refine g_aload_n 1 gq62 rfl rfl rfl ?_
      refine g_getA 4 (q0 + 2) gq62 rfl rfl rfl hq0 rfl rfl (rfR3 hq0) ?_
      refine g_iload_n 5 gq62 rfl rfl rfl ?_
      have c122 := h.1
      replace h := h.2
      refine g_iald 6 gq62 rfl rfl (shR3 hq0) c122 ?_
      refine g_iconst 7 gq62 rfl rfl ?_
      refine g_iandM 8 1 gq62 rfl rfl (by decide) rfl ?_
      refine g_iconst 9 gq62 rfl rfl ?_
      have c128 := h.1
      replace h := h.2
      refine g_icmp_ne 16 12 gq62 rfl rfl rfl c128 (by omega) (fun c => ?_) (fun c => ?_)
      · replace h := h.1 c
        refine g_iconst 17 gq62 rfl rfl ?_
        refine g_zret gq62 rfl rfl (by omega) ?_
        refine g_aload_n 58 gq65 rfl rfl rfl ?_
        refine g_iload 60 gq65 rfl rfl rfl ?_
        refine g_virt 62 _ (i := 38) gq65 rfl rfl gq62 hq0 rfl rfl rfl rfl rfl ?_
        refine g_aload_n 1 gq62 rfl rfl rfl ?_
        refine g_getA 4 (q0 + 2) gq62 rfl rfl rfl hq0 rfl rfl (rfR3 hq0) ?_
        refine g_iload_n 5 gq62 rfl rfl rfl ?_
        have c140 := h.1
        replace h := h.2
        refine g_iald 6 gq62 rfl rfl (shR3 hq0) c140 ?_
        refine g_iconst 7 gq62 rfl rfl ?_
        refine g_iandM 8 1 gq62 rfl rfl (by decide) rfl ?_
        refine g_iconst 9 gq62 rfl rfl ?_
        have c146 := h.1
        replace h := h.2
        refine g_icmp_ne 16 12 gq62 rfl rfl rfl c146 (by omega) (fun c => ?_) (fun c => ?_)
        · replace h := h.1 c
          refine g_iconst 17 gq62 rfl rfl ?_
          refine g_zret gq62 rfl rfl (by omega) ?_
          refine g_icmp_ne 68 66 gq65 rfl rfl rfl (by omega) (by omega) (fun c => ?_) (fun c => ?_)
          · exact absurd c (by decide)
          refine g_iconst 67 gq65 rfl rfl ?_
          exact g_zret gq65 rfl rfl (by omega) h
        · replace h := h.2 c
          refine g_iconst 13 gq62 rfl rfl ?_
          refine g_goto 17 gq62 rfl rfl ?_
          refine g_zret gq62 rfl rfl (by omega) ?_
          refine g_icmp_ne 68 66 gq65 rfl rfl rfl (by omega) (by omega) (fun c => ?_) (fun c => ?_)
          rotate_left
          · exact absurd c (by decide)
          refine g_iinc 71 gq65 rfl rfl rfl rfl ?_
          refine g_goto 28 gq65 rfl rfl ?_
          exact kGo.weak (km_Le.s (km_Le.s (km_Le.s (km_Le.s (km_Le.n km_Le.nil))))) h
      · replace h := h.2 c
        refine g_iconst 13 gq62 rfl rfl ?_
        refine g_goto 17 gq62 rfl rfl ?_
        refine g_zret gq62 rfl rfl (by omega) ?_
        refine g_aload_n 58 gq65 rfl rfl rfl ?_
        refine g_iload 60 gq65 rfl rfl rfl ?_
        refine g_virt 62 _ (i := 38) gq65 rfl rfl gq62 hq0 rfl rfl rfl rfl rfl ?_
        refine g_aload_n 1 gq62 rfl rfl rfl ?_
        refine g_getA 4 (q0 + 2) gq62 rfl rfl rfl hq0 rfl rfl (rfR3 hq0) ?_
        refine g_iload_n 5 gq62 rfl rfl rfl ?_
        have c176 := h.1
        replace h := h.2
        refine g_iald 6 gq62 rfl rfl (shR3 hq0) c176 ?_
        refine g_iconst 7 gq62 rfl rfl ?_
        refine g_iandM 8 1 gq62 rfl rfl (by decide) rfl ?_
        refine g_iconst 9 gq62 rfl rfl ?_
        have c182 := h.1
        replace h := h.2
        refine g_icmp_ne 16 12 gq62 rfl rfl rfl c182 (by omega) (fun c => ?_) (fun c => ?_)
        · replace h := h.1 c
          refine g_iconst 17 gq62 rfl rfl ?_
          refine g_zret gq62 rfl rfl (by omega) ?_
          refine g_icmp_ne 68 66 gq65 rfl rfl rfl (by omega) (by omega) (fun c => ?_) (fun c => ?_)
          rotate_left
          · exact absurd c (by decide)
          refine g_iinc 71 gq65 rfl rfl rfl rfl ?_
          refine g_goto 28 gq65 rfl rfl ?_
          exact kGo.weak (km_Le.s (km_Le.s (km_Le.s (km_Le.s (km_Le.n km_Le.nil))))) h
        · replace h := h.2 c
          refine g_iconst 13 gq62 rfl rfl ?_
          refine g_goto 17 gq62 rfl rfl ?_
          refine g_zret gq62 rfl rfl (by omega) ?_
          refine g_icmp_ne 68 66 gq65 rfl rfl rfl (by omega) (by omega) (fun c => ?_) (fun c => ?_)
          · exact absurd c (by decide)
          refine g_iconst 67 gq65 rfl rfl ?_
          exact g_zret gq65 rfl rfl (by omega) h
set_option maxRecDepth 10000 in
theorem b66_0 {xs : Nat → Int32} {Lx d : Nat} {V : km_V} {Q : Option Value → km_V → Prop} {a1 : Int} {t : Nat} (ht : km_sh[t]? = some (5, 5))
    (h : kGo xs Lx (d + 1) 66 2 [some (.ref t), some (kI a1), some (kI 0)] [] V Q) :
    kGo xs Lx (d + 1) 66 0 [some (.ref t), some (kI a1), none] [] V Q := by
  refine g_iconst 1 gq66 rfl rfl ?_
  refine g_istore_n 2 gq66 rfl rfl rfl ?_
  exact kGo.weak (km_Le.s (km_Le.s (km_Le.s km_Le.nil))) h
set_option maxRecDepth 10000 in
theorem b66_2 {xs : Nat → Int32} {Lx d : Nat} {V : km_V} {Q : Option Value → km_V → Prop} {x1 x2 : Int} {q0 : Nat} (hq0 : km_sh[q0]? = some (5, 5))
    (h : (kR x2) ∧ (kR (2 * (V q0 1))) ∧ (((2 * (V q0 1)) ≤ x2 →
    kGo xs Lx (d + 1) 66 36 [some (.ref q0), some (kI x1), some (kI 0)] [] V Q) ∧
   (x2 < (2 * (V q0 1)) →
    (0 ≤ x2 ∧ x2 < (16 : Nat)) ∧ (kR (V (q0 + 2) (Int.toNat x2))) ∧ (kR x1) ∧ (0 ≤ ((V (q0 + 2) (Int.toNat x2)) / 2) ∧ ((V (q0 + 2) (Int.toNat x2)) / 2) < 32) ∧ (0 ≤ (V (q0 + 2) (Int.toNat x2))) ∧ (0 ≤ ((x1 / ((2 ^ Int.toNat ((V (q0 + 2) (Int.toNat x2)) / 2) : Nat) : Int)) % 2)) ∧ (0 ≤ x2 ∧ x2 < (16 : Nat)) ∧ kGo xs Lx (d + 1) 66 2 [some (.ref q0), some (kI x1), some (kI (x2 + 1))] [] (up V (q0 + 2) (Int.toNat x2) ((Int.toNat (V (q0 + 2) (Int.toNat x2)) ^^^ Int.toNat ((x1 / ((2 ^ Int.toNat ((V (q0 + 2) (Int.toNat x2)) / 2) : Nat) : Int)) % 2) : Nat) : Int)) Q))) :
    kGo xs Lx (d + 1) 66 2 [some (.ref q0), some (kI x1), some (kI x2)] [] V Q := by
  refine g_iload_n 3 gq66 rfl rfl rfl ?_
  refine g_aload_n 4 gq66 rfl rfl rfl ?_
  refine g_virt 59 _ (i := 34) gq66 rfl rfl gq59 hq0 rfl rfl rfl rfl rfl ?_
  refine g_iconst 1 gq59 rfl rfl ?_
  refine g_aload_n 2 gq59 rfl rfl rfl ?_
  refine g_getI 5 gq59 rfl rfl rfl hq0 rfl rfl ?_
  refine g_imul 6 gq59 rfl rfl ?_
  refine g_iret gq59 rfl rfl ?_
  have c8 := h.1
  replace h := h.2
  have c10 := h.1
  replace h := h.2
  refine g_icmp_ge 34 10 gq66 rfl rfl rfl c8 c10 (fun c => ?_) (fun c => ?_)
  · replace h := h.1 c
    refine g_iconst 35 gq66 rfl rfl ?_
    refine g_istore_n 36 gq66 rfl rfl rfl ?_
    exact kGo.weak (km_Le.s (km_Le.s (km_Le.s km_Le.nil))) h
  · replace h := h.2 c
    refine g_aload_n 11 gq66 rfl rfl rfl ?_
    refine g_getA 14 (q0 + 2) gq66 rfl rfl rfl hq0 rfl rfl (rfR3 hq0) ?_
    refine g_iload_n 15 gq66 rfl rfl rfl ?_
    refine g_dup2 16 gq66 rfl rfl rfl rfl ?_
    have c22 := h.1
    replace h := h.2
    refine g_iald 17 gq66 rfl rfl (shR3 hq0) c22 ?_
    refine g_iload_n 18 gq66 rfl rfl rfl ?_
    refine g_aload_n 19 gq66 rfl rfl rfl ?_
    refine g_iload_n 20 gq66 rfl rfl rfl ?_
    refine g_virt 61 _ (i := 42) gq66 rfl rfl gq61 hq0 rfl rfl rfl rfl rfl ?_
    refine g_aload_n 1 gq61 rfl rfl rfl ?_
    refine g_getA 4 (q0 + 2) gq61 rfl rfl rfl hq0 rfl rfl (rfR3 hq0) ?_
    refine g_iload_n 5 gq61 rfl rfl rfl ?_
    refine g_iald 6 gq61 rfl rfl (shR3 hq0) c22 ?_
    refine g_iconst 7 gq61 rfl rfl ?_
    have c34 := h.1
    replace h := h.2
    refine g_ishr 8 gq61 rfl rfl c34 (by omega) ?_
    refine g_iret gq61 rfl rfl ?_
    have c38 := h.1
    replace h := h.2
    have c40 := h.1
    replace h := h.2
    refine g_ishr 24 gq66 rfl rfl c38 c40 ?_
    refine g_iconst 25 gq66 rfl rfl ?_
    refine g_iandM 26 1 gq66 rfl rfl (by decide) rfl ?_
    have c45 := h.1
    replace h := h.2
    have c47 := h.1
    replace h := h.2
    refine g_ixor 27 gq66 rfl rfl c45 c47 ?_
    have c50 := h.1
    replace h := h.2
    refine g_iast 28 gq66 rfl rfl (shR3 hq0) c50 ?_
    refine g_iinc 31 gq66 rfl rfl rfl rfl ?_
    refine g_goto 2 gq66 rfl rfl ?_
    exact kGo.weak (km_Le.s (km_Le.s (km_Le.s km_Le.nil))) h
set_option maxRecDepth 10000 in
theorem b66_36 {xs : Nat → Int32} {Lx d : Nat} {V : km_V} {Q : Option Value → km_V → Prop} {x1 x2 : Int} {q0 : Nat} (hq0 : km_sh[q0]? = some (5, 5))
    (h : (kR x2) ∧ (kR (V q0 1)) ∧ (((V q0 1) ≤ x2 →
    Q none V) ∧
   (x2 < (V q0 1) →
    (kR x1) ∧ (0 ≤ x2 ∧ x2 < 32) ∧ (kR ((x1 / ((2 ^ Int.toNat x2 : Nat) : Int)) % 2)) ∧ ((((x1 / ((2 ^ Int.toNat x2 : Nat) : Int)) % 2) ≠ 1 →
      (0 ≤ x2 ∧ x2 < (8 : Nat)) ∧ kGo xs Lx (d + 1) 66 36 [some (.ref q0), some (kI x1), some (kI (x2 + 1))] [] (up V (q0 + 3) (Int.toNat x2) (V (q0 + 3) (Int.toNat x2))) Q) ∧
     (((x1 / ((2 ^ Int.toNat x2 : Nat) : Int)) % 2) = 1 →
      (0 ≤ x2 ∧ x2 < (8 : Nat)) ∧ kGo xs Lx (d + 1) 66 36 [some (.ref q0), some (kI x1), some (kI (x2 + 1))] [] (up V (q0 + 3) (Int.toNat x2) (-(V (q0 + 3) (Int.toNat x2)))) Q))))) :
    kGo xs Lx (d + 1) 66 36 [some (.ref q0), some (kI x1), some (kI x2)] [] V Q := by
  refine g_iload_n 37 gq66 rfl rfl rfl ?_
  refine g_aload_n 38 gq66 rfl rfl rfl ?_
  refine g_getI 41 gq66 rfl rfl rfl hq0 rfl rfl ?_
  have c3 := h.1
  replace h := h.2
  have c5 := h.1
  replace h := h.2
  refine g_icmp_ge 81 44 gq66 rfl rfl rfl c3 c5 (fun c => ?_) (fun c => ?_)
  · replace h := h.1 c
    exact g_vret gq66 rfl rfl h
  · replace h := h.2 c
    refine g_aload_n 45 gq66 rfl rfl rfl ?_
    refine g_getA 48 (q0 + 3) gq66 rfl rfl rfl hq0 rfl rfl (rfR4 hq0) ?_
    refine g_iload_n 49 gq66 rfl rfl rfl ?_
    refine g_iload_n 50 gq66 rfl rfl rfl ?_
    refine g_iload_n 51 gq66 rfl rfl rfl ?_
    have c16 := h.1
    replace h := h.2
    have c18 := h.1
    replace h := h.2
    refine g_ishr 52 gq66 rfl rfl c16 c18 ?_
    refine g_iconst 53 gq66 rfl rfl ?_
    refine g_iandM 54 1 gq66 rfl rfl (by decide) rfl ?_
    refine g_iconst 55 gq66 rfl rfl ?_
    have c24 := h.1
    replace h := h.2
    refine g_icmp_ne 68 58 gq66 rfl rfl rfl c24 (by omega) (fun c => ?_) (fun c => ?_)
    · replace h := h.1 c
      refine g_aload_n 69 gq66 rfl rfl rfl ?_
      refine g_getA 72 (q0 + 3) gq66 rfl rfl rfl hq0 rfl rfl (rfR4 hq0) ?_
      refine g_iload_n 73 gq66 rfl rfl rfl ?_
      have c31 := h.1
      replace h := h.2
      refine g_iald 74 gq66 rfl rfl (shR4 hq0) c31 ?_
      refine g_iast 75 gq66 rfl rfl (shR4 hq0) c31 ?_
      refine g_iinc 78 gq66 rfl rfl rfl rfl ?_
      refine g_goto 36 gq66 rfl rfl ?_
      exact kGo.weak (km_Le.s (km_Le.s (km_Le.s km_Le.nil))) h
    · replace h := h.2 c
      refine g_aload_n 59 gq66 rfl rfl rfl ?_
      refine g_getA 62 (q0 + 3) gq66 rfl rfl rfl hq0 rfl rfl (rfR4 hq0) ?_
      refine g_iload_n 63 gq66 rfl rfl rfl ?_
      have c42 := h.1
      replace h := h.2
      refine g_iald 64 gq66 rfl rfl (shR4 hq0) c42 ?_
      refine g_ineg 65 gq66 rfl rfl ?_
      refine g_goto 74 gq66 rfl rfl ?_
      refine g_iast 75 gq66 rfl rfl (shR4 hq0) c42 ?_
      refine g_iinc 78 gq66 rfl rfl rfl rfl ?_
      refine g_goto 36 gq66 rfl rfl ?_
      exact kGo.weak (km_Le.s (km_Le.s (km_Le.s km_Le.nil))) h
set_option maxRecDepth 10000 in
theorem b67_0 {xs : Nat → Int32} {Lx d : Nat} {V : km_V} {Q : Option Value → km_V → Prop} {a1 : Int} {t : Nat} (ht : km_sh[t]? = some (5, 5)) {r2 : Nat} (hr2 : km_sh[r2]? = some (2, 11))
    (h : kGo xs Lx (d + 1) 67 2 [some (.ref t), some (kI a1), some (.ref r2), some (kI 0), none, none] [] V Q) :
    kGo xs Lx (d + 1) 67 0 [some (.ref t), some (kI a1), some (.ref r2), none, none, none] [] V Q := by
  refine g_iconst 1 gq67 rfl rfl ?_
  refine g_istore_n 2 gq67 rfl rfl rfl ?_
  exact kGo.weak (km_Le.s (km_Le.s (km_Le.s (km_Le.s (km_Le.n (km_Le.n km_Le.nil)))))) h
set_option maxRecDepth 10000 in
theorem b67_2 {xs : Nat → Int32} {Lx d : Nat} {V : km_V} {Q : Option Value → km_V → Prop} {x1 x3 : Int} {q0 : Nat} (hq0 : km_sh[q0]? = some (5, 5)) {q2 : Nat} (hq2 : km_sh[q2]? = some (2, 11))
    (h : (kR x3) ∧ (kR (V q0 1)) ∧ (((V q0 1) ≤ x3 →
    (0 ≤ x1 ∧ x1 < (5 : Nat)) ∧ (∀ z1 : Int, z1 = ((V (q0 + 1) (Int.toNat x1)) + 1) → (0 ≤ (x1 + 1) ∧ (x1 + 1) < (5 : Nat)) ∧ (∀ z2 : Int, z2 = ((V (q0 + 1) (Int.toNat (x1 + 1))) - 1) → kGo xs Lx (d + 1) 67 110 [some (.ref q0), none, none, some (kI z1), some (kI z2), none] [] V Q))) ∧
   (x3 < (V q0 1) →
    (0 ≤ x3 ∧ x3 < (8 : Nat)) ∧ (0 ≤ (V (q2 + 4) (Int.toNat x3)) ∧ (V (q2 + 4) (Int.toNat x3)) < (16 : Nat)) ∧ (kR (V (q2 + 3) (Int.toNat (V (q2 + 4) (Int.toNat x3))))) ∧ (kR x1) ∧ (((V (q2 + 3) (Int.toNat (V (q2 + 4) (Int.toNat x3)))) ≠ x1 →
      (0 ≤ (V (q2 + 5) (Int.toNat x3)) ∧ (V (q2 + 5) (Int.toNat x3)) < (16 : Nat)) ∧ (kR (V (q2 + 3) (Int.toNat (V (q2 + 5) (Int.toNat x3))))) ∧ (((V (q2 + 3) (Int.toNat (V (q2 + 5) (Int.toNat x3)))) ≠ x1 →
        kGo xs Lx (d + 1) 67 2 [some (.ref q0), some (kI x1), some (.ref q2), some (kI (x3 + 1)), none, none] [] (up V (q0 + 3) (Int.toNat x3) (V (q0 + 3) (Int.toNat x3))) Q) ∧
       ((V (q2 + 3) (Int.toNat (V (q2 + 5) (Int.toNat x3)))) = x1 →
        kGo xs Lx (d + 1) 67 2 [some (.ref q0), some (kI x1), some (.ref q2), some (kI (x3 + 1)), none, none] [] (up V (q0 + 3) (Int.toNat x3) (-(V (q0 + 3) (Int.toNat x3)))) Q))) ∧
     ((V (q2 + 3) (Int.toNat (V (q2 + 4) (Int.toNat x3)))) = x1 →
      (0 ≤ (V (q2 + 5) (Int.toNat x3)) ∧ (V (q2 + 5) (Int.toNat x3)) < (16 : Nat)) ∧ (kR (V (q2 + 3) (Int.toNat (V (q2 + 5) (Int.toNat x3))))) ∧ (((V (q2 + 3) (Int.toNat (V (q2 + 5) (Int.toNat x3)))) ≠ x1 →
        kGo xs Lx (d + 1) 67 2 [some (.ref q0), some (kI x1), some (.ref q2), some (kI (x3 + 1)), none, none] [] (up V (q0 + 3) (Int.toNat x3) (-(V (q0 + 3) (Int.toNat x3)))) Q) ∧
       ((V (q2 + 3) (Int.toNat (V (q2 + 5) (Int.toNat x3)))) = x1 →
        kGo xs Lx (d + 1) 67 2 [some (.ref q0), some (kI x1), some (.ref q2), some (kI (x3 + 1)), none, none] [] (up V (q0 + 3) (Int.toNat x3) (V (q0 + 3) (Int.toNat x3))) Q))))))) :
    kGo xs Lx (d + 1) 67 2 [some (.ref q0), some (kI x1), some (.ref q2), some (kI x3), none, none] [] V Q := by
  refine g_iload_n 3 gq67 rfl rfl rfl ?_
  refine g_aload_n 4 gq67 rfl rfl rfl ?_
  refine g_getI 7 gq67 rfl rfl rfl hq0 rfl rfl ?_
  have c3 := h.1
  replace h := h.2
  have c5 := h.1
  replace h := h.2
  refine g_icmp_ge 89 10 gq67 rfl rfl rfl c3 c5 (fun c => ?_) (fun c => ?_)
  · replace h := h.1 c
    refine g_aload_n 90 gq67 rfl rfl rfl ?_
    refine g_getA 93 (q0 + 1) gq67 rfl rfl rfl hq0 rfl rfl (rfR2 hq0) ?_
    refine g_iload_n 94 gq67 rfl rfl rfl ?_
    have c12 := h.1
    replace h := h.2
    refine g_iald 95 gq67 rfl rfl (shR2 hq0) c12 ?_
    refine g_iconst 96 gq67 rfl rfl ?_
    refine g_iadd 97 gq67 rfl rfl ?_
    refine g_istore_n 98 gq67 rfl rfl rfl ?_
    replace h := h _ rfl
    refine g_aload_n 99 gq67 rfl rfl rfl ?_
    refine g_getA 102 (q0 + 1) gq67 rfl rfl rfl hq0 rfl rfl (rfR2 hq0) ?_
    refine g_iload_n 103 gq67 rfl rfl rfl ?_
    refine g_iconst 104 gq67 rfl rfl ?_
    refine g_iadd 105 gq67 rfl rfl ?_
    have c24 := h.1
    replace h := h.2
    refine g_iald 106 gq67 rfl rfl (shR2 hq0) c24 ?_
    refine g_iconst 107 gq67 rfl rfl ?_
    refine g_isub 108 gq67 rfl rfl ?_
    refine g_istore 110 gq67 rfl rfl rfl ?_
    replace h := h _ rfl
    exact kGo.weak (km_Le.s (km_Le.n (km_Le.n (km_Le.s (km_Le.s (km_Le.n km_Le.nil)))))) h
  · replace h := h.2 c
    refine g_aload_n 11 gq67 rfl rfl rfl ?_
    refine g_getA 14 (q2 + 3) gq67 rfl rfl rfl hq2 rfl rfl (rfD2 hq2) ?_
    refine g_aload_n 15 gq67 rfl rfl rfl ?_
    refine g_getA 18 (q2 + 4) gq67 rfl rfl rfl hq2 rfl rfl (rfD3 hq2) ?_
    refine g_iload_n 19 gq67 rfl rfl rfl ?_
    have c38 := h.1
    replace h := h.2
    refine g_iald 20 gq67 rfl rfl (shD3 hq2) c38 ?_
    have c41 := h.1
    replace h := h.2
    refine g_iald 21 gq67 rfl rfl (shD2 hq2) c41 ?_
    refine g_iload_n 22 gq67 rfl rfl rfl ?_
    have c45 := h.1
    replace h := h.2
    have c47 := h.1
    replace h := h.2
    refine g_icmp_ne 29 25 gq67 rfl rfl rfl c45 c47 (fun c => ?_) (fun c => ?_)
    · replace h := h.1 c
      refine g_iconst 30 gq67 rfl rfl ?_
      refine g_istore 32 gq67 rfl rfl rfl ?_
      refine g_aload_n 33 gq67 rfl rfl rfl ?_
      refine g_getA 36 (q2 + 3) gq67 rfl rfl rfl hq2 rfl rfl (rfD2 hq2) ?_
      refine g_aload_n 37 gq67 rfl rfl rfl ?_
      refine g_getA 40 (q2 + 5) gq67 rfl rfl rfl hq2 rfl rfl (rfD4 hq2) ?_
      refine g_iload_n 41 gq67 rfl rfl rfl ?_
      refine g_iald 42 gq67 rfl rfl (shD4 hq2) c38 ?_
      have c59 := h.1
      replace h := h.2
      refine g_iald 43 gq67 rfl rfl (shD2 hq2) c59 ?_
      refine g_iload_n 44 gq67 rfl rfl rfl ?_
      have c63 := h.1
      replace h := h.2
      refine g_icmp_ne 51 47 gq67 rfl rfl rfl c63 c47 (fun c => ?_) (fun c => ?_)
      · replace h := h.1 c
        refine g_iconst 52 gq67 rfl rfl ?_
        refine g_istore 54 gq67 rfl rfl rfl ?_
        refine g_aload_n 55 gq67 rfl rfl rfl ?_
        refine g_getA 58 (q0 + 3) gq67 rfl rfl rfl hq0 rfl rfl (rfR4 hq0) ?_
        refine g_iload_n 59 gq67 rfl rfl rfl ?_
        refine g_iload 61 gq67 rfl rfl rfl ?_
        refine g_iload 63 gq67 rfl rfl rfl ?_
        refine g_icmp_eq 76 66 gq67 rfl rfl rfl (by omega) (by omega) (fun c => ?_) (fun c => ?_)
        rotate_left
        · exact absurd c (by decide)
        refine g_aload_n 77 gq67 rfl rfl rfl ?_
        refine g_getA 80 (q0 + 3) gq67 rfl rfl rfl hq0 rfl rfl (rfR4 hq0) ?_
        refine g_iload_n 81 gq67 rfl rfl rfl ?_
        refine g_iald 82 gq67 rfl rfl (shR4 hq0) c38 ?_
        refine g_iast 83 gq67 rfl rfl (shR4 hq0) c38 ?_
        refine g_iinc 86 gq67 rfl rfl rfl rfl ?_
        refine g_goto 2 gq67 rfl rfl ?_
        exact kGo.weak (km_Le.s (km_Le.s (km_Le.s (km_Le.s (km_Le.n (km_Le.n km_Le.nil)))))) h
      · replace h := h.2 c
        refine g_iconst 48 gq67 rfl rfl ?_
        refine g_goto 52 gq67 rfl rfl ?_
        refine g_istore 54 gq67 rfl rfl rfl ?_
        refine g_aload_n 55 gq67 rfl rfl rfl ?_
        refine g_getA 58 (q0 + 3) gq67 rfl rfl rfl hq0 rfl rfl (rfR4 hq0) ?_
        refine g_iload_n 59 gq67 rfl rfl rfl ?_
        refine g_iload 61 gq67 rfl rfl rfl ?_
        refine g_iload 63 gq67 rfl rfl rfl ?_
        refine g_icmp_eq 76 66 gq67 rfl rfl rfl (by omega) (by omega) (fun c => ?_) (fun c => ?_)
        · exact absurd c (by decide)
        refine g_aload_n 67 gq67 rfl rfl rfl ?_
        refine g_getA 70 (q0 + 3) gq67 rfl rfl rfl hq0 rfl rfl (rfR4 hq0) ?_
        refine g_iload_n 71 gq67 rfl rfl rfl ?_
        refine g_iald 72 gq67 rfl rfl (shR4 hq0) c38 ?_
        refine g_ineg 73 gq67 rfl rfl ?_
        refine g_goto 82 gq67 rfl rfl ?_
        refine g_iast 83 gq67 rfl rfl (shR4 hq0) c38 ?_
        refine g_iinc 86 gq67 rfl rfl rfl rfl ?_
        refine g_goto 2 gq67 rfl rfl ?_
        exact kGo.weak (km_Le.s (km_Le.s (km_Le.s (km_Le.s (km_Le.n (km_Le.n km_Le.nil)))))) h
    · replace h := h.2 c
      refine g_iconst 26 gq67 rfl rfl ?_
      refine g_goto 30 gq67 rfl rfl ?_
      refine g_istore 32 gq67 rfl rfl rfl ?_
      refine g_aload_n 33 gq67 rfl rfl rfl ?_
      refine g_getA 36 (q2 + 3) gq67 rfl rfl rfl hq2 rfl rfl (rfD2 hq2) ?_
      refine g_aload_n 37 gq67 rfl rfl rfl ?_
      refine g_getA 40 (q2 + 5) gq67 rfl rfl rfl hq2 rfl rfl (rfD4 hq2) ?_
      refine g_iload_n 41 gq67 rfl rfl rfl ?_
      refine g_iald 42 gq67 rfl rfl (shD4 hq2) c38 ?_
      have c116 := h.1
      replace h := h.2
      refine g_iald 43 gq67 rfl rfl (shD2 hq2) c116 ?_
      refine g_iload_n 44 gq67 rfl rfl rfl ?_
      have c120 := h.1
      replace h := h.2
      refine g_icmp_ne 51 47 gq67 rfl rfl rfl c120 c47 (fun c => ?_) (fun c => ?_)
      · replace h := h.1 c
        refine g_iconst 52 gq67 rfl rfl ?_
        refine g_istore 54 gq67 rfl rfl rfl ?_
        refine g_aload_n 55 gq67 rfl rfl rfl ?_
        refine g_getA 58 (q0 + 3) gq67 rfl rfl rfl hq0 rfl rfl (rfR4 hq0) ?_
        refine g_iload_n 59 gq67 rfl rfl rfl ?_
        refine g_iload 61 gq67 rfl rfl rfl ?_
        refine g_iload 63 gq67 rfl rfl rfl ?_
        refine g_icmp_eq 76 66 gq67 rfl rfl rfl (by omega) (by omega) (fun c => ?_) (fun c => ?_)
        · exact absurd c (by decide)
        refine g_aload_n 67 gq67 rfl rfl rfl ?_
        refine g_getA 70 (q0 + 3) gq67 rfl rfl rfl hq0 rfl rfl (rfR4 hq0) ?_
        refine g_iload_n 71 gq67 rfl rfl rfl ?_
        refine g_iald 72 gq67 rfl rfl (shR4 hq0) c38 ?_
        refine g_ineg 73 gq67 rfl rfl ?_
        refine g_goto 82 gq67 rfl rfl ?_
        refine g_iast 83 gq67 rfl rfl (shR4 hq0) c38 ?_
        refine g_iinc 86 gq67 rfl rfl rfl rfl ?_
        refine g_goto 2 gq67 rfl rfl ?_
        exact kGo.weak (km_Le.s (km_Le.s (km_Le.s (km_Le.s (km_Le.n (km_Le.n km_Le.nil)))))) h
      · replace h := h.2 c
        refine g_iconst 48 gq67 rfl rfl ?_
        refine g_goto 52 gq67 rfl rfl ?_
        refine g_istore 54 gq67 rfl rfl rfl ?_
        refine g_aload_n 55 gq67 rfl rfl rfl ?_
        refine g_getA 58 (q0 + 3) gq67 rfl rfl rfl hq0 rfl rfl (rfR4 hq0) ?_
        refine g_iload_n 59 gq67 rfl rfl rfl ?_
        refine g_iload 61 gq67 rfl rfl rfl ?_
        refine g_iload 63 gq67 rfl rfl rfl ?_
        refine g_icmp_eq 76 66 gq67 rfl rfl rfl (by omega) (by omega) (fun c => ?_) (fun c => ?_)
        rotate_left
        · exact absurd c (by decide)
        refine g_aload_n 77 gq67 rfl rfl rfl ?_
        refine g_getA 80 (q0 + 3) gq67 rfl rfl rfl hq0 rfl rfl (rfR4 hq0) ?_
        refine g_iload_n 81 gq67 rfl rfl rfl ?_
        refine g_iald 82 gq67 rfl rfl (shR4 hq0) c38 ?_
        refine g_iast 83 gq67 rfl rfl (shR4 hq0) c38 ?_
        refine g_iinc 86 gq67 rfl rfl rfl rfl ?_
        refine g_goto 2 gq67 rfl rfl ?_
        exact kGo.weak (km_Le.s (km_Le.s (km_Le.s (km_Le.s (km_Le.n (km_Le.n km_Le.nil)))))) h
set_option maxRecDepth 10000 in
theorem b67_110 {xs : Nat → Int32} {Lx d : Nat} {V : km_V} {Q : Option Value → km_V → Prop} {x3 x4 : Int} {q0 : Nat} (hq0 : km_sh[q0]? = some (5, 5))
    (h : (kR x3) ∧ (kR x4) ∧ ((x4 ≤ x3 →
    Q none V) ∧
   (x3 < x4 →
    (0 ≤ x3 ∧ x3 < (16 : Nat)) ∧ (∀ z1 : Int, z1 = (V (q0 + 2) (Int.toNat x3)) → (0 ≤ x4 ∧ x4 < (16 : Nat)) ∧ kGo xs Lx (d + 1) 67 110 [some (.ref q0), none, none, some (kI (x3 + 1)), some (kI (x4 + (-1))), none] [] (up (up V (q0 + 2) (Int.toNat x3) (V (q0 + 2) (Int.toNat x4))) (q0 + 2) (Int.toNat x4) z1) Q)))) :
    kGo xs Lx (d + 1) 67 110 [some (.ref q0), none, none, some (kI x3), some (kI x4), none] [] V Q := by
  refine g_iload_n 111 gq67 rfl rfl rfl ?_
  refine g_iload 113 gq67 rfl rfl rfl ?_
  have c2 := h.1
  replace h := h.2
  have c4 := h.1
  replace h := h.2
  refine g_icmp_ge 132 116 gq67 rfl rfl rfl c2 c4 (fun c => ?_) (fun c => ?_)
  · replace h := h.1 c
    exact g_vret gq67 rfl rfl h
  · replace h := h.2 c
    refine g_aload_n 117 gq67 rfl rfl rfl ?_
    refine g_iload_n 118 gq67 rfl rfl rfl ?_
    refine g_iload 120 gq67 rfl rfl rfl ?_
    refine g_virt 69 _ (i := 57) gq67 rfl rfl gq69 hq0 rfl rfl rfl rfl rfl ?_
    refine g_aload_n 1 gq69 rfl rfl rfl ?_
    refine g_getA 4 (q0 + 2) gq69 rfl rfl rfl hq0 rfl rfl (rfR3 hq0) ?_
    refine g_iload_n 5 gq69 rfl rfl rfl ?_
    have c17 := h.1
    replace h := h.2
    refine g_iald 6 gq69 rfl rfl (shR3 hq0) c17 ?_
    refine g_istore_n 7 gq69 rfl rfl rfl ?_
    replace h := h _ rfl
    refine g_aload_n 8 gq69 rfl rfl rfl ?_
    refine g_getA 11 (q0 + 2) gq69 rfl rfl rfl hq0 rfl rfl (rfR3 hq0) ?_
    refine g_iload_n 12 gq69 rfl rfl rfl ?_
    refine g_aload_n 13 gq69 rfl rfl rfl ?_
    refine g_getA 16 (q0 + 2) gq69 rfl rfl rfl hq0 rfl rfl (rfR3 hq0) ?_
    refine g_iload_n 17 gq69 rfl rfl rfl ?_
    have c28 := h.1
    replace h := h.2
    refine g_iald 18 gq69 rfl rfl (shR3 hq0) c28 ?_
    refine g_iast 19 gq69 rfl rfl (shR3 hq0) c17 ?_
    refine g_aload_n 20 gq69 rfl rfl rfl ?_
    refine g_getA 23 (q0 + 2) gq69 rfl rfl rfl hq0 rfl rfl (rfR3 hq0) ?_
    refine g_iload_n 24 gq69 rfl rfl rfl ?_
    refine g_iload_n 25 gq69 rfl rfl rfl ?_
    refine g_iast 26 gq69 rfl rfl (shR3 hq0) c28 ?_
    refine g_vret gq69 rfl rfl ?_
    refine g_iinc 126 gq67 rfl rfl rfl rfl ?_
    refine g_iinc 129 gq67 rfl rfl rfl rfl ?_
    refine g_goto 110 gq67 rfl rfl ?_
    exact kGo.weak (km_Le.s (km_Le.n (km_Le.n (km_Le.s (km_Le.s (km_Le.n km_Le.nil)))))) h
set_option maxRecDepth 10000 in
theorem b68_0 {xs : Nat → Int32} {Lx d : Nat} {V : km_V} {Q : Option Value → km_V → Prop} {a2 : Int} {t : Nat} (ht : km_sh[t]? = some (5, 5)) {r1 : Nat} (hr1 : km_sh[r1]? = some (2, 11))
    (h : (0 ≤ a2 ∧ a2 < (33 : Nat)) ∧ (∀ z1 : Int, z1 = (V (r1 + 9) (Int.toNat a2)) → kGo xs Lx (d + 1) 68 7 [some (.ref t), some (.ref r1), some (kI a2), some (kI z1), none] [] V Q)) :
    kGo xs Lx (d + 1) 68 0 [some (.ref t), some (.ref r1), some (kI a2), none, none] [] V Q := by
  refine g_aload_n 1 gq68 rfl rfl rfl ?_
  refine g_getA 4 (r1 + 9) gq68 rfl rfl rfl hr1 rfl rfl (rfD9 hr1) ?_
  refine g_iload_n 5 gq68 rfl rfl rfl ?_
  have c3 := h.1
  replace h := h.2
  refine g_iald 6 gq68 rfl rfl (shD9 hr1) c3 ?_
  refine g_istore_n 7 gq68 rfl rfl rfl ?_
  replace h := h _ rfl
  exact kGo.weak (km_Le.s (km_Le.s (km_Le.s (km_Le.s (km_Le.n km_Le.nil))))) h
set_option maxRecDepth 10000 in
theorem b68_7 {xs : Nat → Int32} {Lx d : Nat} {V : km_V} {Q : Option Value → km_V → Prop} {x2 x3 : Int} {q0 : Nat} (hq0 : km_sh[q0]? = some (5, 5)) {q1 : Nat} (hq1 : km_sh[q1]? = some (2, 11))
    (h : (0 ≤ (x2 + 1) ∧ (x2 + 1) < (33 : Nat)) ∧ (kR x3) ∧ (kR (V (q1 + 9) (Int.toNat (x2 + 1)))) ∧ (((V (q1 + 9) (Int.toNat (x2 + 1))) ≤ x3 →
    Q none V) ∧
   (x3 < (V (q1 + 9) (Int.toNat (x2 + 1))) →
    (0 ≤ x3 ∧ x3 < (32 : Nat)) ∧ (kR (V (q1 + 8) (Int.toNat x3))) ∧ (∀ z1 : Int, z1 = ((V (q1 + 8) (Int.toNat x3)) / 2) → (0 ≤ z1 ∧ z1 < (16 : Nat)) ∧ (∀ z2 : Int, z2 = (V (q0 + 2) (Int.toNat z1)) → (0 ≤ (V (q1 + 1) (Int.toNat z1)) ∧ (V (q1 + 1) (Int.toNat z1)) < (16 : Nat)) ∧ kGo xs Lx (d + 1) 68 7 [some (.ref q0), some (.ref q1), some (kI x2), some (kI (x3 + 1)), none] [] (up (up V (q0 + 2) (Int.toNat z1) (V (q0 + 2) (Int.toNat (V (q1 + 1) (Int.toNat z1))))) (q0 + 2) (Int.toNat (V (q1 + 1) (Int.toNat z1))) z2) Q))))) :
    kGo xs Lx (d + 1) 68 7 [some (.ref q0), some (.ref q1), some (kI x2), some (kI x3), none] [] V Q := by
  refine g_iload_n 8 gq68 rfl rfl rfl ?_
  refine g_aload_n 9 gq68 rfl rfl rfl ?_
  refine g_getA 12 (q1 + 9) gq68 rfl rfl rfl hq1 rfl rfl (rfD9 hq1) ?_
  refine g_iload_n 13 gq68 rfl rfl rfl ?_
  refine g_iconst 14 gq68 rfl rfl ?_
  refine g_iadd 15 gq68 rfl rfl ?_
  have c6 := h.1
  replace h := h.2
  refine g_iald 16 gq68 rfl rfl (shD9 hq1) c6 ?_
  have c9 := h.1
  replace h := h.2
  have c11 := h.1
  replace h := h.2
  refine g_icmp_ge 48 19 gq68 rfl rfl rfl c9 c11 (fun c => ?_) (fun c => ?_)
  · replace h := h.1 c
    exact g_vret gq68 rfl rfl h
  · replace h := h.2 c
    refine g_aload_n 20 gq68 rfl rfl rfl ?_
    refine g_getA 23 (q1 + 8) gq68 rfl rfl rfl hq1 rfl rfl (rfD8 hq1) ?_
    refine g_iload_n 24 gq68 rfl rfl rfl ?_
    have c20 := h.1
    replace h := h.2
    refine g_iald 25 gq68 rfl rfl (shD8 hq1) c20 ?_
    refine g_iconst 26 gq68 rfl rfl ?_
    have c24 := h.1
    replace h := h.2
    refine g_ishr 27 gq68 rfl rfl c24 (by omega) ?_
    refine g_istore 29 gq68 rfl rfl rfl ?_
    replace h := h _ rfl
    refine g_aload_n 30 gq68 rfl rfl rfl ?_
    refine g_iload 32 gq68 rfl rfl rfl ?_
    refine g_aload_n 33 gq68 rfl rfl rfl ?_
    refine g_getA 36 (q1 + 1) gq68 rfl rfl rfl hq1 rfl rfl (rfD0 hq1) ?_
    refine g_iload 38 gq68 rfl rfl rfl ?_
    have c34 := h.1
    replace h := h.2
    refine g_iald 39 gq68 rfl rfl (shD0 hq1) c34 ?_
    refine g_virt 69 _ (i := 57) gq68 rfl rfl gq69 hq0 rfl rfl rfl rfl rfl ?_
    refine g_aload_n 1 gq69 rfl rfl rfl ?_
    refine g_getA 4 (q0 + 2) gq69 rfl rfl rfl hq0 rfl rfl (rfR3 hq0) ?_
    refine g_iload_n 5 gq69 rfl rfl rfl ?_
    refine g_iald 6 gq69 rfl rfl (shR3 hq0) c34 ?_
    refine g_istore_n 7 gq69 rfl rfl rfl ?_
    replace h := h _ rfl
    refine g_aload_n 8 gq69 rfl rfl rfl ?_
    refine g_getA 11 (q0 + 2) gq69 rfl rfl rfl hq0 rfl rfl (rfR3 hq0) ?_
    refine g_iload_n 12 gq69 rfl rfl rfl ?_
    refine g_aload_n 13 gq69 rfl rfl rfl ?_
    refine g_getA 16 (q0 + 2) gq69 rfl rfl rfl hq0 rfl rfl (rfR3 hq0) ?_
    refine g_iload_n 17 gq69 rfl rfl rfl ?_
    have c50 := h.1
    replace h := h.2
    refine g_iald 18 gq69 rfl rfl (shR3 hq0) c50 ?_
    refine g_iast 19 gq69 rfl rfl (shR3 hq0) c34 ?_
    refine g_aload_n 20 gq69 rfl rfl rfl ?_
    refine g_getA 23 (q0 + 2) gq69 rfl rfl rfl hq0 rfl rfl (rfR3 hq0) ?_
    refine g_iload_n 24 gq69 rfl rfl rfl ?_
    refine g_iload_n 25 gq69 rfl rfl rfl ?_
    refine g_iast 26 gq69 rfl rfl (shR3 hq0) c50 ?_
    refine g_vret gq69 rfl rfl ?_
    refine g_iinc 45 gq68 rfl rfl rfl rfl ?_
    refine g_goto 7 gq68 rfl rfl ?_
    exact kGo.weak (km_Le.s (km_Le.s (km_Le.s (km_Le.s (km_Le.n km_Le.nil))))) h
set_option maxRecDepth 10000 in
theorem b69_0 {xs : Nat → Int32} {Lx d : Nat} {V : km_V} {Q : Option Value → km_V → Prop} {a1 a2 : Int} {t : Nat} (ht : km_sh[t]? = some (5, 5))
    (h : (0 ≤ a1 ∧ a1 < (16 : Nat)) ∧ (∀ z1 : Int, z1 = (V (t + 2) (Int.toNat a1)) → (0 ≤ a2 ∧ a2 < (16 : Nat)) ∧ Q none (up (up V (t + 2) (Int.toNat a1) (V (t + 2) (Int.toNat a2))) (t + 2) (Int.toNat a2) z1))) :
    kGo xs Lx (d + 0) 69 0 [some (.ref t), some (kI a1), some (kI a2), none] [] V Q := by
  refine g_aload_n 1 gq69 rfl rfl rfl ?_
  refine g_getA 4 (t + 2) gq69 rfl rfl rfl ht rfl rfl (rfR3 ht) ?_
  refine g_iload_n 5 gq69 rfl rfl rfl ?_
  have c3 := h.1
  replace h := h.2
  refine g_iald 6 gq69 rfl rfl (shR3 ht) c3 ?_
  refine g_istore_n 7 gq69 rfl rfl rfl ?_
  replace h := h _ rfl
  refine g_aload_n 8 gq69 rfl rfl rfl ?_
  refine g_getA 11 (t + 2) gq69 rfl rfl rfl ht rfl rfl (rfR3 ht) ?_
  refine g_iload_n 12 gq69 rfl rfl rfl ?_
  refine g_aload_n 13 gq69 rfl rfl rfl ?_
  refine g_getA 16 (t + 2) gq69 rfl rfl rfl ht rfl rfl (rfR3 ht) ?_
  refine g_iload_n 17 gq69 rfl rfl rfl ?_
  have c14 := h.1
  replace h := h.2
  refine g_iald 18 gq69 rfl rfl (shR3 ht) c14 ?_
  refine g_iast 19 gq69 rfl rfl (shR3 ht) c3 ?_
  refine g_aload_n 20 gq69 rfl rfl rfl ?_
  refine g_getA 23 (t + 2) gq69 rfl rfl rfl ht rfl rfl (rfR3 ht) ?_
  refine g_iload_n 24 gq69 rfl rfl rfl ?_
  refine g_iload_n 25 gq69 rfl rfl rfl ?_
  refine g_iast 26 gq69 rfl rfl (shR3 ht) c14 ?_
  exact g_vret gq69 rfl rfl h
set_option maxRecDepth 10000 in
theorem b70_0 {xs : Nat → Int32} {Lx d : Nat} {V : km_V} {Q : Option Value → km_V → Prop} {a1 a2 a3 : Int} {t : Nat} (ht : km_sh[t]? = some (5, 5))
    (h : (∀ z1 : Int, z1 = ((2 * (V t 1)) - 1) → kGo xs Lx (d + 1) 70 8 [some (.ref t), some (kI a1), some (kI a2), some (kI a3), some (kI z1)] [] V Q)) :
    kGo xs Lx (d + 1) 70 0 [some (.ref t), some (kI a1), some (kI a2), some (kI a3), none] [] V Q := by
  refine g_aload_n 1 gq70 rfl rfl rfl ?_
  refine g_virt 59 _ (i := 34) gq70 rfl rfl gq59 ht rfl rfl rfl rfl rfl ?_
  refine g_iconst 1 gq59 rfl rfl ?_
  refine g_aload_n 2 gq59 rfl rfl rfl ?_
  refine g_getI 5 gq59 rfl rfl rfl ht rfl rfl ?_
  refine g_imul 6 gq59 rfl rfl ?_
  refine g_iret gq59 rfl rfl ?_
  refine g_iconst 5 gq70 rfl rfl ?_
  refine g_isub 6 gq70 rfl rfl ?_
  refine g_istore 8 gq70 rfl rfl rfl ?_
  replace h := h _ rfl
  exact kGo.weak (km_Le.s (km_Le.s (km_Le.s (km_Le.s (km_Le.s km_Le.nil))))) h
set_option maxRecDepth 10000 in
theorem b70_8 {xs : Nat → Int32} {Lx d : Nat} {V : km_V} {Q : Option Value → km_V → Prop} {x1 x2 x3 x4 : Int} {q0 : Nat} (hq0 : km_sh[q0]? = some (5, 5))
    (h : (kR x4) ∧ (kR x1) ∧ ((x4 ≤ x1 →
    (kR x2) ∧ ((x2 = 0 →
      (0 ≤ (x1 + 1) ∧ (x1 + 1) < (16 : Nat)) ∧ (0 ≤ (x1 + 2) ∧ (x1 + 2) < (16 : Nat)) ∧ kGo xs Lx (d + 1) 70 87 [some (.ref q0), some (kI x1), none, some (kI x3), some (kI 1)] [] (up (up V (q0 + 2) (Int.toNat (x1 + 1)) ((2 * (V q0 1)) + 0)) (q0 + 2) (Int.toNat (x1 + 2)) ((2 * ((up V (q0 + 2) (Int.toNat (x1 + 1)) ((2 * (V q0 1)) + 0)) q0 1)) + 1)) Q) ∧
     (x2 ≠ 0 →
      (0 ≤ (x1 + 1) ∧ (x1 + 1) < (16 : Nat)) ∧ (0 ≤ (x1 + 2) ∧ (x1 + 2) < (16 : Nat)) ∧ kGo xs Lx (d + 1) 70 87 [some (.ref q0), some (kI x1), none, some (kI x3), some (kI 1)] [] (up (up V (q0 + 2) (Int.toNat (x1 + 1)) ((2 * (V q0 1)) + 1)) (q0 + 2) (Int.toNat (x1 + 2)) ((2 * ((up V (q0 + 2) (Int.toNat (x1 + 1)) ((2 * (V q0 1)) + 1)) q0 1)) + 0)) Q))) ∧
   (x1 < x4 →
    (0 ≤ x4 ∧ x4 < (16 : Nat)) ∧ (0 ≤ (x4 + 2) ∧ (x4 + 2) < (16 : Nat)) ∧ kGo xs Lx (d + 1) 70 8 [some (.ref q0), some (kI x1), some (kI x2), some (kI x3), some (kI (x4 + (-1)))] [] (up V (q0 + 2) (Int.toNat (x4 + 2)) (V (q0 + 2) (Int.toNat x4))) Q))) :
    kGo xs Lx (d + 1) 70 8 [some (.ref q0), some (kI x1), some (kI x2), some (kI x3), some (kI x4)] [] V Q := by
  refine g_iload 10 gq70 rfl rfl rfl ?_
  refine g_iload_n 11 gq70 rfl rfl rfl ?_
  have c2 := h.1
  replace h := h.2
  have c4 := h.1
  replace h := h.2
  refine g_icmp_le 36 14 gq70 rfl rfl rfl c2 c4 (fun c => ?_) (fun c => ?_)
  · replace h := h.1 c
    refine g_aload_n 37 gq70 rfl rfl rfl ?_
    refine g_getA 40 (q0 + 2) gq70 rfl rfl rfl hq0 rfl rfl (rfR3 hq0) ?_
    refine g_iload_n 41 gq70 rfl rfl rfl ?_
    refine g_iconst 42 gq70 rfl rfl ?_
    refine g_iadd 43 gq70 rfl rfl ?_
    refine g_iconst 44 gq70 rfl rfl ?_
    refine g_aload_n 45 gq70 rfl rfl rfl ?_
    refine g_getI 48 gq70 rfl rfl rfl hq0 rfl rfl ?_
    refine g_imul 49 gq70 rfl rfl ?_
    refine g_iload_n 50 gq70 rfl rfl rfl ?_
    have c18 := h.1
    replace h := h.2
    refine g_if_eq 57 53 gq70 rfl rfl rfl c18 (fun c => ?_) (fun c => ?_)
    · replace h := h.1 c
      refine g_iconst 58 gq70 rfl rfl ?_
      refine g_iadd 59 gq70 rfl rfl ?_
      have c24 := h.1
      replace h := h.2
      refine g_iast 60 gq70 rfl rfl (shR3 hq0) c24 ?_
      refine g_aload_n 61 gq70 rfl rfl rfl ?_
      refine g_getA 64 (q0 + 2) gq70 rfl rfl rfl hq0 rfl rfl (rfR3 hq0) ?_
      refine g_iload_n 65 gq70 rfl rfl rfl ?_
      refine g_iconst 66 gq70 rfl rfl ?_
      refine g_iadd 67 gq70 rfl rfl ?_
      refine g_iconst 68 gq70 rfl rfl ?_
      refine g_aload_n 69 gq70 rfl rfl rfl ?_
      refine g_getI 72 gq70 rfl rfl rfl hq0 rfl rfl ?_
      refine g_imul 73 gq70 rfl rfl ?_
      refine g_iload_n 74 gq70 rfl rfl rfl ?_
      refine g_if_eq 81 77 gq70 rfl rfl rfl c18 (fun c => ?_) (fun c => ?_)
      rotate_left
      · exfalso; omega
      refine g_iconst 82 gq70 rfl rfl ?_
      refine g_iadd 83 gq70 rfl rfl ?_
      have c42 := h.1
      replace h := h.2
      refine g_iast 84 gq70 rfl rfl (shR3 hq0) c42 ?_
      refine g_iconst 85 gq70 rfl rfl ?_
      refine g_istore 87 gq70 rfl rfl rfl ?_
      exact kGo.weak (km_Le.s (km_Le.s (km_Le.n (km_Le.s (km_Le.s km_Le.nil))))) h
    · replace h := h.2 c
      refine g_iconst 54 gq70 rfl rfl ?_
      refine g_goto 58 gq70 rfl rfl ?_
      refine g_iadd 59 gq70 rfl rfl ?_
      have c52 := h.1
      replace h := h.2
      refine g_iast 60 gq70 rfl rfl (shR3 hq0) c52 ?_
      refine g_aload_n 61 gq70 rfl rfl rfl ?_
      refine g_getA 64 (q0 + 2) gq70 rfl rfl rfl hq0 rfl rfl (rfR3 hq0) ?_
      refine g_iload_n 65 gq70 rfl rfl rfl ?_
      refine g_iconst 66 gq70 rfl rfl ?_
      refine g_iadd 67 gq70 rfl rfl ?_
      refine g_iconst 68 gq70 rfl rfl ?_
      refine g_aload_n 69 gq70 rfl rfl rfl ?_
      refine g_getI 72 gq70 rfl rfl rfl hq0 rfl rfl ?_
      refine g_imul 73 gq70 rfl rfl ?_
      refine g_iload_n 74 gq70 rfl rfl rfl ?_
      refine g_if_eq 81 77 gq70 rfl rfl rfl c18 (fun c => ?_) (fun c => ?_)
      · exfalso; omega
      refine g_iconst 78 gq70 rfl rfl ?_
      refine g_goto 82 gq70 rfl rfl ?_
      refine g_iadd 83 gq70 rfl rfl ?_
      have c70 := h.1
      replace h := h.2
      refine g_iast 84 gq70 rfl rfl (shR3 hq0) c70 ?_
      refine g_iconst 85 gq70 rfl rfl ?_
      refine g_istore 87 gq70 rfl rfl rfl ?_
      exact kGo.weak (km_Le.s (km_Le.s (km_Le.n (km_Le.s (km_Le.s km_Le.nil))))) h
  · replace h := h.2 c
    refine g_aload_n 15 gq70 rfl rfl rfl ?_
    refine g_getA 18 (q0 + 2) gq70 rfl rfl rfl hq0 rfl rfl (rfR3 hq0) ?_
    refine g_iload 20 gq70 rfl rfl rfl ?_
    refine g_iconst 21 gq70 rfl rfl ?_
    refine g_iadd 22 gq70 rfl rfl ?_
    refine g_aload_n 23 gq70 rfl rfl rfl ?_
    refine g_getA 26 (q0 + 2) gq70 rfl rfl rfl hq0 rfl rfl (rfR3 hq0) ?_
    refine g_iload 28 gq70 rfl rfl rfl ?_
    have c85 := h.1
    replace h := h.2
    refine g_iald 29 gq70 rfl rfl (shR3 hq0) c85 ?_
    have c88 := h.1
    replace h := h.2
    refine g_iast 30 gq70 rfl rfl (shR3 hq0) c88 ?_
    refine g_iinc 33 gq70 rfl rfl rfl rfl ?_
    refine g_goto 8 gq70 rfl rfl ?_
    exact kGo.weak (km_Le.s (km_Le.s (km_Le.s (km_Le.s (km_Le.s km_Le.nil))))) h
set_option maxRecDepth 10000 in
theorem b70_87 {xs : Nat → Int32} {Lx d : Nat} {V : km_V} {Q : Option Value → km_V → Prop} {x1 x3 x4 : Int} {q0 : Nat} (hq0 : km_sh[q0]? = some (5, 5))
    (h : (kR x4) ∧ (kR (V q0 0)) ∧ (((V q0 0) < x4 →
    (kR x3) ∧ ((x3 = 0 →
      (0 ≤ (V q0 1) ∧ (V q0 1) < (8 : Nat)) ∧ Q none (up (up V (q0 + 3) (Int.toNat (V q0 1)) (-1)) q0 1 (((up V (q0 + 3) (Int.toNat (V q0 1)) (-1)) q0 1) + 1))) ∧
     (x3 ≠ 0 →
      (0 ≤ (V q0 1) ∧ (V q0 1) < (8 : Nat)) ∧ Q none (up (up V (q0 + 3) (Int.toNat (V q0 1)) 1) q0 1 (((up V (q0 + 3) (Int.toNat (V q0 1)) 1) q0 1) + 1))))) ∧
   (x4 ≤ (V q0 0) →
    (0 ≤ x4 ∧ x4 < (5 : Nat)) ∧ (kR (V (q0 + 1) (Int.toNat x4))) ∧ (kR x1) ∧ (((V (q0 + 1) (Int.toNat x4)) ≤ x1 →
      kGo xs Lx (d + 1) 70 87 [some (.ref q0), some (kI x1), none, some (kI x3), some (kI (x4 + 1))] [] (up V (q0 + 1) (Int.toNat x4) ((V (q0 + 1) (Int.toNat x4)) + 0)) Q) ∧
     (x1 < (V (q0 + 1) (Int.toNat x4)) →
      kGo xs Lx (d + 1) 70 87 [some (.ref q0), some (kI x1), none, some (kI x3), some (kI (x4 + 1))] [] (up V (q0 + 1) (Int.toNat x4) ((V (q0 + 1) (Int.toNat x4)) + 2)) Q))))) :
    kGo xs Lx (d + 1) 70 87 [some (.ref q0), some (kI x1), none, some (kI x3), some (kI x4)] [] V Q := by
  refine g_iload 89 gq70 rfl rfl rfl ?_
  refine g_aload_n 90 gq70 rfl rfl rfl ?_
  refine g_getI 93 gq70 rfl rfl rfl hq0 rfl rfl ?_
  have c3 := h.1
  replace h := h.2
  have c5 := h.1
  replace h := h.2
  refine g_icmp_gt 128 96 gq70 rfl rfl rfl c3 c5 (fun c => ?_) (fun c => ?_)
  · replace h := h.1 c
    refine g_aload_n 129 gq70 rfl rfl rfl ?_
    refine g_getA 132 (q0 + 3) gq70 rfl rfl rfl hq0 rfl rfl (rfR4 hq0) ?_
    refine g_aload_n 133 gq70 rfl rfl rfl ?_
    refine g_getI 136 gq70 rfl rfl rfl hq0 rfl rfl ?_
    refine g_iload_n 137 gq70 rfl rfl rfl ?_
    have c14 := h.1
    replace h := h.2
    refine g_if_eq 144 140 gq70 rfl rfl rfl c14 (fun c => ?_) (fun c => ?_)
    · replace h := h.1 c
      refine g_iconst 145 gq70 rfl rfl ?_
      have c19 := h.1
      replace h := h.2
      refine g_iast 146 gq70 rfl rfl (shR4 hq0) c19 ?_
      refine g_aload_n 147 gq70 rfl rfl rfl ?_
      refine g_dup 148 gq70 rfl rfl rfl ?_
      refine g_getI 151 gq70 rfl rfl rfl hq0 rfl rfl ?_
      refine g_iconst 152 gq70 rfl rfl ?_
      refine g_iadd 153 gq70 rfl rfl ?_
      refine g_putI 156 gq70 rfl rfl rfl hq0 rfl rfl rfl rfl ?_
      exact g_vret gq70 rfl rfl h
    · replace h := h.2 c
      refine g_iconst 141 gq70 rfl rfl ?_
      refine g_goto 145 gq70 rfl rfl ?_
      have c32 := h.1
      replace h := h.2
      refine g_iast 146 gq70 rfl rfl (shR4 hq0) c32 ?_
      refine g_aload_n 147 gq70 rfl rfl rfl ?_
      refine g_dup 148 gq70 rfl rfl rfl ?_
      refine g_getI 151 gq70 rfl rfl rfl hq0 rfl rfl ?_
      refine g_iconst 152 gq70 rfl rfl ?_
      refine g_iadd 153 gq70 rfl rfl ?_
      refine g_putI 156 gq70 rfl rfl rfl hq0 rfl rfl rfl rfl ?_
      exact g_vret gq70 rfl rfl h
  · replace h := h.2 c
    refine g_aload_n 97 gq70 rfl rfl rfl ?_
    refine g_getA 100 (q0 + 1) gq70 rfl rfl rfl hq0 rfl rfl (rfR2 hq0) ?_
    refine g_iload 102 gq70 rfl rfl rfl ?_
    refine g_dup2 103 gq70 rfl rfl rfl rfl ?_
    have c47 := h.1
    replace h := h.2
    refine g_iald 104 gq70 rfl rfl (shR2 hq0) c47 ?_
    refine g_aload_n 105 gq70 rfl rfl rfl ?_
    refine g_getA 108 (q0 + 1) gq70 rfl rfl rfl hq0 rfl rfl (rfR2 hq0) ?_
    refine g_iload 110 gq70 rfl rfl rfl ?_
    refine g_iald 111 gq70 rfl rfl (shR2 hq0) c47 ?_
    refine g_iload_n 112 gq70 rfl rfl rfl ?_
    have c55 := h.1
    replace h := h.2
    have c57 := h.1
    replace h := h.2
    refine g_icmp_le 119 115 gq70 rfl rfl rfl c55 c57 (fun c => ?_) (fun c => ?_)
    · replace h := h.1 c
      refine g_iconst 120 gq70 rfl rfl ?_
      refine g_iadd 121 gq70 rfl rfl ?_
      refine g_iast 122 gq70 rfl rfl (shR2 hq0) c47 ?_
      refine g_iinc 125 gq70 rfl rfl rfl rfl ?_
      refine g_goto 87 gq70 rfl rfl ?_
      exact kGo.weak (km_Le.s (km_Le.s (km_Le.n (km_Le.s (km_Le.s km_Le.nil))))) h
    · replace h := h.2 c
      refine g_iconst 116 gq70 rfl rfl ?_
      refine g_goto 120 gq70 rfl rfl ?_
      refine g_iadd 121 gq70 rfl rfl ?_
      refine g_iast 122 gq70 rfl rfl (shR2 hq0) c47 ?_
      refine g_iinc 125 gq70 rfl rfl rfl rfl ?_
      refine g_goto 87 gq70 rfl rfl ?_
      exact kGo.weak (km_Le.s (km_Le.s (km_Le.n (km_Le.s (km_Le.s km_Le.nil))))) h
set_option maxRecDepth 10000 in
theorem b71_0 {xs : Nat → Int32} {Lx d : Nat} {V : km_V} {Q : Option Value → km_V → Prop} {a1 : Int} {t : Nat} (ht : km_sh[t]? = some (5, 5))
    (h : kGo xs Lx (d + 2) 71 7 [some (.ref t), some (kI a1), some (kI 0), some (kI 0), some (kI 0), none, none] [] V Q) :
    kGo xs Lx (d + 2) 71 0 [some (.ref t), some (kI a1), none, none, none, none, none] [] V Q := by
  refine g_iconst 1 gq71 rfl rfl ?_
  refine g_istore_n 2 gq71 rfl rfl rfl ?_
  refine g_iconst 3 gq71 rfl rfl ?_
  refine g_istore_n 4 gq71 rfl rfl rfl ?_
  refine g_iconst 5 gq71 rfl rfl ?_
  refine g_istore 7 gq71 rfl rfl rfl ?_
  exact kGo.weak (km_Le.s (km_Le.s (km_Le.s (km_Le.s (km_Le.s (km_Le.n (km_Le.n km_Le.nil))))))) h
set_option maxRecDepth 10000 in
theorem b71_7 {xs : Nat → Int32} {Lx d : Nat} {V : km_V} {Q : Option Value → km_V → Prop} {x1 x2 x3 x4 : Int} {q0 : Nat} (hq0 : km_sh[q0]? = some (5, 5))
    (h : (kR x4) ∧ (kR (V q0 0)) ∧ (((V q0 0) ≤ x4 →
    (0 ≤ (V q0 0) ∧ (V q0 0) < (5 : Nat)) ∧ kGo xs Lx (d + 2) 71 106 [some (.ref q0), some (kI x1), none, some (kI x3), some (kI 0), none, none] [] (up V (q0 + 1) (Int.toNat (V q0 0)) x3) Q) ∧
   (x4 < (V q0 0) →
    (0 ≤ (x4 + 1) ∧ (x4 + 1) < (5 : Nat)) ∧ (∀ z1 : Int, z1 = (V (q0 + 1) (Int.toNat (x4 + 1))) → (0 ≤ x4 ∧ x4 < (5 : Nat)) ∧ kGo xs Lx (d + 2) 71 35 [some (.ref q0), some (kI x1), some (kI x2), some (kI x3), some (kI x4), some (kI z1), none] [] (up V (q0 + 1) (Int.toNat x4) x3) Q)))) :
    kGo xs Lx (d + 2) 71 7 [some (.ref q0), some (kI x1), some (kI x2), some (kI x3), some (kI x4), none, none] [] V Q := by
  refine g_iload 9 gq71 rfl rfl rfl ?_
  refine g_aload_n 10 gq71 rfl rfl rfl ?_
  refine g_getI 13 gq71 rfl rfl rfl hq0 rfl rfl ?_
  have c3 := h.1
  replace h := h.2
  have c5 := h.1
  replace h := h.2
  refine g_icmp_ge 93 16 gq71 rfl rfl rfl c3 c5 (fun c => ?_) (fun c => ?_)
  · replace h := h.1 c
    refine g_aload_n 94 gq71 rfl rfl rfl ?_
    refine g_getA 97 (q0 + 1) gq71 rfl rfl rfl hq0 rfl rfl (rfR2 hq0) ?_
    refine g_aload_n 98 gq71 rfl rfl rfl ?_
    refine g_getI 101 gq71 rfl rfl rfl hq0 rfl rfl ?_
    refine g_iload_n 102 gq71 rfl rfl rfl ?_
    have c14 := h.1
    replace h := h.2
    refine g_iast 103 gq71 rfl rfl (shR2 hq0) c14 ?_
    refine g_iconst 104 gq71 rfl rfl ?_
    refine g_istore 106 gq71 rfl rfl rfl ?_
    exact kGo.weak (km_Le.s (km_Le.s (km_Le.n (km_Le.s (km_Le.s (km_Le.n (km_Le.n km_Le.nil))))))) h
  · replace h := h.2 c
    refine g_aload_n 17 gq71 rfl rfl rfl ?_
    refine g_getA 20 (q0 + 1) gq71 rfl rfl rfl hq0 rfl rfl (rfR2 hq0) ?_
    refine g_iload 22 gq71 rfl rfl rfl ?_
    refine g_iconst 23 gq71 rfl rfl ?_
    refine g_iadd 24 gq71 rfl rfl ?_
    have c26 := h.1
    replace h := h.2
    refine g_iald 25 gq71 rfl rfl (shR2 hq0) c26 ?_
    refine g_istore 27 gq71 rfl rfl rfl ?_
    replace h := h _ rfl
    refine g_aload_n 28 gq71 rfl rfl rfl ?_
    refine g_getA 31 (q0 + 1) gq71 rfl rfl rfl hq0 rfl rfl (rfR2 hq0) ?_
    refine g_iload 33 gq71 rfl rfl rfl ?_
    refine g_iload_n 34 gq71 rfl rfl rfl ?_
    have c35 := h.1
    replace h := h.2
    refine g_iast 35 gq71 rfl rfl (shR2 hq0) c35 ?_
    exact kGo.weak (km_Le.s (km_Le.s (km_Le.s (km_Le.s (km_Le.s (km_Le.s (km_Le.n km_Le.nil))))))) h
set_option maxRecDepth 10000 in
theorem b71_106 {xs : Nat → Int32} {Lx d : Nat} {V : km_V} {Q : Option Value → km_V → Prop} {x1 x3 x4 : Int} {q0 : Nat} (hq0 : km_sh[q0]? = some (5, 5))
    (h : (kR x4) ∧ (kR (V q0 1)) ∧ (((V q0 1) ≤ x4 →
    (0 ≤ x3 ∧ x3 ≤ 2147483647) ∧ Q none (up V q0 1 (x3 / 2))) ∧
   (x4 < (V q0 1) →
    (kR x1) ∧ (0 ≤ x4 ∧ x4 < 32) ∧ (kR ((x1 / ((2 ^ Int.toNat x4 : Nat) : Int)) % 2)) ∧ ((((x1 / ((2 ^ Int.toNat x4 : Nat) : Int)) % 2) ≠ 0 →
      kGo xs Lx (d + 2) 71 106 [some (.ref q0), some (kI x1), none, some (kI x3), some (kI (x4 + 1)), none, none] [] V Q) ∧
     (((x1 / ((2 ^ Int.toNat x4 : Nat) : Int)) % 2) = 0 →
      kCI xs Lx (d + 1) 72 2 [kI x1, kI x4] V (fun y1 W1 =>
      (0 ≤ x4 ∧ x4 < (8 : Nat)) ∧ (0 ≤ (x4 - y1) ∧ (x4 - y1) < (8 : Nat)) ∧ kGo xs Lx (d + 2) 71 106 [some (.ref q0), some (kI x1), none, some (kI x3), some (kI (x4 + 1)), none, none] [] (up W1 (q0 + 3) (Int.toNat (x4 - y1)) (W1 (q0 + 3) (Int.toNat x4))) Q)))))) :
    kGo xs Lx (d + 2) 71 106 [some (.ref q0), some (kI x1), none, some (kI x3), some (kI x4), none, none] [] V Q := by
  refine g_iload 108 gq71 rfl rfl rfl ?_
  refine g_aload_n 109 gq71 rfl rfl rfl ?_
  refine g_getI 112 gq71 rfl rfl rfl hq0 rfl rfl ?_
  have c3 := h.1
  replace h := h.2
  have c5 := h.1
  replace h := h.2
  refine g_icmp_ge 151 115 gq71 rfl rfl rfl c3 c5 (fun c => ?_) (fun c => ?_)
  · replace h := h.1 c
    refine g_aload_n 152 gq71 rfl rfl rfl ?_
    refine g_iload_n 153 gq71 rfl rfl rfl ?_
    refine g_iconst 154 gq71 rfl rfl ?_
    have c12 := h.1
    replace h := h.2
    refine g_idiv 155 gq71 rfl rfl c12 (by omega) ?_
    refine g_putI 158 gq71 rfl rfl rfl hq0 rfl rfl rfl rfl ?_
    exact g_vret gq71 rfl rfl h
  · replace h := h.2 c
    refine g_iload_n 116 gq71 rfl rfl rfl ?_
    refine g_iload 118 gq71 rfl rfl rfl ?_
    have c20 := h.1
    replace h := h.2
    have c22 := h.1
    replace h := h.2
    refine g_ishr 119 gq71 rfl rfl c20 c22 ?_
    refine g_iconst 120 gq71 rfl rfl ?_
    refine g_iandM 121 1 gq71 rfl rfl (by decide) rfl ?_
    have c27 := h.1
    replace h := h.2
    refine g_if_ne 145 124 gq71 rfl rfl rfl c27 (fun c => ?_) (fun c => ?_)
    · replace h := h.1 c
      refine g_iinc 148 gq71 rfl rfl rfl rfl ?_
      refine g_goto 106 gq71 rfl rfl ?_
      exact kGo.weak (km_Le.s (km_Le.s (km_Le.n (km_Le.s (km_Le.s (km_Le.n (km_Le.n km_Le.nil))))))) h
    · replace h := h.2 c
      refine g_aload_n 125 gq71 rfl rfl rfl ?_
      refine g_getA 128 (q0 + 3) gq71 rfl rfl rfl hq0 rfl rfl (rfR4 hq0) ?_
      refine g_iload 130 gq71 rfl rfl rfl ?_
      refine g_iload_n 131 gq71 rfl rfl rfl ?_
      refine g_iload 133 gq71 rfl rfl rfl ?_
      refine g_static 72 _ (i := 70) gq71 rfl rfl gq72 rfl rfl rfl rfl ?_
      refine kGo.mono h (fun r W1 hr => ?_)
      obtain ⟨y1, rfl, h⟩ := hr
      refine g_isub 137 gq71 rfl rfl ?_
      refine g_aload_n 138 gq71 rfl rfl rfl ?_
      refine g_getA 141 (q0 + 3) gq71 rfl rfl rfl hq0 rfl rfl (rfR4 hq0) ?_
      refine g_iload 143 gq71 rfl rfl rfl ?_
      have c47 := h.1
      replace h := h.2
      refine g_iald 144 gq71 rfl rfl (shR4 hq0) c47 ?_
      have c50 := h.1
      replace h := h.2
      refine g_iast 145 gq71 rfl rfl (shR4 hq0) c50 ?_
      refine g_iinc 148 gq71 rfl rfl rfl rfl ?_
      refine g_goto 106 gq71 rfl rfl ?_
      exact kGo.weak (km_Le.s (km_Le.s (km_Le.n (km_Le.s (km_Le.s (km_Le.n (km_Le.n km_Le.nil))))))) h
set_option maxRecDepth 10000 in
theorem b71_35 {xs : Nat → Int32} {Lx d : Nat} {V : km_V} {Q : Option Value → km_V → Prop} {x1 x2 x3 x4 x5 : Int} {q0 : Nat} (hq0 : km_sh[q0]? = some (5, 5))
    (h : (kR x2) ∧ (kR x5) ∧ ((x5 ≤ x2 →
    kGo xs Lx (d + 2) 71 7 [some (.ref q0), some (kI x1), some (kI x2), some (kI x3), some (kI (x4 + 1)), none, none] [] V Q) ∧
   (x2 < x5 →
    (0 ≤ x2 ∧ x2 < (16 : Nat)) ∧ (kR (V (q0 + 2) (Int.toNat x2))) ∧ (∀ z1 : Int, z1 = ((V (q0 + 2) (Int.toNat x2)) / 2) → (kR x1) ∧ (0 ≤ z1 ∧ z1 < 32) ∧ (kR ((x1 / ((2 ^ Int.toNat z1 : Nat) : Int)) % 2)) ∧ ((((x1 / ((2 ^ Int.toNat z1 : Nat) : Int)) % 2) ≠ 0 →
      kGo xs Lx (d + 2) 71 35 [some (.ref q0), some (kI x1), some (kI (x2 + 1)), some (kI x3), some (kI x4), some (kI x5), none] [] V Q) ∧
     (((x1 / ((2 ^ Int.toNat z1 : Nat) : Int)) % 2) = 0 →
      (0 ≤ x2 ∧ x2 < (16 : Nat)) ∧ kCI xs Lx (d + 1) 72 2 [kI x1, kI z1] V (fun y2 W2 =>
      (0 ≤ x3 ∧ x3 < (16 : Nat)) ∧ kGo xs Lx (d + 2) 71 35 [some (.ref q0), some (kI x1), some (kI (x2 + 1)), some (kI (x3 + 1)), some (kI x4), some (kI x5), none] [] (up W2 (q0 + 2) (Int.toNat x3) ((V (q0 + 2) (Int.toNat x2)) - (2 * y2))) Q))))))) :
    kGo xs Lx (d + 2) 71 35 [some (.ref q0), some (kI x1), some (kI x2), some (kI x3), some (kI x4), some (kI x5), none] [] V Q := by
  refine g_iload_n 36 gq71 rfl rfl rfl ?_
  refine g_iload 38 gq71 rfl rfl rfl ?_
  have c2 := h.1
  replace h := h.2
  have c4 := h.1
  replace h := h.2
  refine g_icmp_ge 87 41 gq71 rfl rfl rfl c2 c4 (fun c => ?_) (fun c => ?_)
  · replace h := h.1 c
    refine g_iinc 90 gq71 rfl rfl rfl rfl ?_
    refine g_goto 7 gq71 rfl rfl ?_
    exact kGo.weak (km_Le.s (km_Le.s (km_Le.s (km_Le.s (km_Le.s (km_Le.n (km_Le.n km_Le.nil))))))) h
  · replace h := h.2 c
    refine g_aload_n 42 gq71 rfl rfl rfl ?_
    refine g_iload_n 43 gq71 rfl rfl rfl ?_
    refine g_virt 61 _ (i := 42) gq71 rfl rfl gq61 hq0 rfl rfl rfl rfl rfl ?_
    refine g_aload_n 1 gq61 rfl rfl rfl ?_
    refine g_getA 4 (q0 + 2) gq61 rfl rfl rfl hq0 rfl rfl (rfR3 hq0) ?_
    refine g_iload_n 5 gq61 rfl rfl rfl ?_
    have c18 := h.1
    replace h := h.2
    refine g_iald 6 gq61 rfl rfl (shR3 hq0) c18 ?_
    refine g_iconst 7 gq61 rfl rfl ?_
    have c22 := h.1
    replace h := h.2
    refine g_ishr 8 gq61 rfl rfl c22 (by omega) ?_
    refine g_iret gq61 rfl rfl ?_
    refine g_istore 48 gq71 rfl rfl rfl ?_
    replace h := h _ rfl
    refine g_iload_n 49 gq71 rfl rfl rfl ?_
    refine g_iload 51 gq71 rfl rfl rfl ?_
    have c30 := h.1
    replace h := h.2
    have c32 := h.1
    replace h := h.2
    refine g_ishr 52 gq71 rfl rfl c30 c32 ?_
    refine g_iconst 53 gq71 rfl rfl ?_
    refine g_iandM 54 1 gq71 rfl rfl (by decide) rfl ?_
    have c37 := h.1
    replace h := h.2
    refine g_if_ne 81 57 gq71 rfl rfl rfl c37 (fun c => ?_) (fun c => ?_)
    · replace h := h.1 c
      refine g_iinc 84 gq71 rfl rfl rfl rfl ?_
      refine g_goto 35 gq71 rfl rfl ?_
      exact kGo.weak (km_Le.s (km_Le.s (km_Le.s (km_Le.s (km_Le.s (km_Le.s (km_Le.n km_Le.nil))))))) h
    · replace h := h.2 c
      refine g_aload_n 58 gq71 rfl rfl rfl ?_
      refine g_getA 61 (q0 + 2) gq71 rfl rfl rfl hq0 rfl rfl (rfR3 hq0) ?_
      refine g_iload_n 62 gq71 rfl rfl rfl ?_
      refine g_aload_n 63 gq71 rfl rfl rfl ?_
      refine g_getA 66 (q0 + 2) gq71 rfl rfl rfl hq0 rfl rfl (rfR3 hq0) ?_
      refine g_iload_n 67 gq71 rfl rfl rfl ?_
      have c51 := h.1
      replace h := h.2
      refine g_iald 68 gq71 rfl rfl (shR3 hq0) c51 ?_
      refine g_iconst 69 gq71 rfl rfl ?_
      refine g_iload_n 70 gq71 rfl rfl rfl ?_
      refine g_iload 72 gq71 rfl rfl rfl ?_
      refine g_static 72 _ (i := 70) gq71 rfl rfl gq72 rfl rfl rfl rfl ?_
      refine kGo.mono h (fun r W2 hr => ?_)
      obtain ⟨y2, rfl, h⟩ := hr
      refine g_imul 76 gq71 rfl rfl ?_
      refine g_isub 77 gq71 rfl rfl ?_
      have c62 := h.1
      replace h := h.2
      refine g_iast 78 gq71 rfl rfl (shR3 hq0) c62 ?_
      refine g_iinc 81 gq71 rfl rfl rfl rfl ?_
      refine g_iinc 84 gq71 rfl rfl rfl rfl ?_
      refine g_goto 35 gq71 rfl rfl ?_
      exact kGo.weak (km_Le.s (km_Le.s (km_Le.s (km_Le.s (km_Le.s (km_Le.s (km_Le.n km_Le.nil))))))) h
set_option maxRecDepth 10000 in
theorem b72_0 {xs : Nat → Int32} {Lx d : Nat} {V : km_V} {Q : Option Value → km_V → Prop} {a0 a1 : Int} 
    (h : (0 ≤ a1 ∧ a1 < 32) ∧ (0 ≤ a0) ∧ (0 ≤ ((1 * ((2 ^ Int.toNat a1 : Nat) : Int)) - 1)) ∧ ((0 ≤ ((Int.toNat a0 &&& Int.toNat ((1 * ((2 ^ Int.toNat a1 : Nat) : Int)) - 1) : Nat) : Int) ∧ ((Int.toNat a0 &&& Int.toNat ((1 * ((2 ^ Int.toNat a1 : Nat) : Int)) - 1) : Nat) : Int) < 256)) ∧ Q (some (kI (kbit ((Int.toNat a0 &&& Int.toNat ((1 * ((2 ^ Int.toNat a1 : Nat) : Int)) - 1) : Nat) : Int)))) V) :
    kGo xs Lx (d + 1) 72 0 [some (kI a0), some (kI a1)] [] V Q := by
  refine g_iload_n 1 gq72 rfl rfl rfl ?_
  refine g_iconst 2 gq72 rfl rfl ?_
  refine g_iload_n 3 gq72 rfl rfl rfl ?_
  have c3 := h.1
  replace h := h.2
  refine g_ishl 4 gq72 rfl rfl c3 ?_
  refine g_iconst 5 gq72 rfl rfl ?_
  refine g_isub 6 gq72 rfl rfl ?_
  have c8 := h.1
  replace h := h.2
  have c10 := h.1
  replace h := h.2
  refine g_iand 7 gq72 rfl rfl c8 c10 ?_
  have c13 := h.1
  replace h := h.2
  refine g_static 218 _ (i := 74) gq72 rfl rfl gq218 rfl rfl rfl rfl ?_
  refine sp_bit c13 ?_
  exact g_iret gq72 rfl rfl h
set_option maxRecDepth 10000 in
theorem b73_0 {xs : Nat → Int32} {Lx d : Nat} {V : km_V} {Q : Option Value → km_V → Prop} {t : Nat} (ht : km_sh[t]? = some (5, 5)) {r1 : Nat} (hr1 : km_sh[r1]? = some (2, 11))
    (h : kGo xs Lx (d + 3) 73 7 [some (.ref t), some (.ref r1), some (kI (V t 1)), some (kI 0), none] [] V Q) :
    kGo xs Lx (d + 3) 73 0 [some (.ref t), some (.ref r1), none, none, none] [] V Q := by
  refine g_aload_n 1 gq73 rfl rfl rfl ?_
  refine g_getI 4 gq73 rfl rfl rfl ht rfl rfl ?_
  refine g_istore_n 5 gq73 rfl rfl rfl ?_
  refine g_iconst 6 gq73 rfl rfl ?_
  refine g_istore_n 7 gq73 rfl rfl rfl ?_
  exact kGo.weak (km_Le.s (km_Le.s (km_Le.s (km_Le.s (km_Le.n km_Le.nil))))) h
set_option maxRecDepth 10000 in
theorem b73_7 {xs : Nat → Int32} {Lx d : Nat} {V : km_V} {Q : Option Value → km_V → Prop} {x2 x3 : Int} {q0 : Nat} (hq0 : km_sh[q0]? = some (5, 5)) {q1 : Nat} (hq1 : km_sh[q1]? = some (2, 11))
    (h : (kR x3) ∧ ((8 ≤ x3 →
    Q (some (kI (x2 - (V q0 1)))) V) ∧
   (x3 < 8 →
    (kR (V q0 1)) ∧ (((V q0 1) ≤ 0 →
      Q (some (kI (x2 - (V q0 1)))) V) ∧
     (0 < (V q0 1) →
      kCV xs Lx (d + 2) 21 3 [.ref q1, .ref q0] V (fun W1 =>
      kCI xs Lx (d + 2) 31 3 [.ref q1] W1 (fun y2 W2 =>
      (kR y2) ∧ ((y2 ≠ (-1) →
        kCI xs Lx (d + 2) 28 4 [.ref q1, kI y2] W2 (fun y3 W3 =>
        kCV xs Lx (d + 2) 71 7 [.ref q0, kI y3] W3 (fun W4 =>
        kGo xs Lx (d + 3) 73 7 [some (.ref q0), some (.ref q1), some (kI x2), some (kI (x3 + 1)), none] [] W4 Q))) ∧
       (y2 = (-1) →
        Q (some (kI (x2 - (W2 q0 1)))) W2))))))))) :
    kGo xs Lx (d + 3) 73 7 [some (.ref q0), some (.ref q1), some (kI x2), some (kI x3), none] [] V Q := by
  refine g_iload_n 8 gq73 rfl rfl rfl ?_
  refine g_bipush 10 gq73 rfl rfl rfl ?_
  have c2 := h.1
  replace h := h.2
  refine g_icmp_ge 56 13 gq73 rfl rfl rfl c2 (by omega) (fun c => ?_) (fun c => ?_)
  · replace h := h.1 c
    refine g_iload_n 57 gq73 rfl rfl rfl ?_
    refine g_aload_n 58 gq73 rfl rfl rfl ?_
    refine g_getI 61 gq73 rfl rfl rfl hq0 rfl rfl ?_
    refine g_isub 62 gq73 rfl rfl ?_
    exact g_iret gq73 rfl rfl h
  · replace h := h.2 c
    refine g_aload_n 14 gq73 rfl rfl rfl ?_
    refine g_getI 17 gq73 rfl rfl rfl hq0 rfl rfl ?_
    have c14 := h.1
    replace h := h.2
    refine g_if_le 56 20 gq73 rfl rfl rfl c14 (fun c => ?_) (fun c => ?_)
    · replace h := h.1 c
      refine g_iload_n 57 gq73 rfl rfl rfl ?_
      refine g_aload_n 58 gq73 rfl rfl rfl ?_
      refine g_getI 61 gq73 rfl rfl rfl hq0 rfl rfl ?_
      refine g_isub 62 gq73 rfl rfl ?_
      exact g_iret gq73 rfl rfl h
    · replace h := h.2 c
      refine g_aload_n 21 gq73 rfl rfl rfl ?_
      refine g_aload_n 22 gq73 rfl rfl rfl ?_
      refine g_virt 21 _ (i := 79) gq73 rfl rfl gq21 hq1 rfl rfl rfl rfl rfl ?_
      refine kGo.mono h (fun r W1 hr => ?_)
      obtain ⟨rfl, h⟩ := hr
      refine g_aload_n 26 gq73 rfl rfl rfl ?_
      refine g_virt 31 _ (i := 83) gq73 rfl rfl gq31 hq1 rfl rfl rfl rfl rfl ?_
      refine kGo.mono h (fun r W2 hr => ?_)
      obtain ⟨y2, rfl, h⟩ := hr
      refine g_istore 31 gq73 rfl rfl rfl ?_
      refine g_iload 33 gq73 rfl rfl rfl ?_
      refine g_iconst 34 gq73 rfl rfl ?_
      have c36 := h.1
      replace h := h.2
      refine g_icmp_ne 40 37 gq73 rfl rfl rfl c36 (by omega) (fun c => ?_) (fun c => ?_)
      · replace h := h.1 c
        refine g_aload_n 41 gq73 rfl rfl rfl ?_
        refine g_aload_n 42 gq73 rfl rfl rfl ?_
        refine g_iload 44 gq73 rfl rfl rfl ?_
        refine g_virt 28 _ (i := 86) gq73 rfl rfl gq28 hq1 rfl rfl rfl rfl rfl ?_
        refine kGo.mono h (fun r W3 hr => ?_)
        obtain ⟨y3, rfl, h⟩ := hr
        refine g_virt 71 _ (i := 89) gq73 rfl rfl gq71 hq0 rfl rfl rfl rfl rfl ?_
        refine kGo.mono h (fun r W4 hr => ?_)
        obtain ⟨rfl, h⟩ := hr
        refine g_iinc 53 gq73 rfl rfl rfl rfl ?_
        refine g_goto 7 gq73 rfl rfl ?_
        exact kGo.weak (km_Le.s (km_Le.s (km_Le.s (km_Le.s (km_Le.n km_Le.nil))))) h
      · replace h := h.2 c
        refine g_goto 56 gq73 rfl rfl ?_
        refine g_iload_n 57 gq73 rfl rfl rfl ?_
        refine g_aload_n 58 gq73 rfl rfl rfl ?_
        refine g_getI 61 gq73 rfl rfl rfl hq0 rfl rfl ?_
        refine g_isub 62 gq73 rfl rfl ?_
        exact g_iret gq73 rfl rfl h
set_option maxRecDepth 10000 in
theorem b74_0 {xs : Nat → Int32} {Lx d : Nat} {V : km_V} {Q : Option Value → km_V → Prop} {t : Nat} (ht : km_sh[t]? = some (5, 5)) {r1 : Nat} (hr1 : km_sh[r1]? = some (5, 5))
    (h : (kR (V t 0)) ∧ (((V t 0) ≤ 0 →
    Q (some (kI 0)) V) ∧
   (0 < (V t 0) →
    (kR (V r1 0)) ∧ (((V r1 0) ≤ 0 →
      Q (some (kI 0)) V) ∧
     (0 < (V r1 0) →
      (kR (((V t 0) + (V r1 0)) - 1)) ∧ ((4 < (((V t 0) + (V r1 0)) - 1) →
        Q (some (kI 0)) V) ∧
       ((((V t 0) + (V r1 0)) - 1) ≤ 4 →
        (kR ((V t 1) + (V r1 1))) ∧ ((8 < ((V t 1) + (V r1 1)) →
          Q (some (kI 0)) V) ∧
         (((V t 1) + (V r1 1)) ≤ 8 →
          Q (some (kI 1)) V))))))))) :
    kGo xs Lx (d + 0) 74 0 [some (.ref t), some (.ref r1)] [] V Q := by
  refine g_aload_n 1 gq74 rfl rfl rfl ?_
  refine g_getI 4 gq74 rfl rfl rfl ht rfl rfl ?_
  have c2 := h.1
  replace h := h.2
  refine g_if_le 47 7 gq74 rfl rfl rfl c2 (fun c => ?_) (fun c => ?_)
  · replace h := h.1 c
    refine g_iconst 48 gq74 rfl rfl ?_
    exact g_zret gq74 rfl rfl (by omega) h
  · replace h := h.2 c
    refine g_aload_n 8 gq74 rfl rfl rfl ?_
    refine g_getI 11 gq74 rfl rfl rfl hr1 rfl rfl ?_
    have c11 := h.1
    replace h := h.2
    refine g_if_le 47 14 gq74 rfl rfl rfl c11 (fun c => ?_) (fun c => ?_)
    · replace h := h.1 c
      refine g_iconst 48 gq74 rfl rfl ?_
      exact g_zret gq74 rfl rfl (by omega) h
    · replace h := h.2 c
      refine g_aload_n 15 gq74 rfl rfl rfl ?_
      refine g_getI 18 gq74 rfl rfl rfl ht rfl rfl ?_
      refine g_aload_n 19 gq74 rfl rfl rfl ?_
      refine g_getI 22 gq74 rfl rfl rfl hr1 rfl rfl ?_
      refine g_iadd 23 gq74 rfl rfl ?_
      refine g_iconst 24 gq74 rfl rfl ?_
      refine g_isub 25 gq74 rfl rfl ?_
      refine g_iconst 26 gq74 rfl rfl ?_
      have c26 := h.1
      replace h := h.2
      refine g_icmp_gt 47 29 gq74 rfl rfl rfl c26 (by omega) (fun c => ?_) (fun c => ?_)
      · replace h := h.1 c
        refine g_iconst 48 gq74 rfl rfl ?_
        exact g_zret gq74 rfl rfl (by omega) h
      · replace h := h.2 c
        refine g_aload_n 30 gq74 rfl rfl rfl ?_
        refine g_getI 33 gq74 rfl rfl rfl ht rfl rfl ?_
        refine g_aload_n 34 gq74 rfl rfl rfl ?_
        refine g_getI 37 gq74 rfl rfl rfl hr1 rfl rfl ?_
        refine g_iadd 38 gq74 rfl rfl ?_
        refine g_bipush 40 gq74 rfl rfl rfl ?_
        have c39 := h.1
        replace h := h.2
        refine g_icmp_gt 47 43 gq74 rfl rfl rfl c39 (by omega) (fun c => ?_) (fun c => ?_)
        · replace h := h.1 c
          refine g_iconst 48 gq74 rfl rfl ?_
          exact g_zret gq74 rfl rfl (by omega) h
        · replace h := h.2 c
          refine g_iconst 44 gq74 rfl rfl ?_
          refine g_goto 48 gq74 rfl rfl ?_
          exact g_zret gq74 rfl rfl (by omega) h
set_option maxRecDepth 10000 in
theorem b75_0 {xs : Nat → Int32} {Lx d : Nat} {V : km_V} {Q : Option Value → km_V → Prop} {t : Nat} (ht : km_sh[t]? = some (5, 5)) {r1 : Nat} (hr1 : km_sh[r1]? = some (5, 5))
    (h : (∀ z1 : Int, z1 = (V (t + 1) (Int.toNat 1)) → (∀ z2 : Int, z2 = (V (r1 + 1) (Int.toNat 1)) → (∀ z3 : Int, z3 = ((2 * (V t 1)) - 1) → kGo xs Lx (d + 1) 75 25 [some (.ref t), some (.ref r1), some (kI (2 * (V t 1))), some (kI z1), some (kI z2), some (kI z3)] [] V Q)))) :
    kGo xs Lx (d + 1) 75 0 [some (.ref t), some (.ref r1), none, none, none, none] [] V Q := by
  refine g_aload_n 1 gq75 rfl rfl rfl ?_
  refine g_virt 59 _ (i := 34) gq75 rfl rfl gq59 ht rfl rfl rfl rfl rfl ?_
  refine g_iconst 1 gq59 rfl rfl ?_
  refine g_aload_n 2 gq59 rfl rfl rfl ?_
  refine g_getI 5 gq59 rfl rfl rfl ht rfl rfl ?_
  refine g_imul 6 gq59 rfl rfl ?_
  refine g_iret gq59 rfl rfl ?_
  refine g_istore_n 5 gq75 rfl rfl rfl ?_
  refine g_aload_n 6 gq75 rfl rfl rfl ?_
  refine g_getA 9 (t + 1) gq75 rfl rfl rfl ht rfl rfl (rfR2 ht) ?_
  refine g_iconst 10 gq75 rfl rfl ?_
  refine g_iald 11 gq75 rfl rfl (shR2 ht) (by omega) ?_
  refine g_istore_n 12 gq75 rfl rfl rfl ?_
  replace h := h _ rfl
  refine g_aload_n 13 gq75 rfl rfl rfl ?_
  refine g_getA 16 (r1 + 1) gq75 rfl rfl rfl hr1 rfl rfl (rfR2 hr1) ?_
  refine g_iconst 17 gq75 rfl rfl ?_
  refine g_iald 18 gq75 rfl rfl (shR2 hr1) (by omega) ?_
  refine g_istore 20 gq75 rfl rfl rfl ?_
  replace h := h _ rfl
  refine g_iload_n 21 gq75 rfl rfl rfl ?_
  refine g_iconst 22 gq75 rfl rfl ?_
  refine g_isub 23 gq75 rfl rfl ?_
  refine g_istore 25 gq75 rfl rfl rfl ?_
  replace h := h _ rfl
  exact kGo.weak (km_Le.s (km_Le.s (km_Le.s (km_Le.s (km_Le.s (km_Le.s km_Le.nil)))))) h
set_option maxRecDepth 10000 in
theorem b75_25 {xs : Nat → Int32} {Lx d : Nat} {V : km_V} {Q : Option Value → km_V → Prop} {x2 x3 x4 x5 : Int} {q0 : Nat} (hq0 : km_sh[q0]? = some (5, 5)) {q1 : Nat} (hq1 : km_sh[q1]? = some (5, 5))
    (h : (kR x5) ∧ (kR x3) ∧ ((x5 < x3 →
    kGo xs Lx (d + 1) 75 57 [some (.ref q0), some (.ref q1), some (kI x2), some (kI x3), some (kI x4), some (kI 0)] [] V Q) ∧
   (x3 ≤ x5 →
    (0 ≤ x5 ∧ x5 < (16 : Nat)) ∧ (0 ≤ (x5 + x4) ∧ (x5 + x4) < (16 : Nat)) ∧ kGo xs Lx (d + 1) 75 25 [some (.ref q0), some (.ref q1), some (kI x2), some (kI x3), some (kI x4), some (kI (x5 + (-1)))] [] (up V (q0 + 2) (Int.toNat (x5 + x4)) (V (q0 + 2) (Int.toNat x5))) Q))) :
    kGo xs Lx (d + 1) 75 25 [some (.ref q0), some (.ref q1), some (kI x2), some (kI x3), some (kI x4), some (kI x5)] [] V Q := by
  refine g_iload 27 gq75 rfl rfl rfl ?_
  refine g_iload_n 28 gq75 rfl rfl rfl ?_
  have c2 := h.1
  replace h := h.2
  have c4 := h.1
  replace h := h.2
  refine g_icmp_lt 54 31 gq75 rfl rfl rfl c2 c4 (fun c => ?_) (fun c => ?_)
  · replace h := h.1 c
    refine g_iconst 55 gq75 rfl rfl ?_
    refine g_istore 57 gq75 rfl rfl rfl ?_
    exact kGo.weak (km_Le.s (km_Le.s (km_Le.s (km_Le.s (km_Le.s (km_Le.s km_Le.nil)))))) h
  · replace h := h.2 c
    refine g_aload_n 32 gq75 rfl rfl rfl ?_
    refine g_getA 35 (q0 + 2) gq75 rfl rfl rfl hq0 rfl rfl (rfR3 hq0) ?_
    refine g_iload 37 gq75 rfl rfl rfl ?_
    refine g_iload 39 gq75 rfl rfl rfl ?_
    refine g_iadd 40 gq75 rfl rfl ?_
    refine g_aload_n 41 gq75 rfl rfl rfl ?_
    refine g_getA 44 (q0 + 2) gq75 rfl rfl rfl hq0 rfl rfl (rfR3 hq0) ?_
    refine g_iload 46 gq75 rfl rfl rfl ?_
    have c20 := h.1
    replace h := h.2
    refine g_iald 47 gq75 rfl rfl (shR3 hq0) c20 ?_
    have c23 := h.1
    replace h := h.2
    refine g_iast 48 gq75 rfl rfl (shR3 hq0) c23 ?_
    refine g_iinc 51 gq75 rfl rfl rfl rfl ?_
    refine g_goto 25 gq75 rfl rfl ?_
    exact kGo.weak (km_Le.s (km_Le.s (km_Le.s (km_Le.s (km_Le.s (km_Le.s km_Le.nil)))))) h
set_option maxRecDepth 10000 in
theorem b75_57 {xs : Nat → Int32} {Lx d : Nat} {V : km_V} {Q : Option Value → km_V → Prop} {x2 x3 x4 x5 : Int} {q0 : Nat} (hq0 : km_sh[q0]? = some (5, 5)) {q1 : Nat} (hq1 : km_sh[q1]? = some (5, 5))
    (h : (kR x5) ∧ (kR (2 * (V q1 1))) ∧ (((2 * (V q1 1)) ≤ x5 →
    kGo xs Lx (d + 1) 75 112 [some (.ref q0), some (.ref q1), some (kI x2), none, some (kI x4), some (kI 1)] [] V Q) ∧
   (x5 < (2 * (V q1 1)) →
    (kR x4) ∧ ((x4 ≤ x5 →
      (0 ≤ x5 ∧ x5 < (16 : Nat)) ∧ (0 ≤ (x2 + x5) ∧ (x2 + x5) < (16 : Nat)) ∧ kGo xs Lx (d + 1) 75 57 [some (.ref q0), some (.ref q1), some (kI x2), some (kI x3), some (kI x4), some (kI (x5 + 1))] [] (up V (q0 + 2) (Int.toNat (x2 + x5)) ((V (q1 + 2) (Int.toNat x5)) + (2 * (V q0 1)))) Q) ∧
     (x5 < x4 →
      (0 ≤ x5 ∧ x5 < (16 : Nat)) ∧ (0 ≤ (x3 + x5) ∧ (x3 + x5) < (16 : Nat)) ∧ kGo xs Lx (d + 1) 75 57 [some (.ref q0), some (.ref q1), some (kI x2), some (kI x3), some (kI x4), some (kI (x5 + 1))] [] (up V (q0 + 2) (Int.toNat (x3 + x5)) ((V (q1 + 2) (Int.toNat x5)) + (2 * (V q0 1)))) Q))))) :
    kGo xs Lx (d + 1) 75 57 [some (.ref q0), some (.ref q1), some (kI x2), some (kI x3), some (kI x4), some (kI x5)] [] V Q := by
  refine g_iload 59 gq75 rfl rfl rfl ?_
  refine g_aload_n 60 gq75 rfl rfl rfl ?_
  refine g_virt 59 _ (i := 34) gq75 rfl rfl gq59 hq1 rfl rfl rfl rfl rfl ?_
  refine g_iconst 1 gq59 rfl rfl ?_
  refine g_aload_n 2 gq59 rfl rfl rfl ?_
  refine g_getI 5 gq59 rfl rfl rfl hq1 rfl rfl ?_
  refine g_imul 6 gq59 rfl rfl ?_
  refine g_iret gq59 rfl rfl ?_
  have c8 := h.1
  replace h := h.2
  have c10 := h.1
  replace h := h.2
  refine g_icmp_ge 109 66 gq75 rfl rfl rfl c8 c10 (fun c => ?_) (fun c => ?_)
  · replace h := h.1 c
    refine g_iconst 110 gq75 rfl rfl ?_
    refine g_istore 112 gq75 rfl rfl rfl ?_
    exact kGo.weak (km_Le.s (km_Le.s (km_Le.s (km_Le.n (km_Le.s (km_Le.s km_Le.nil)))))) h
  · replace h := h.2 c
    refine g_aload_n 67 gq75 rfl rfl rfl ?_
    refine g_getA 70 (q0 + 2) gq75 rfl rfl rfl hq0 rfl rfl (rfR3 hq0) ?_
    refine g_iload 72 gq75 rfl rfl rfl ?_
    refine g_iload 74 gq75 rfl rfl rfl ?_
    have c22 := h.1
    replace h := h.2
    refine g_icmp_ge 84 77 gq75 rfl rfl rfl c8 c22 (fun c => ?_) (fun c => ?_)
    · replace h := h.1 c
      refine g_iload_n 85 gq75 rfl rfl rfl ?_
      refine g_iload 87 gq75 rfl rfl rfl ?_
      refine g_iadd 88 gq75 rfl rfl ?_
      refine g_aload_n 89 gq75 rfl rfl rfl ?_
      refine g_getA 92 (q1 + 2) gq75 rfl rfl rfl hq1 rfl rfl (rfR3 hq1) ?_
      refine g_iload 94 gq75 rfl rfl rfl ?_
      have c32 := h.1
      replace h := h.2
      refine g_iald 95 gq75 rfl rfl (shR3 hq1) c32 ?_
      refine g_iconst 96 gq75 rfl rfl ?_
      refine g_aload_n 97 gq75 rfl rfl rfl ?_
      refine g_getI 100 gq75 rfl rfl rfl hq0 rfl rfl ?_
      refine g_imul 101 gq75 rfl rfl ?_
      refine g_iadd 102 gq75 rfl rfl ?_
      have c40 := h.1
      replace h := h.2
      refine g_iast 103 gq75 rfl rfl (shR3 hq0) c40 ?_
      refine g_iinc 106 gq75 rfl rfl rfl rfl ?_
      refine g_goto 57 gq75 rfl rfl ?_
      exact kGo.weak (km_Le.s (km_Le.s (km_Le.s (km_Le.s (km_Le.s (km_Le.s km_Le.nil)))))) h
    · replace h := h.2 c
      refine g_iload_n 78 gq75 rfl rfl rfl ?_
      refine g_iload 80 gq75 rfl rfl rfl ?_
      refine g_iadd 81 gq75 rfl rfl ?_
      refine g_goto 88 gq75 rfl rfl ?_
      refine g_aload_n 89 gq75 rfl rfl rfl ?_
      refine g_getA 92 (q1 + 2) gq75 rfl rfl rfl hq1 rfl rfl (rfR3 hq1) ?_
      refine g_iload 94 gq75 rfl rfl rfl ?_
      have c54 := h.1
      replace h := h.2
      refine g_iald 95 gq75 rfl rfl (shR3 hq1) c54 ?_
      refine g_iconst 96 gq75 rfl rfl ?_
      refine g_aload_n 97 gq75 rfl rfl rfl ?_
      refine g_getI 100 gq75 rfl rfl rfl hq0 rfl rfl ?_
      refine g_imul 101 gq75 rfl rfl ?_
      refine g_iadd 102 gq75 rfl rfl ?_
      have c62 := h.1
      replace h := h.2
      refine g_iast 103 gq75 rfl rfl (shR3 hq0) c62 ?_
      refine g_iinc 106 gq75 rfl rfl rfl rfl ?_
      refine g_goto 57 gq75 rfl rfl ?_
      exact kGo.weak (km_Le.s (km_Le.s (km_Le.s (km_Le.s (km_Le.s (km_Le.s km_Le.nil)))))) h
set_option maxRecDepth 10000 in
theorem b75_112 {xs : Nat → Int32} {Lx d : Nat} {V : km_V} {Q : Option Value → km_V → Prop} {x2 x4 x5 : Int} {q0 : Nat} (hq0 : km_sh[q0]? = some (5, 5)) {q1 : Nat} (hq1 : km_sh[q1]? = some (5, 5))
    (h : (kR x5) ∧ (kR (V q0 0)) ∧ (((V q0 0) < x5 →
    kGo xs Lx (d + 1) 75 142 [some (.ref q0), some (.ref q1), some (kI x2), none, none, some (kI 1)] [] V Q) ∧
   (x5 ≤ (V q0 0) →
    (0 ≤ x5 ∧ x5 < (5 : Nat)) ∧ kGo xs Lx (d + 1) 75 112 [some (.ref q0), some (.ref q1), some (kI x2), none, some (kI x4), some (kI (x5 + 1))] [] (up V (q0 + 1) (Int.toNat x5) ((V (q0 + 1) (Int.toNat x5)) + x4)) Q))) :
    kGo xs Lx (d + 1) 75 112 [some (.ref q0), some (.ref q1), some (kI x2), none, some (kI x4), some (kI x5)] [] V Q := by
  refine g_iload 114 gq75 rfl rfl rfl ?_
  refine g_aload_n 115 gq75 rfl rfl rfl ?_
  refine g_getI 118 gq75 rfl rfl rfl hq0 rfl rfl ?_
  have c3 := h.1
  replace h := h.2
  have c5 := h.1
  replace h := h.2
  refine g_icmp_gt 139 121 gq75 rfl rfl rfl c3 c5 (fun c => ?_) (fun c => ?_)
  · replace h := h.1 c
    refine g_iconst 140 gq75 rfl rfl ?_
    refine g_istore 142 gq75 rfl rfl rfl ?_
    exact kGo.weak (km_Le.s (km_Le.s (km_Le.s (km_Le.n (km_Le.n (km_Le.s km_Le.nil)))))) h
  · replace h := h.2 c
    refine g_aload_n 122 gq75 rfl rfl rfl ?_
    refine g_getA 125 (q0 + 1) gq75 rfl rfl rfl hq0 rfl rfl (rfR2 hq0) ?_
    refine g_iload 127 gq75 rfl rfl rfl ?_
    refine g_dup2 128 gq75 rfl rfl rfl rfl ?_
    have c17 := h.1
    replace h := h.2
    refine g_iald 129 gq75 rfl rfl (shR2 hq0) c17 ?_
    refine g_iload 131 gq75 rfl rfl rfl ?_
    refine g_iadd 132 gq75 rfl rfl ?_
    refine g_iast 133 gq75 rfl rfl (shR2 hq0) c17 ?_
    refine g_iinc 136 gq75 rfl rfl rfl rfl ?_
    refine g_goto 112 gq75 rfl rfl ?_
    exact kGo.weak (km_Le.s (km_Le.s (km_Le.s (km_Le.n (km_Le.s (km_Le.s km_Le.nil)))))) h
set_option maxRecDepth 10000 in
theorem b75_142 {xs : Nat → Int32} {Lx d : Nat} {V : km_V} {Q : Option Value → km_V → Prop} {x2 x5 : Int} {q0 : Nat} (hq0 : km_sh[q0]? = some (5, 5)) {q1 : Nat} (hq1 : km_sh[q1]? = some (5, 5))
    (h : (kR x5) ∧ (kR (V q1 0)) ∧ (((V q1 0) ≤ x5 →
    kGo xs Lx (d + 1) 75 183 [some (.ref q0), some (.ref q1), none, none, none, some (kI 0)] [] V Q) ∧
   (x5 < (V q1 0) →
    (0 ≤ (x5 + 1) ∧ (x5 + 1) < (5 : Nat)) ∧ (0 ≤ ((V q0 0) + x5) ∧ ((V q0 0) + x5) < (5 : Nat)) ∧ kGo xs Lx (d + 1) 75 142 [some (.ref q0), some (.ref q1), some (kI x2), none, none, some (kI (x5 + 1))] [] (up V (q0 + 1) (Int.toNat ((V q0 0) + x5)) (x2 + (V (q1 + 1) (Int.toNat (x5 + 1))))) Q))) :
    kGo xs Lx (d + 1) 75 142 [some (.ref q0), some (.ref q1), some (kI x2), none, none, some (kI x5)] [] V Q := by
  refine g_iload 144 gq75 rfl rfl rfl ?_
  refine g_aload_n 145 gq75 rfl rfl rfl ?_
  refine g_getI 148 gq75 rfl rfl rfl hq1 rfl rfl ?_
  have c3 := h.1
  replace h := h.2
  have c5 := h.1
  replace h := h.2
  refine g_icmp_ge 180 151 gq75 rfl rfl rfl c3 c5 (fun c => ?_) (fun c => ?_)
  · replace h := h.1 c
    refine g_iconst 181 gq75 rfl rfl ?_
    refine g_istore 183 gq75 rfl rfl rfl ?_
    exact kGo.weak (km_Le.s (km_Le.s (km_Le.n (km_Le.n (km_Le.n (km_Le.s km_Le.nil)))))) h
  · replace h := h.2 c
    refine g_aload_n 152 gq75 rfl rfl rfl ?_
    refine g_getA 155 (q0 + 1) gq75 rfl rfl rfl hq0 rfl rfl (rfR2 hq0) ?_
    refine g_aload_n 156 gq75 rfl rfl rfl ?_
    refine g_getI 159 gq75 rfl rfl rfl hq0 rfl rfl ?_
    refine g_iload 161 gq75 rfl rfl rfl ?_
    refine g_iadd 162 gq75 rfl rfl ?_
    refine g_iload_n 163 gq75 rfl rfl rfl ?_
    refine g_aload_n 164 gq75 rfl rfl rfl ?_
    refine g_getA 167 (q1 + 1) gq75 rfl rfl rfl hq1 rfl rfl (rfR2 hq1) ?_
    refine g_iload 169 gq75 rfl rfl rfl ?_
    refine g_iconst 170 gq75 rfl rfl ?_
    refine g_iadd 171 gq75 rfl rfl ?_
    have c25 := h.1
    replace h := h.2
    refine g_iald 172 gq75 rfl rfl (shR2 hq1) c25 ?_
    refine g_iadd 173 gq75 rfl rfl ?_
    have c29 := h.1
    replace h := h.2
    refine g_iast 174 gq75 rfl rfl (shR2 hq0) c29 ?_
    refine g_iinc 177 gq75 rfl rfl rfl rfl ?_
    refine g_goto 142 gq75 rfl rfl ?_
    exact kGo.weak (km_Le.s (km_Le.s (km_Le.s (km_Le.n (km_Le.n (km_Le.s km_Le.nil)))))) h
set_option maxRecDepth 10000 in
theorem b75_183 {xs : Nat → Int32} {Lx d : Nat} {V : km_V} {Q : Option Value → km_V → Prop} {x5 : Int} {q0 : Nat} (hq0 : km_sh[q0]? = some (5, 5)) {q1 : Nat} (hq1 : km_sh[q1]? = some (5, 5))
    (h : (kR x5) ∧ (kR (V q1 1)) ∧ (((V q1 1) ≤ x5 →
    Q none (up (up V q0 0 ((V q0 0) + ((V q1 0) - 1))) q0 1 (((up V q0 0 ((V q0 0) + ((V q1 0) - 1))) q0 1) + ((up V q0 0 ((V q0 0) + ((V q1 0) - 1))) q1 1)))) ∧
   (x5 < (V q1 1) →
    (0 ≤ x5 ∧ x5 < (8 : Nat)) ∧ (0 ≤ ((V q0 1) + x5) ∧ ((V q0 1) + x5) < (8 : Nat)) ∧ kGo xs Lx (d + 1) 75 183 [some (.ref q0), some (.ref q1), none, none, none, some (kI (x5 + 1))] [] (up V (q0 + 3) (Int.toNat ((V q0 1) + x5)) (V (q1 + 3) (Int.toNat x5))) Q))) :
    kGo xs Lx (d + 1) 75 183 [some (.ref q0), some (.ref q1), none, none, none, some (kI x5)] [] V Q := by
  refine g_iload 185 gq75 rfl rfl rfl ?_
  refine g_aload_n 186 gq75 rfl rfl rfl ?_
  refine g_getI 189 gq75 rfl rfl rfl hq1 rfl rfl ?_
  have c3 := h.1
  replace h := h.2
  have c5 := h.1
  replace h := h.2
  refine g_icmp_ge 217 192 gq75 rfl rfl rfl c3 c5 (fun c => ?_) (fun c => ?_)
  · replace h := h.1 c
    refine g_aload_n 218 gq75 rfl rfl rfl ?_
    refine g_dup 219 gq75 rfl rfl rfl ?_
    refine g_getI 222 gq75 rfl rfl rfl hq0 rfl rfl ?_
    refine g_aload_n 223 gq75 rfl rfl rfl ?_
    refine g_getI 226 gq75 rfl rfl rfl hq1 rfl rfl ?_
    refine g_iconst 227 gq75 rfl rfl ?_
    refine g_isub 228 gq75 rfl rfl ?_
    refine g_iadd 229 gq75 rfl rfl ?_
    refine g_putI 232 gq75 rfl rfl rfl hq0 rfl rfl rfl rfl ?_
    refine g_aload_n 233 gq75 rfl rfl rfl ?_
    refine g_dup 234 gq75 rfl rfl rfl ?_
    refine g_getI 237 gq75 rfl rfl rfl hq0 rfl rfl ?_
    refine g_aload_n 238 gq75 rfl rfl rfl ?_
    refine g_getI 241 gq75 rfl rfl rfl hq1 rfl rfl ?_
    refine g_iadd 242 gq75 rfl rfl ?_
    refine g_putI 245 gq75 rfl rfl rfl hq0 rfl rfl rfl rfl ?_
    exact g_vret gq75 rfl rfl h
  · replace h := h.2 c
    refine g_aload_n 193 gq75 rfl rfl rfl ?_
    refine g_getA 196 (q0 + 3) gq75 rfl rfl rfl hq0 rfl rfl (rfR4 hq0) ?_
    refine g_aload_n 197 gq75 rfl rfl rfl ?_
    refine g_getI 200 gq75 rfl rfl rfl hq0 rfl rfl ?_
    refine g_iload 202 gq75 rfl rfl rfl ?_
    refine g_iadd 203 gq75 rfl rfl ?_
    refine g_aload_n 204 gq75 rfl rfl rfl ?_
    refine g_getA 207 (q1 + 3) gq75 rfl rfl rfl hq1 rfl rfl (rfR4 hq1) ?_
    refine g_iload 209 gq75 rfl rfl rfl ?_
    have c36 := h.1
    replace h := h.2
    refine g_iald 210 gq75 rfl rfl (shR4 hq1) c36 ?_
    have c39 := h.1
    replace h := h.2
    refine g_iast 211 gq75 rfl rfl (shR4 hq0) c39 ?_
    refine g_iinc 214 gq75 rfl rfl rfl rfl ?_
    refine g_goto 183 gq75 rfl rfl ?_
    exact kGo.weak (km_Le.s (km_Le.s (km_Le.n (km_Le.n (km_Le.n (km_Le.s km_Le.nil)))))) h

set_option maxRecDepth 10000 in
theorem b171_0 {xs : Nat → Int32} {Lx d : Nat} {V : km_V} {Q : Option Value → km_V → Prop} {r1 : Nat} (hr1 : km_sh[r1]? = some (11, 78))
    (h : (∀ z1 : Int, z1 = (V r1 (Int.toNat 1)) → kGo xs Lx (d + 4) 171 6 [some (.ref 299), some (.ref r1), some (kI z1), some (kI 1), none] [] V Q)) :
    kGo xs Lx (d + 4) 171 0 [some (.ref 299), some (.ref r1), none, none, none] [] V Q := by
  refine g_aload_n 1 gq171 rfl rfl rfl ?_
  refine g_iconst 2 gq171 rfl rfl ?_
  refine g_iald 3 gq171 rfl rfl hr1 (by omega) ?_
  refine g_istore_n 4 gq171 rfl rfl rfl ?_
  replace h := h _ rfl
  refine g_iconst 5 gq171 rfl rfl ?_
  refine g_istore_n 6 gq171 rfl rfl rfl ?_
  exact kGo.weak (km_Le.s (km_Le.s (km_Le.s (km_Le.s (km_Le.n km_Le.nil))))) h
set_option maxRecDepth 10000 in
theorem b171_6 {xs : Nat → Int32} {Lx d : Nat} {V : km_V} {Q : Option Value → km_V → Prop} {x2 x3 : Int} {q1 : Nat} (hq1 : km_sh[q1]? = some (11, 78))
    (h : (kR x3) ∧ ((x3 = 0 →
    Q (some (kI (x2 - (V q1 (Int.toNat 1))))) V) ∧
   (x3 ≠ 0 →
    kCI xs Lx (d + 3) 168 4 [.ref 299, .ref q1, kI 1] V (fun y1 W1 =>
    (kR y1) ∧ ((0 ≤ y1 →
      kCV xs Lx (d + 3) 170 5 [.ref 299, .ref q1, kI y1] W1 (fun W2 =>
      kGo xs Lx (d + 4) 171 6 [some (.ref 299), some (.ref q1), some (kI x2), some (kI 1), none] [] W2 Q)) ∧
     (y1 < 0 →
      kCI xs Lx (d + 3) 168 4 [.ref 299, .ref q1, kI 2] W1 (fun y3 W3 =>
      (kR y3) ∧ ((y3 < 0 →
        kGo xs Lx (d + 4) 171 6 [some (.ref 299), some (.ref q1), some (kI x2), some (kI 0), none] [] W3 Q) ∧
       (0 ≤ y3 →
        kCV xs Lx (d + 3) 170 5 [.ref 299, .ref q1, kI y3] W3 (fun W4 =>
        kGo xs Lx (d + 4) 171 6 [some (.ref 299), some (.ref q1), some (kI x2), some (kI 1), none] [] W4 Q)))))))))) :
    kGo xs Lx (d + 4) 171 6 [some (.ref 299), some (.ref q1), some (kI x2), some (kI x3), none] [] V Q := by
  refine g_iload_n 7 gq171 rfl rfl rfl ?_
  have c1 := h.1
  replace h := h.2
  refine g_if_eq 56 10 gq171 rfl rfl rfl c1 (fun c => ?_) (fun c => ?_)
  · replace h := h.1 c
    refine g_iload_n 57 gq171 rfl rfl rfl ?_
    refine g_aload_n 58 gq171 rfl rfl rfl ?_
    refine g_iconst 59 gq171 rfl rfl ?_
    refine g_iald 60 gq171 rfl rfl hq1 (by omega) ?_
    refine g_isub 61 gq171 rfl rfl ?_
    exact g_iret gq171 rfl rfl h
  · replace h := h.2 c
    refine g_aload_n 11 gq171 rfl rfl rfl ?_
    refine g_aload_n 12 gq171 rfl rfl rfl ?_
    refine g_iconst 13 gq171 rfl rfl ?_
    refine g_virt 168 _ (i := 297) gq171 rfl rfl gq168 rfl rfl rfl rfl rfl rfl ?_
    refine kGo.mono h (fun r W1 hr => ?_)
    obtain ⟨y1, rfl, h⟩ := hr
    refine g_istore 18 gq171 rfl rfl rfl ?_
    refine g_iload 20 gq171 rfl rfl rfl ?_
    have c20 := h.1
    replace h := h.2
    refine g_if_ge 31 23 gq171 rfl rfl rfl c20 (fun c => ?_) (fun c => ?_)
    · replace h := h.1 c
      refine g_iload 33 gq171 rfl rfl rfl ?_
      refine g_if_lt 40 36 gq171 rfl rfl rfl c20 (fun c => ?_) (fun c => ?_)
      · exfalso; omega
      refine g_iconst 37 gq171 rfl rfl ?_
      refine g_goto 41 gq171 rfl rfl ?_
      refine g_istore_n 42 gq171 rfl rfl rfl ?_
      refine g_iload_n 43 gq171 rfl rfl rfl ?_
      refine g_if_eq 53 46 gq171 rfl rfl rfl (by omega) (fun c => ?_) (fun c => ?_)
      · exact absurd c (by decide)
      refine g_aload_n 47 gq171 rfl rfl rfl ?_
      refine g_aload_n 48 gq171 rfl rfl rfl ?_
      refine g_iload 50 gq171 rfl rfl rfl ?_
      refine g_virt 170 _ (i := 300) gq171 rfl rfl gq170 rfl rfl rfl rfl rfl rfl ?_
      refine kGo.mono h (fun r W2 hr => ?_)
      obtain ⟨rfl, h⟩ := hr
      refine g_goto 6 gq171 rfl rfl ?_
      exact kGo.weak (km_Le.s (km_Le.s (km_Le.s (km_Le.s (km_Le.n km_Le.nil))))) h
    · replace h := h.2 c
      refine g_aload_n 24 gq171 rfl rfl rfl ?_
      refine g_aload_n 25 gq171 rfl rfl rfl ?_
      refine g_iconst 26 gq171 rfl rfl ?_
      refine g_virt 168 _ (i := 297) gq171 rfl rfl gq168 rfl rfl rfl rfl rfl rfl ?_
      refine kGo.mono h (fun r W3 hr => ?_)
      obtain ⟨y3, rfl, h⟩ := hr
      refine g_istore 31 gq171 rfl rfl rfl ?_
      refine g_iload 33 gq171 rfl rfl rfl ?_
      have c50 := h.1
      replace h := h.2
      refine g_if_lt 40 36 gq171 rfl rfl rfl c50 (fun c => ?_) (fun c => ?_)
      · replace h := h.1 c
        refine g_iconst 41 gq171 rfl rfl ?_
        refine g_istore_n 42 gq171 rfl rfl rfl ?_
        refine g_iload_n 43 gq171 rfl rfl rfl ?_
        refine g_if_eq 53 46 gq171 rfl rfl rfl (by omega) (fun c => ?_) (fun c => ?_)
        rotate_left
        · exact absurd c (by decide)
        refine g_goto 6 gq171 rfl rfl ?_
        exact kGo.weak (km_Le.s (km_Le.s (km_Le.s (km_Le.s (km_Le.n km_Le.nil))))) h
      · replace h := h.2 c
        refine g_iconst 37 gq171 rfl rfl ?_
        refine g_goto 41 gq171 rfl rfl ?_
        refine g_istore_n 42 gq171 rfl rfl rfl ?_
        refine g_iload_n 43 gq171 rfl rfl rfl ?_
        refine g_if_eq 53 46 gq171 rfl rfl rfl (by omega) (fun c => ?_) (fun c => ?_)
        · exact absurd c (by decide)
        refine g_aload_n 47 gq171 rfl rfl rfl ?_
        refine g_aload_n 48 gq171 rfl rfl rfl ?_
        refine g_iload 50 gq171 rfl rfl rfl ?_
        refine g_virt 170 _ (i := 300) gq171 rfl rfl gq170 rfl rfl rfl rfl rfl rfl ?_
        refine kGo.mono h (fun r W4 hr => ?_)
        obtain ⟨rfl, h⟩ := hr
        refine g_goto 6 gq171 rfl rfl ?_
        exact kGo.weak (km_Le.s (km_Le.s (km_Le.s (km_Le.s (km_Le.n km_Le.nil))))) h
set_option maxRecDepth 10000 in
theorem b172_0 {xs : Nat → Int32} {Lx d : Nat} {V : km_V} {Q : Option Value → km_V → Prop} {a2 : Int} {r1 : Nat} (hr1 : km_sh[r1]? = some (11, 78))
    (h : kGo xs Lx (d + 0) 172 5 [none, some (.ref r1), none, some (kI a2), some (kI 0)] [] V Q) :
    kGo xs Lx (d + 0) 172 0 [some (.ref 299), some (.ref r1), some (kI a2), none, none] [] V Q := by
  refine g_iload_n 1 gq172 rfl rfl rfl ?_
  refine g_istore_n 2 gq172 rfl rfl rfl ?_
  refine g_iconst 3 gq172 rfl rfl ?_
  refine g_istore 5 gq172 rfl rfl rfl ?_
  exact kGo.weak (km_Le.n (km_Le.s (km_Le.n (km_Le.s (km_Le.s km_Le.nil))))) h
set_option maxRecDepth 10000 in
theorem b172_5 {xs : Nat → Int32} {Lx d : Nat} {V : km_V} {Q : Option Value → km_V → Prop} {x3 x4 : Int} {q1 : Nat} (hq1 : km_sh[q1]? = some (11, 78))
    (h : (0 ≤ (2 + x4) ∧ (2 + x4) < (78 : Nat)) ∧ (kR x3) ∧ (kR (V q1 (Int.toNat (2 + x4)))) ∧ ((x3 < (V q1 (Int.toNat (2 + x4))) →
    Q (some (kI ((6 + (16 * x4)) + x3))) V) ∧
   ((V q1 (Int.toNat (2 + x4))) ≤ x3 →
    (∀ z1 : Int, z1 = (x3 - (V q1 (Int.toNat (2 + x4)))) → kGo xs Lx (d + 0) 172 5 [none, some (.ref q1), none, some (kI z1), some (kI (x4 + 1))] [] V Q)))) :
    kGo xs Lx (d + 0) 172 5 [none, some (.ref q1), none, some (kI x3), some (kI x4)] [] V Q := by
  refine g_iload_n 6 gq172 rfl rfl rfl ?_
  refine g_aload_n 7 gq172 rfl rfl rfl ?_
  refine g_iconst 8 gq172 rfl rfl ?_
  refine g_iload 10 gq172 rfl rfl rfl ?_
  refine g_iadd 11 gq172 rfl rfl ?_
  have c5 := h.1
  replace h := h.2
  refine g_iald 12 gq172 rfl rfl hq1 c5 ?_
  have c8 := h.1
  replace h := h.2
  have c10 := h.1
  replace h := h.2
  refine g_icmp_lt 30 15 gq172 rfl rfl rfl c8 c10 (fun c => ?_) (fun c => ?_)
  · replace h := h.1 c
    refine g_bipush 32 gq172 rfl rfl rfl ?_
    refine g_bipush 34 gq172 rfl rfl rfl ?_
    refine g_iload 36 gq172 rfl rfl rfl ?_
    refine g_imul 37 gq172 rfl rfl ?_
    refine g_iadd 38 gq172 rfl rfl ?_
    refine g_iload_n 39 gq172 rfl rfl rfl ?_
    refine g_iadd 40 gq172 rfl rfl ?_
    exact g_iret gq172 rfl rfl h
  · replace h := h.2 c
    refine g_iload_n 16 gq172 rfl rfl rfl ?_
    refine g_aload_n 17 gq172 rfl rfl rfl ?_
    refine g_iconst 18 gq172 rfl rfl ?_
    refine g_iload 20 gq172 rfl rfl rfl ?_
    refine g_iadd 21 gq172 rfl rfl ?_
    refine g_iald 22 gq172 rfl rfl hq1 c5 ?_
    refine g_isub 23 gq172 rfl rfl ?_
    refine g_istore_n 24 gq172 rfl rfl rfl ?_
    replace h := h _ rfl
    refine g_iinc 27 gq172 rfl rfl rfl rfl ?_
    refine g_goto 5 gq172 rfl rfl ?_
    exact kGo.weak (km_Le.n (km_Le.s (km_Le.n (km_Le.s (km_Le.s km_Le.nil))))) h
set_option maxRecDepth 10000 in
theorem b173_0 {xs : Nat → Int32} {Lx d : Nat} {V : km_V} {Q : Option Value → km_V → Prop} {a2 : Int} {r1 : Nat} (hr1 : km_sh[r1]? = some (11, 78))
    (h : (0 ≤ a2 ∧ a2 < (32 : Nat)) ∧ (∀ z1 : Int, z1 = (V 319 (Int.toNat a2)) → (0 ≤ z1 ∧ z1 ≤ 2147483647) ∧ (kturnC V r1 z1) ∧ (0 ≤ (kturn V r1 z1) ∧ (kturn V r1 z1) ≤ 2147483647) ∧ (∀ z2 : Int, z2 = ((kturn V r1 z1) / 2) → (kturnC V r1 (kturn V r1 z1)) ∧ (0 ≤ (kturn V r1 (kturn V r1 z1)) ∧ (kturn V r1 (kturn V r1 z1)) ≤ 2147483647) ∧ (∀ z3 : Int, z3 = ((kturn V r1 (kturn V r1 z1)) / 2) → kCV xs Lx (d + 1) 174 6 [.ref 299, .ref r1, kI (z1 / 2)] V (fun W4 =>
  kCV xs Lx (d + 1) 174 6 [.ref 299, .ref r1, kI z2] W4 (fun W5 =>
  kCV xs Lx (d + 1) 174 6 [.ref 299, .ref r1, kI z3] W5 (fun W6 =>
  Q none W6))))))) :
    kGo xs Lx (d + 2) 173 0 [some (.ref 299), some (.ref r1), some (kI a2), none, none, none, none] [] V Q := by
  refine g_aload_n 1 gq173 rfl rfl rfl ?_
  refine g_getA 4 319 gq173 rfl rfl rfl rfl rfl rfl rfl ?_
  refine g_iload_n 5 gq173 rfl rfl rfl ?_
  have c3 := h.1
  replace h := h.2
  refine g_iald 6 gq173 rfl rfl rfl c3 ?_
  refine g_istore_n 7 gq173 rfl rfl rfl ?_
  replace h := h _ rfl
  refine g_iload_n 8 gq173 rfl rfl rfl ?_
  refine g_iconst 9 gq173 rfl rfl ?_
  have c10 := h.1
  replace h := h.2
  refine g_idiv 10 gq173 rfl rfl c10 (by omega) ?_
  refine g_istore 12 gq173 rfl rfl rfl ?_
  refine g_aload_n 13 gq173 rfl rfl rfl ?_
  refine g_aload_n 14 gq173 rfl rfl rfl ?_
  refine g_iload_n 15 gq173 rfl rfl rfl ?_
  have c17 := h.1
  replace h := h.2
  refine g_virt 159 _ (i := 270) gq173 rfl rfl gq159 rfl rfl rfl rfl rfl rfl ?_
  refine sp_turn hr1 c17 ?_
  refine g_iconst 19 gq173 rfl rfl ?_
  have c22 := h.1
  replace h := h.2
  refine g_idiv 20 gq173 rfl rfl c22 (by omega) ?_
  refine g_istore 22 gq173 rfl rfl rfl ?_
  replace h := h _ rfl
  refine g_aload_n 23 gq173 rfl rfl rfl ?_
  refine g_aload_n 24 gq173 rfl rfl rfl ?_
  refine g_aload_n 25 gq173 rfl rfl rfl ?_
  refine g_aload_n 26 gq173 rfl rfl rfl ?_
  refine g_iload_n 27 gq173 rfl rfl rfl ?_
  refine g_virt 159 _ (i := 270) gq173 rfl rfl gq159 rfl rfl rfl rfl rfl rfl ?_
  refine sp_turn hr1 c17 ?_
  have c34 := h.1
  replace h := h.2
  refine g_virt 159 _ (i := 270) gq173 rfl rfl gq159 rfl rfl rfl rfl rfl rfl ?_
  refine sp_turn hr1 c34 ?_
  refine g_iconst 34 gq173 rfl rfl ?_
  have c39 := h.1
  replace h := h.2
  refine g_idiv 35 gq173 rfl rfl c39 (by omega) ?_
  refine g_istore 37 gq173 rfl rfl rfl ?_
  replace h := h _ rfl
  refine g_aload_n 38 gq173 rfl rfl rfl ?_
  refine g_aload_n 39 gq173 rfl rfl rfl ?_
  refine g_iload 41 gq173 rfl rfl rfl ?_
  refine g_virt 174 _ (i := 303) gq173 rfl rfl gq174 rfl rfl rfl rfl rfl rfl ?_
  refine kGo.mono h (fun r W4 hr => ?_)
  obtain ⟨rfl, h⟩ := hr
  refine g_aload_n 45 gq173 rfl rfl rfl ?_
  refine g_aload_n 46 gq173 rfl rfl rfl ?_
  refine g_iload 48 gq173 rfl rfl rfl ?_
  refine g_virt 174 _ (i := 303) gq173 rfl rfl gq174 rfl rfl rfl rfl rfl rfl ?_
  refine kGo.mono h (fun r W5 hr => ?_)
  obtain ⟨rfl, h⟩ := hr
  refine g_aload_n 52 gq173 rfl rfl rfl ?_
  refine g_aload_n 53 gq173 rfl rfl rfl ?_
  refine g_iload 55 gq173 rfl rfl rfl ?_
  refine g_virt 174 _ (i := 303) gq173 rfl rfl gq174 rfl rfl rfl rfl rfl rfl ?_
  refine kGo.mono h (fun r W6 hr => ?_)
  obtain ⟨rfl, h⟩ := hr
  exact g_vret gq173 rfl rfl h
set_option maxRecDepth 10000 in
theorem b174_0 {xs : Nat → Int32} {Lx d : Nat} {V : km_V} {Q : Option Value → km_V → Prop} {a2 : Int} {r1 : Nat} (hr1 : km_sh[r1]? = some (11, 78))
    (h : kCI xs Lx (d + 0) 172 5 [.ref 299, .ref r1, kI a2] V (fun y1 W1 =>
  (0 ≤ a2 ∧ a2 < (16 : Nat)) ∧ kCI xs Lx (d + 0) 172 5 [.ref 299, .ref r1, kI (W1 315 (Int.toNat a2))] W1 (fun y2 W2 =>
  (0 ≤ y1 ∧ y1 < (78 : Nat)) ∧ (∀ z3 : Int, z3 = (W2 r1 (Int.toNat y1)) → (0 ≤ y2 ∧ y2 < (78 : Nat)) ∧ Q none (up (up W2 r1 (Int.toNat y1) (W2 r1 (Int.toNat y2))) r1 (Int.toNat y2) z3))))) :
    kGo xs Lx (d + 1) 174 0 [some (.ref 299), some (.ref r1), some (kI a2), none, none, none] [] V Q := by
  refine g_aload_n 1 gq174 rfl rfl rfl ?_
  refine g_aload_n 2 gq174 rfl rfl rfl ?_
  refine g_iload_n 3 gq174 rfl rfl rfl ?_
  refine g_virt 172 _ (i := 306) gq174 rfl rfl gq172 rfl rfl rfl rfl rfl rfl ?_
  refine kGo.mono h (fun r W1 hr => ?_)
  obtain ⟨y1, rfl, h⟩ := hr
  refine g_istore_n 7 gq174 rfl rfl rfl ?_
  refine g_aload_n 8 gq174 rfl rfl rfl ?_
  refine g_aload_n 9 gq174 rfl rfl rfl ?_
  refine g_aload_n 10 gq174 rfl rfl rfl ?_
  refine g_getA 13 315 gq174 rfl rfl rfl rfl rfl rfl rfl ?_
  refine g_iload_n 14 gq174 rfl rfl rfl ?_
  have c12 := h.1
  replace h := h.2
  refine g_iald 15 gq174 rfl rfl rfl c12 ?_
  refine g_virt 172 _ (i := 306) gq174 rfl rfl gq172 rfl rfl rfl rfl rfl rfl ?_
  refine kGo.mono h (fun r W2 hr => ?_)
  obtain ⟨y2, rfl, h⟩ := hr
  refine g_istore 20 gq174 rfl rfl rfl ?_
  refine g_aload_n 21 gq174 rfl rfl rfl ?_
  refine g_iload_n 22 gq174 rfl rfl rfl ?_
  have c21 := h.1
  replace h := h.2
  refine g_iald 23 gq174 rfl rfl hr1 c21 ?_
  refine g_istore 25 gq174 rfl rfl rfl ?_
  replace h := h _ rfl
  refine g_aload_n 26 gq174 rfl rfl rfl ?_
  refine g_iload_n 27 gq174 rfl rfl rfl ?_
  refine g_aload_n 28 gq174 rfl rfl rfl ?_
  refine g_iload 30 gq174 rfl rfl rfl ?_
  have c30 := h.1
  replace h := h.2
  refine g_iald 31 gq174 rfl rfl hr1 c30 ?_
  refine g_iast 32 gq174 rfl rfl hr1 c21 ?_
  refine g_aload_n 33 gq174 rfl rfl rfl ?_
  refine g_iload 35 gq174 rfl rfl rfl ?_
  refine g_iload 37 gq174 rfl rfl rfl ?_
  refine g_iast 38 gq174 rfl rfl hr1 c30 ?_
  exact g_vret gq174 rfl rfl h
set_option maxRecDepth 10000 in
theorem b175_0 {xs : Nat → Int32} {Lx d : Nat} {V : km_V} {Q : Option Value → km_V → Prop} {a1 : Int} {r0 : Nat} (hr0 : km_sh[r0]? = some (11, 78))
    (h : (0 ≤ (70 + a1) ∧ (70 + a1) < (78 : Nat)) ∧ kGo xs Lx (d + 0) 175 15 [some (.ref r0), some (kI a1), some (kI 0), none] [] (up V r0 (Int.toNat (70 + a1)) (-(V r0 (Int.toNat (70 + a1))))) Q) :
    kGo xs Lx (d + 0) 175 0 [some (.ref r0), some (kI a1), none, none] [] V Q := by
  refine g_aload_n 1 gq175 rfl rfl rfl ?_
  refine g_bipush 3 gq175 rfl rfl rfl ?_
  refine g_iload_n 4 gq175 rfl rfl rfl ?_
  refine g_iadd 5 gq175 rfl rfl ?_
  refine g_aload_n 6 gq175 rfl rfl rfl ?_
  refine g_bipush 8 gq175 rfl rfl rfl ?_
  refine g_iload_n 9 gq175 rfl rfl rfl ?_
  refine g_iadd 10 gq175 rfl rfl ?_
  have c8 := h.1
  replace h := h.2
  refine g_iald 11 gq175 rfl rfl hr0 c8 ?_
  refine g_ineg 12 gq175 rfl rfl ?_
  refine g_iast 13 gq175 rfl rfl hr0 c8 ?_
  refine g_iconst 14 gq175 rfl rfl ?_
  refine g_istore_n 15 gq175 rfl rfl rfl ?_
  exact kGo.weak (km_Le.s (km_Le.s (km_Le.s (km_Le.n km_Le.nil)))) h
set_option maxRecDepth 10000 in
theorem b175_15 {xs : Nat → Int32} {Lx d : Nat} {V : km_V} {Q : Option Value → km_V → Prop} {x1 x2 : Int} {q0 : Nat} (hq0 : km_sh[q0]? = some (11, 78))
    (h : (kR x2) ∧ (kR (V q0 (Int.toNat 0))) ∧ (((V q0 (Int.toNat 0)) ≤ x2 →
    Q none V) ∧
   (x2 < (V q0 (Int.toNat 0)) →
    kGo xs Lx (d + 0) 175 24 [some (.ref q0), some (kI x1), some (kI x2), some (kI 0)] [] V Q))) :
    kGo xs Lx (d + 0) 175 15 [some (.ref q0), some (kI x1), some (kI x2), none] [] V Q := by
  refine g_iload_n 16 gq175 rfl rfl rfl ?_
  refine g_aload_n 17 gq175 rfl rfl rfl ?_
  refine g_iconst 18 gq175 rfl rfl ?_
  refine g_iald 19 gq175 rfl rfl hq0 (by omega) ?_
  have c4 := h.1
  replace h := h.2
  have c6 := h.1
  replace h := h.2
  refine g_icmp_ge 77 22 gq175 rfl rfl rfl c4 c6 (fun c => ?_) (fun c => ?_)
  · replace h := h.1 c
    exact g_vret gq175 rfl rfl h
  · replace h := h.2 c
    refine g_iconst 23 gq175 rfl rfl ?_
    refine g_istore_n 24 gq175 rfl rfl rfl ?_
    exact kGo.weak (km_Le.s (km_Le.s (km_Le.s (km_Le.s km_Le.nil)))) h
set_option maxRecDepth 10000 in
theorem b175_24 {xs : Nat → Int32} {Lx d : Nat} {V : km_V} {Q : Option Value → km_V → Prop} {x1 x2 x3 : Int} {q0 : Nat} (hq0 : km_sh[q0]? = some (11, 78))
    (h : (0 ≤ (2 + x2) ∧ (2 + x2) < (78 : Nat)) ∧ (kR x3) ∧ (kR (V q0 (Int.toNat (2 + x2)))) ∧ (((V q0 (Int.toNat (2 + x2))) ≤ x3 →
    kGo xs Lx (d + 0) 175 15 [some (.ref q0), some (kI x1), some (kI (x2 + 1)), none] [] V Q) ∧
   (x3 < (V q0 (Int.toNat (2 + x2))) →
    (0 ≤ ((6 + (16 * x2)) + x3) ∧ ((6 + (16 * x2)) + x3) < (78 : Nat)) ∧ (0 ≤ (V q0 (Int.toNat ((6 + (16 * x2)) + x3))) ∧ (V q0 (Int.toNat ((6 + (16 * x2)) + x3))) ≤ 2147483647) ∧ (kR ((V q0 (Int.toNat ((6 + (16 * x2)) + x3))) / 2)) ∧ (kR x1) ∧ ((((V q0 (Int.toNat ((6 + (16 * x2)) + x3))) / 2) ≠ x1 →
      kGo xs Lx (d + 0) 175 24 [some (.ref q0), some (kI x1), some (kI x2), some (kI (x3 + 1))] [] V Q) ∧
     (((V q0 (Int.toNat ((6 + (16 * x2)) + x3))) / 2) = x1 →
      (0 ≤ (V q0 (Int.toNat ((6 + (16 * x2)) + x3)))) ∧ kGo xs Lx (d + 0) 175 24 [some (.ref q0), some (kI x1), some (kI x2), some (kI (x3 + 1))] [] (up V q0 (Int.toNat ((6 + (16 * x2)) + x3)) ((Int.toNat (V q0 (Int.toNat ((6 + (16 * x2)) + x3))) ^^^ Int.toNat 1 : Nat) : Int)) Q))))) :
    kGo xs Lx (d + 0) 175 24 [some (.ref q0), some (kI x1), some (kI x2), some (kI x3)] [] V Q := by
  refine g_iload_n 25 gq175 rfl rfl rfl ?_
  refine g_aload_n 26 gq175 rfl rfl rfl ?_
  refine g_iconst 27 gq175 rfl rfl ?_
  refine g_iload_n 28 gq175 rfl rfl rfl ?_
  refine g_iadd 29 gq175 rfl rfl ?_
  have c5 := h.1
  replace h := h.2
  refine g_iald 30 gq175 rfl rfl hq0 c5 ?_
  have c8 := h.1
  replace h := h.2
  have c10 := h.1
  replace h := h.2
  refine g_icmp_ge 71 33 gq175 rfl rfl rfl c8 c10 (fun c => ?_) (fun c => ?_)
  · replace h := h.1 c
    refine g_iinc 74 gq175 rfl rfl rfl rfl ?_
    refine g_goto 15 gq175 rfl rfl ?_
    exact kGo.weak (km_Le.s (km_Le.s (km_Le.s (km_Le.n km_Le.nil)))) h
  · replace h := h.2 c
    refine g_aload_n 34 gq175 rfl rfl rfl ?_
    refine g_bipush 36 gq175 rfl rfl rfl ?_
    refine g_bipush 38 gq175 rfl rfl rfl ?_
    refine g_iload_n 39 gq175 rfl rfl rfl ?_
    refine g_imul 40 gq175 rfl rfl ?_
    refine g_iadd 41 gq175 rfl rfl ?_
    refine g_iload_n 42 gq175 rfl rfl rfl ?_
    refine g_iadd 43 gq175 rfl rfl ?_
    have c26 := h.1
    replace h := h.2
    refine g_iald 44 gq175 rfl rfl hq0 c26 ?_
    refine g_iconst 45 gq175 rfl rfl ?_
    have c30 := h.1
    replace h := h.2
    refine g_idiv 46 gq175 rfl rfl c30 (by omega) ?_
    refine g_iload_n 47 gq175 rfl rfl rfl ?_
    have c34 := h.1
    replace h := h.2
    have c36 := h.1
    replace h := h.2
    refine g_icmp_ne 65 50 gq175 rfl rfl rfl c34 c36 (fun c => ?_) (fun c => ?_)
    · replace h := h.1 c
      refine g_iinc 68 gq175 rfl rfl rfl rfl ?_
      refine g_goto 24 gq175 rfl rfl ?_
      exact kGo.weak (km_Le.s (km_Le.s (km_Le.s (km_Le.s km_Le.nil)))) h
    · replace h := h.2 c
      refine g_aload_n 51 gq175 rfl rfl rfl ?_
      refine g_bipush 53 gq175 rfl rfl rfl ?_
      refine g_bipush 55 gq175 rfl rfl rfl ?_
      refine g_iload_n 56 gq175 rfl rfl rfl ?_
      refine g_imul 57 gq175 rfl rfl ?_
      refine g_iadd 58 gq175 rfl rfl ?_
      refine g_iload_n 59 gq175 rfl rfl rfl ?_
      refine g_iadd 60 gq175 rfl rfl ?_
      refine g_dup2 61 gq175 rfl rfl rfl rfl ?_
      refine g_iald 62 gq175 rfl rfl hq0 c26 ?_
      refine g_iconst 63 gq175 rfl rfl ?_
      have c55 := h.1
      replace h := h.2
      refine g_ixor 64 gq175 rfl rfl c55 (by omega) ?_
      refine g_iast 65 gq175 rfl rfl hq0 c26 ?_
      refine g_iinc 68 gq175 rfl rfl rfl rfl ?_
      refine g_goto 24 gq175 rfl rfl ?_
      exact kGo.weak (km_Le.s (km_Le.s (km_Le.s (km_Le.s km_Le.nil)))) h
set_option maxRecDepth 10000 in
theorem b176_0 {xs : Nat → Int32} {Lx d : Nat} {V : km_V} {Q : Option Value → km_V → Prop} 
    (h : (kR (V 299 39)) ∧ (((V 299 39) ≠ 40 →
    (0 ≤ ((V 299 38) + (V 299 39)) ∧ ((V 299 38) + (V 299 39)) ≤ 2147483647) ∧ (∀ z1 : Int, z1 = (78 * (((V 299 38) + (V 299 39)) % 40)) → kGo xs Lx (d + 0) 176 50 [some (.ref 299), some (kI z1), some (kI 0)] [] V Q)) ∧
   ((V 299 39) = 40 →
    (0 ≤ ((V 299 38) + 1) ∧ ((V 299 38) + 1) ≤ 2147483647) ∧ (0 ≤ (((up (up V 299 38 (((V 299 38) + 1) % 40)) 299 39 (((up V 299 38 (((V 299 38) + 1) % 40)) 299 39) - 1)) 299 38) + ((up (up V 299 38 (((V 299 38) + 1) % 40)) 299 39 (((up V 299 38 (((V 299 38) + 1) % 40)) 299 39) - 1)) 299 39)) ∧ (((up (up V 299 38 (((V 299 38) + 1) % 40)) 299 39 (((up V 299 38 (((V 299 38) + 1) % 40)) 299 39) - 1)) 299 38) + ((up (up V 299 38 (((V 299 38) + 1) % 40)) 299 39 (((up V 299 38 (((V 299 38) + 1) % 40)) 299 39) - 1)) 299 39)) ≤ 2147483647) ∧ (∀ z2 : Int, z2 = (78 * ((((up (up V 299 38 (((V 299 38) + 1) % 40)) 299 39 (((up V 299 38 (((V 299 38) + 1) % 40)) 299 39) - 1)) 299 38) + ((up (up V 299 38 (((V 299 38) + 1) % 40)) 299 39 (((up V 299 38 (((V 299 38) + 1) % 40)) 299 39) - 1)) 299 39)) % 40)) → kGo xs Lx (d + 0) 176 50 [some (.ref 299), some (kI z2), some (kI 0)] [] (up (up V 299 38 (((V 299 38) + 1) % 40)) 299 39 (((up V 299 38 (((V 299 38) + 1) % 40)) 299 39) - 1)) Q)))) :
    kGo xs Lx (d + 0) 176 0 [some (.ref 299), none, none] [] V Q := by
  refine g_aload_n 1 gq176 rfl rfl rfl ?_
  refine g_getI 4 gq176 rfl rfl rfl rfl rfl rfl ?_
  refine g_bipush 6 gq176 rfl rfl rfl ?_
  have c3 := h.1
  replace h := h.2
  refine g_icmp_ne 32 9 gq176 rfl rfl rfl c3 (by omega) (fun c => ?_) (fun c => ?_)
  · replace h := h.1 c
    refine g_bipush 34 gq176 rfl rfl rfl ?_
    refine g_aload_n 35 gq176 rfl rfl rfl ?_
    refine g_getI 38 gq176 rfl rfl rfl rfl rfl rfl ?_
    refine g_aload_n 39 gq176 rfl rfl rfl ?_
    refine g_getI 42 gq176 rfl rfl rfl rfl rfl rfl ?_
    refine g_iadd 43 gq176 rfl rfl ?_
    refine g_bipush 45 gq176 rfl rfl rfl ?_
    have c14 := h.1
    replace h := h.2
    refine g_irem 46 gq176 rfl rfl c14 (by omega) ?_
    refine g_imul 47 gq176 rfl rfl ?_
    refine g_istore_n 48 gq176 rfl rfl rfl ?_
    replace h := h _ rfl
    refine g_iconst 49 gq176 rfl rfl ?_
    refine g_istore_n 50 gq176 rfl rfl rfl ?_
    exact kGo.weak (km_Le.s (km_Le.s (km_Le.s km_Le.nil))) h
  · replace h := h.2 c
    refine g_aload_n 10 gq176 rfl rfl rfl ?_
    refine g_aload_n 11 gq176 rfl rfl rfl ?_
    refine g_getI 14 gq176 rfl rfl rfl rfl rfl rfl ?_
    refine g_iconst 15 gq176 rfl rfl ?_
    refine g_iadd 16 gq176 rfl rfl ?_
    refine g_bipush 18 gq176 rfl rfl rfl ?_
    have c30 := h.1
    replace h := h.2
    refine g_irem 19 gq176 rfl rfl c30 (by omega) ?_
    refine g_putI 22 gq176 rfl rfl rfl rfl rfl rfl rfl rfl ?_
    refine g_aload_n 23 gq176 rfl rfl rfl ?_
    refine g_dup 24 gq176 rfl rfl rfl ?_
    refine g_getI 27 gq176 rfl rfl rfl rfl rfl rfl ?_
    refine g_iconst 28 gq176 rfl rfl ?_
    refine g_isub 29 gq176 rfl rfl ?_
    refine g_putI 32 gq176 rfl rfl rfl rfl rfl rfl rfl rfl ?_
    refine g_bipush 34 gq176 rfl rfl rfl ?_
    refine g_aload_n 35 gq176 rfl rfl rfl ?_
    refine g_getI 38 gq176 rfl rfl rfl rfl rfl rfl ?_
    refine g_aload_n 39 gq176 rfl rfl rfl ?_
    refine g_getI 42 gq176 rfl rfl rfl rfl rfl rfl ?_
    refine g_iadd 43 gq176 rfl rfl ?_
    refine g_bipush 45 gq176 rfl rfl rfl ?_
    have c47 := h.1
    replace h := h.2
    refine g_irem 46 gq176 rfl rfl c47 (by omega) ?_
    refine g_imul 47 gq176 rfl rfl ?_
    refine g_istore_n 48 gq176 rfl rfl rfl ?_
    replace h := h _ rfl
    refine g_iconst 49 gq176 rfl rfl ?_
    refine g_istore_n 50 gq176 rfl rfl rfl ?_
    exact kGo.weak (km_Le.s (km_Le.s (km_Le.s km_Le.nil))) h
set_option maxRecDepth 10000 in
theorem b176_50 {xs : Nat → Int32} {Lx d : Nat} {V : km_V} {Q : Option Value → km_V → Prop} {x1 x2 : Int} 
    (h : (kR x2) ∧ ((78 ≤ x2 →
    Q none (up V 299 39 ((V 299 39) + 1))) ∧
   (x2 < 78 →
    (0 ≤ x2 ∧ x2 < (78 : Nat)) ∧ (0 ≤ (x1 + x2) ∧ (x1 + x2) < (3120 : Nat)) ∧ kGo xs Lx (d + 0) 176 50 [some (.ref 299), some (kI x1), some (kI (x2 + 1))] [] (up V 323 (Int.toNat (x1 + x2)) (V 307 (Int.toNat x2))) Q))) :
    kGo xs Lx (d + 0) 176 50 [some (.ref 299), some (kI x1), some (kI x2)] [] V Q := by
  refine g_iload_n 51 gq176 rfl rfl rfl ?_
  refine g_bipush 53 gq176 rfl rfl rfl ?_
  have c2 := h.1
  replace h := h.2
  refine g_icmp_ge 76 56 gq176 rfl rfl rfl c2 (by omega) (fun c => ?_) (fun c => ?_)
  · replace h := h.1 c
    refine g_aload_n 77 gq176 rfl rfl rfl ?_
    refine g_dup 78 gq176 rfl rfl rfl ?_
    refine g_getI 81 gq176 rfl rfl rfl rfl rfl rfl ?_
    refine g_iconst 82 gq176 rfl rfl ?_
    refine g_iadd 83 gq176 rfl rfl ?_
    refine g_putI 86 gq176 rfl rfl rfl rfl rfl rfl rfl rfl ?_
    exact g_vret gq176 rfl rfl h
  · replace h := h.2 c
    refine g_aload_n 57 gq176 rfl rfl rfl ?_
    refine g_getA 60 323 gq176 rfl rfl rfl rfl rfl rfl rfl ?_
    refine g_iload_n 61 gq176 rfl rfl rfl ?_
    refine g_iload_n 62 gq176 rfl rfl rfl ?_
    refine g_iadd 63 gq176 rfl rfl ?_
    refine g_aload_n 64 gq176 rfl rfl rfl ?_
    refine g_getA 67 307 gq176 rfl rfl rfl rfl rfl rfl rfl ?_
    refine g_iload_n 68 gq176 rfl rfl rfl ?_
    have c22 := h.1
    replace h := h.2
    refine g_iald 69 gq176 rfl rfl rfl c22 ?_
    have c25 := h.1
    replace h := h.2
    refine g_iast 70 gq176 rfl rfl rfl c25 ?_
    refine g_iinc 73 gq176 rfl rfl rfl rfl ?_
    refine g_goto 50 gq176 rfl rfl ?_
    exact kGo.weak (km_Le.s (km_Le.s (km_Le.s km_Le.nil))) h
set_option maxRecDepth 10000 in
theorem b177_0 {xs : Nat → Int32} {Lx d : Nat} {V : km_V} {Q : Option Value → km_V → Prop} 
    (h : (kR (V 299 39)) ∧ (((V 299 39) ≠ 0 →
    (0 ≤ (((up V 299 39 ((V 299 39) - 1)) 299 38) + ((up V 299 39 ((V 299 39) - 1)) 299 39)) ∧ (((up V 299 39 ((V 299 39) - 1)) 299 38) + ((up V 299 39 ((V 299 39) - 1)) 299 39)) ≤ 2147483647) ∧ (∀ z1 : Int, z1 = (78 * ((((up V 299 39 ((V 299 39) - 1)) 299 38) + ((up V 299 39 ((V 299 39) - 1)) 299 39)) % 40)) → kGo xs Lx (d + 0) 177 37 [some (.ref 299), some (kI z1), some (kI 0)] [] (up V 299 39 ((V 299 39) - 1)) Q)) ∧
   ((V 299 39) = 0 →
    Q (some (kI 0)) V))) :
    kGo xs Lx (d + 0) 177 0 [some (.ref 299), none, none] [] V Q := by
  refine g_aload_n 1 gq177 rfl rfl rfl ?_
  refine g_getI 4 gq177 rfl rfl rfl rfl rfl rfl ?_
  have c2 := h.1
  replace h := h.2
  refine g_if_ne 9 7 gq177 rfl rfl rfl c2 (fun c => ?_) (fun c => ?_)
  · replace h := h.1 c
    refine g_aload_n 10 gq177 rfl rfl rfl ?_
    refine g_dup 11 gq177 rfl rfl rfl ?_
    refine g_getI 14 gq177 rfl rfl rfl rfl rfl rfl ?_
    refine g_iconst 15 gq177 rfl rfl ?_
    refine g_isub 16 gq177 rfl rfl ?_
    refine g_putI 19 gq177 rfl rfl rfl rfl rfl rfl rfl rfl ?_
    refine g_bipush 21 gq177 rfl rfl rfl ?_
    refine g_aload_n 22 gq177 rfl rfl rfl ?_
    refine g_getI 25 gq177 rfl rfl rfl rfl rfl rfl ?_
    refine g_aload_n 26 gq177 rfl rfl rfl ?_
    refine g_getI 29 gq177 rfl rfl rfl rfl rfl rfl ?_
    refine g_iadd 30 gq177 rfl rfl ?_
    refine g_bipush 32 gq177 rfl rfl rfl ?_
    have c19 := h.1
    replace h := h.2
    refine g_irem 33 gq177 rfl rfl c19 (by omega) ?_
    refine g_imul 34 gq177 rfl rfl ?_
    refine g_istore_n 35 gq177 rfl rfl rfl ?_
    replace h := h _ rfl
    refine g_iconst 36 gq177 rfl rfl ?_
    refine g_istore_n 37 gq177 rfl rfl rfl ?_
    exact kGo.weak (km_Le.s (km_Le.s (km_Le.s km_Le.nil))) h
  · replace h := h.2 c
    refine g_iconst 8 gq177 rfl rfl ?_
    exact g_zret gq177 rfl rfl (by omega) h
set_option maxRecDepth 10000 in
theorem b177_37 {xs : Nat → Int32} {Lx d : Nat} {V : km_V} {Q : Option Value → km_V → Prop} {x1 x2 : Int} 
    (h : (kR x2) ∧ ((78 ≤ x2 →
    Q (some (kI 1)) V) ∧
   (x2 < 78 →
    (0 ≤ (x1 + x2) ∧ (x1 + x2) < (3120 : Nat)) ∧ (0 ≤ x2 ∧ x2 < (78 : Nat)) ∧ kGo xs Lx (d + 0) 177 37 [some (.ref 299), some (kI x1), some (kI (x2 + 1))] [] (up V 307 (Int.toNat x2) (V 323 (Int.toNat (x1 + x2)))) Q))) :
    kGo xs Lx (d + 0) 177 37 [some (.ref 299), some (kI x1), some (kI x2)] [] V Q := by
  refine g_iload_n 38 gq177 rfl rfl rfl ?_
  refine g_bipush 40 gq177 rfl rfl rfl ?_
  have c2 := h.1
  replace h := h.2
  refine g_icmp_ge 63 43 gq177 rfl rfl rfl c2 (by omega) (fun c => ?_) (fun c => ?_)
  · replace h := h.1 c
    refine g_iconst 64 gq177 rfl rfl ?_
    exact g_zret gq177 rfl rfl (by omega) h
  · replace h := h.2 c
    refine g_aload_n 44 gq177 rfl rfl rfl ?_
    refine g_getA 47 307 gq177 rfl rfl rfl rfl rfl rfl rfl ?_
    refine g_iload_n 48 gq177 rfl rfl rfl ?_
    refine g_aload_n 49 gq177 rfl rfl rfl ?_
    refine g_getA 52 323 gq177 rfl rfl rfl rfl rfl rfl rfl ?_
    refine g_iload_n 53 gq177 rfl rfl rfl ?_
    refine g_iload_n 54 gq177 rfl rfl rfl ?_
    refine g_iadd 55 gq177 rfl rfl ?_
    have c17 := h.1
    replace h := h.2
    refine g_iald 56 gq177 rfl rfl rfl c17 ?_
    have c20 := h.1
    replace h := h.2
    refine g_iast 57 gq177 rfl rfl rfl c20 ?_
    refine g_iinc 60 gq177 rfl rfl rfl rfl ?_
    refine g_goto 37 gq177 rfl rfl ?_
    exact kGo.weak (km_Le.s (km_Le.s (km_Le.s km_Le.nil))) h
set_option maxRecDepth 10000 in
theorem b178_0 {xs : Nat → Int32} {Lx d : Nat} {V : km_V} {Q : Option Value → km_V → Prop} {a1 : Int} 
    (h : (kR a1) ∧ (kR (kin a1 0 2)) ∧ (((kin a1 0 2) ≠ 0 →
    kGo xs Lx (d + 1) 178 13 [some (.ref 299), some (kI a1), some (kI 0)] [] V Q) ∧
   ((kin a1 0 2) = 0 →
    Q (some (kI 0)) V))) :
    kGo xs Lx (d + 1) 178 0 [some (.ref 299), some (kI a1), none] [] V Q := by
  refine g_iload_n 1 gq178 rfl rfl rfl ?_
  refine g_iconst 2 gq178 rfl rfl ?_
  refine g_iconst 3 gq178 rfl rfl ?_
  have c3 := h.1
  replace h := h.2
  refine g_static 153 _ (i := 246) gq178 rfl rfl gq153 rfl rfl rfl rfl ?_
  refine sp_in c3 (by omega) (by omega) ?_
  have c7 := h.1
  replace h := h.2
  refine g_if_ne 11 9 gq178 rfl rfl rfl c7 (fun c => ?_) (fun c => ?_)
  · replace h := h.1 c
    refine g_iconst 12 gq178 rfl rfl ?_
    refine g_istore_n 13 gq178 rfl rfl rfl ?_
    exact kGo.weak (km_Le.s (km_Le.s (km_Le.s km_Le.nil))) h
  · replace h := h.2 c
    refine g_iconst 10 gq178 rfl rfl ?_
    exact g_zret gq178 rfl rfl (by omega) h
set_option maxRecDepth 10000 in
theorem b178_13 {xs : Nat → Int32} {Lx d : Nat} {V : km_V} {Q : Option Value → km_V → Prop} {x1 x2 : Int} 
    (h : (kR x2) ∧ ((78 ≤ x2 →
    (0 ≤ x1 ∧ x1 < (3 : Nat)) ∧ Q (some (kI 1)) (up V 325 (Int.toNat x1) 1)) ∧
   (x2 < 78 →
    (0 ≤ x2 ∧ x2 < (78 : Nat)) ∧ (0 ≤ ((78 * x1) + x2) ∧ ((78 * x1) + x2) < (234 : Nat)) ∧ kGo xs Lx (d + 1) 178 13 [some (.ref 299), some (kI x1), some (kI (x2 + 1))] [] (up V 324 (Int.toNat ((78 * x1) + x2)) (V 307 (Int.toNat x2))) Q))) :
    kGo xs Lx (d + 1) 178 13 [some (.ref 299), some (kI x1), some (kI x2)] [] V Q := by
  refine g_iload_n 14 gq178 rfl rfl rfl ?_
  refine g_bipush 16 gq178 rfl rfl rfl ?_
  have c2 := h.1
  replace h := h.2
  refine g_icmp_ge 42 19 gq178 rfl rfl rfl c2 (by omega) (fun c => ?_) (fun c => ?_)
  · replace h := h.1 c
    refine g_aload_n 43 gq178 rfl rfl rfl ?_
    refine g_getA 46 325 gq178 rfl rfl rfl rfl rfl rfl rfl ?_
    refine g_iload_n 47 gq178 rfl rfl rfl ?_
    refine g_iconst 48 gq178 rfl rfl ?_
    have c10 := h.1
    replace h := h.2
    refine g_zast 49 gq178 rfl rfl rfl c10 (by omega) ?_
    refine g_iconst 50 gq178 rfl rfl ?_
    exact g_zret gq178 rfl rfl (by omega) h
  · replace h := h.2 c
    refine g_aload_n 20 gq178 rfl rfl rfl ?_
    refine g_getA 23 324 gq178 rfl rfl rfl rfl rfl rfl rfl ?_
    refine g_bipush 25 gq178 rfl rfl rfl ?_
    refine g_iload_n 26 gq178 rfl rfl rfl ?_
    refine g_imul 27 gq178 rfl rfl ?_
    refine g_iload_n 28 gq178 rfl rfl rfl ?_
    refine g_iadd 29 gq178 rfl rfl ?_
    refine g_aload_n 30 gq178 rfl rfl rfl ?_
    refine g_getA 33 307 gq178 rfl rfl rfl rfl rfl rfl rfl ?_
    refine g_iload_n 34 gq178 rfl rfl rfl ?_
    have c26 := h.1
    replace h := h.2
    refine g_iald 35 gq178 rfl rfl rfl c26 ?_
    have c29 := h.1
    replace h := h.2
    refine g_iast 36 gq178 rfl rfl rfl c29 ?_
    refine g_iinc 39 gq178 rfl rfl rfl rfl ?_
    refine g_goto 13 gq178 rfl rfl ?_
    exact kGo.weak (km_Le.s (km_Le.s (km_Le.s km_Le.nil))) h
set_option maxRecDepth 10000 in
theorem b179_0 {xs : Nat → Int32} {Lx d : Nat} {V : km_V} {Q : Option Value → km_V → Prop} {a1 : Int} 
    (h : (kR a1) ∧ (kR (kin a1 0 2)) ∧ (((kin a1 0 2) = 0 →
    Q (some (kI 0)) V) ∧
   ((kin a1 0 2) ≠ 0 →
    (0 ≤ a1 ∧ a1 < (3 : Nat)) ∧ (kR (V 325 (Int.toNat a1))) ∧ (((V 325 (Int.toNat a1)) ≠ 0 →
      kGo xs Lx (d + 1) 179 22 [some (.ref 299), some (kI a1), some (kI 0)] [] V Q) ∧
     ((V 325 (Int.toNat a1)) = 0 →
      Q (some (kI 0)) V))))) :
    kGo xs Lx (d + 1) 179 0 [some (.ref 299), some (kI a1), none] [] V Q := by
  refine g_iload_n 1 gq179 rfl rfl rfl ?_
  refine g_iconst 2 gq179 rfl rfl ?_
  refine g_iconst 3 gq179 rfl rfl ?_
  have c3 := h.1
  replace h := h.2
  refine g_static 153 _ (i := 246) gq179 rfl rfl gq153 rfl rfl rfl rfl ?_
  refine sp_in c3 (by omega) (by omega) ?_
  have c7 := h.1
  replace h := h.2
  refine g_if_eq 18 9 gq179 rfl rfl rfl c7 (fun c => ?_) (fun c => ?_)
  · replace h := h.1 c
    refine g_iconst 19 gq179 rfl rfl ?_
    exact g_zret gq179 rfl rfl (by omega) h
  · replace h := h.2 c
    refine g_aload_n 10 gq179 rfl rfl rfl ?_
    refine g_getA 13 325 gq179 rfl rfl rfl rfl rfl rfl rfl ?_
    refine g_iload_n 14 gq179 rfl rfl rfl ?_
    have c17 := h.1
    replace h := h.2
    refine g_zald 15 gq179 rfl rfl rfl c17 ?_
    have c20 := h.1
    replace h := h.2
    refine g_if_ne 20 18 gq179 rfl rfl rfl c20 (fun c => ?_) (fun c => ?_)
    · replace h := h.1 c
      refine g_iconst 21 gq179 rfl rfl ?_
      refine g_istore_n 22 gq179 rfl rfl rfl ?_
      exact kGo.weak (km_Le.s (km_Le.s (km_Le.s km_Le.nil))) h
    · replace h := h.2 c
      refine g_iconst 19 gq179 rfl rfl ?_
      exact g_zret gq179 rfl rfl (by omega) h
set_option maxRecDepth 10000 in
theorem b179_22 {xs : Nat → Int32} {Lx d : Nat} {V : km_V} {Q : Option Value → km_V → Prop} {x1 x2 : Int} 
    (h : (kR x2) ∧ ((78 ≤ x2 →
    Q (some (kI 1)) V) ∧
   (x2 < 78 →
    (0 ≤ ((78 * x1) + x2) ∧ ((78 * x1) + x2) < (234 : Nat)) ∧ (0 ≤ x2 ∧ x2 < (78 : Nat)) ∧ kGo xs Lx (d + 1) 179 22 [some (.ref 299), some (kI x1), some (kI (x2 + 1))] [] (up V 326 (Int.toNat x2) (V 324 (Int.toNat ((78 * x1) + x2)))) Q))) :
    kGo xs Lx (d + 1) 179 22 [some (.ref 299), some (kI x1), some (kI x2)] [] V Q := by
  refine g_iload_n 23 gq179 rfl rfl rfl ?_
  refine g_bipush 25 gq179 rfl rfl rfl ?_
  have c2 := h.1
  replace h := h.2
  refine g_icmp_ge 51 28 gq179 rfl rfl rfl c2 (by omega) (fun c => ?_) (fun c => ?_)
  · replace h := h.1 c
    refine g_iconst 52 gq179 rfl rfl ?_
    exact g_zret gq179 rfl rfl (by omega) h
  · replace h := h.2 c
    refine g_aload_n 29 gq179 rfl rfl rfl ?_
    refine g_getA 32 326 gq179 rfl rfl rfl rfl rfl rfl rfl ?_
    refine g_iload_n 33 gq179 rfl rfl rfl ?_
    refine g_aload_n 34 gq179 rfl rfl rfl ?_
    refine g_getA 37 324 gq179 rfl rfl rfl rfl rfl rfl rfl ?_
    refine g_bipush 39 gq179 rfl rfl rfl ?_
    refine g_iload_n 40 gq179 rfl rfl rfl ?_
    refine g_imul 41 gq179 rfl rfl ?_
    refine g_iload_n 42 gq179 rfl rfl rfl ?_
    refine g_iadd 43 gq179 rfl rfl ?_
    have c19 := h.1
    replace h := h.2
    refine g_iald 44 gq179 rfl rfl rfl c19 ?_
    have c22 := h.1
    replace h := h.2
    refine g_iast 45 gq179 rfl rfl rfl c22 ?_
    refine g_iinc 48 gq179 rfl rfl rfl rfl ?_
    refine g_goto 22 gq179 rfl rfl ?_
    exact kGo.weak (km_Le.s (km_Le.s (km_Le.s km_Le.nil))) h
set_option maxRecDepth 10000 in
theorem b180_0 {xs : Nat → Int32} {Lx d : Nat} {V : km_V} {Q : Option Value → km_V → Prop} {a1 : Int} 
    (h : kCI xs Lx (d + 1) 179 3 [.ref 299, kI a1] V (fun y1 W1 =>
  (kR y1) ∧ ((y1 ≠ 0 →
    kCV xs Lx (d + 1) 156 3 [.ref 326, .ref 307] W1 (fun W2 =>
    Q (some (kI 1)) (up W2 299 39 0))) ∧
   (y1 = 0 →
    Q (some (kI 0)) W1)))) :
    kGo xs Lx (d + 2) 180 0 [some (.ref 299), some (kI a1)] [] V Q := by
  refine g_aload_n 1 gq180 rfl rfl rfl ?_
  refine g_iload_n 2 gq180 rfl rfl rfl ?_
  refine g_virt 179 _ (i := 312) gq180 rfl rfl gq179 rfl rfl rfl rfl rfl rfl ?_
  refine kGo.mono h (fun r W1 hr => ?_)
  obtain ⟨y1, rfl, h⟩ := hr
  have c5 := h.1
  replace h := h.2
  refine g_if_ne 10 8 gq180 rfl rfl rfl c5 (fun c => ?_) (fun c => ?_)
  · replace h := h.1 c
    refine g_aload_n 11 gq180 rfl rfl rfl ?_
    refine g_getA 14 326 gq180 rfl rfl rfl rfl rfl rfl rfl ?_
    refine g_aload_n 15 gq180 rfl rfl rfl ?_
    refine g_getA 18 307 gq180 rfl rfl rfl rfl rfl rfl rfl ?_
    refine g_static 156 _ (i := 209) gq180 rfl rfl gq156 rfl rfl rfl rfl ?_
    refine kGo.mono h (fun r W2 hr => ?_)
    obtain ⟨rfl, h⟩ := hr
    refine g_aload_n 22 gq180 rfl rfl rfl ?_
    refine g_iconst 23 gq180 rfl rfl ?_
    refine g_putI 26 gq180 rfl rfl rfl rfl rfl rfl rfl rfl ?_
    refine g_iconst 27 gq180 rfl rfl ?_
    exact g_zret gq180 rfl rfl (by omega) h
  · replace h := h.2 c
    refine g_iconst 9 gq180 rfl rfl ?_
    exact g_zret gq180 rfl rfl (by omega) h
set_option maxRecDepth 10000 in
theorem b181_0 {xs : Nat → Int32} {Lx d : Nat} {V : km_V} {Q : Option Value → km_V → Prop} {a1 : Int} 
    (h : kCI xs Lx (d + 2) 161 4 [.ref 299, .ref 307] V (fun y1 W1 =>
  (kR a1) ∧ (kR (y1 - 1)) ∧ (kR (kin a1 0 (y1 - 1))) ∧ (((kin a1 0 (y1 - 1)) ≠ 0 →
    kCI xs Lx (d + 2) 166 8 [.ref 299, .ref 307, kI a1] W1 (fun y2 W2 =>
    (kR y2) ∧ ((y2 = 1 →
      kCV xs Lx (d + 2) 176 3 [.ref 299] W2 (fun W3 =>
      kCV xs Lx (d + 2) 170 5 [.ref 299, .ref 307, kI a1] W3 (fun W4 =>
      Q (some (kI (W4 307 (Int.toNat 1)))) W4))) ∧
     (y2 ≠ 1 →
      ((y2 = 2 →
        kCV xs Lx (d + 2) 176 3 [.ref 299] W2 (fun W5 =>
        kCV xs Lx (d + 2) 170 5 [.ref 299, .ref 307, kI a1] W5 (fun W6 =>
        Q (some (kI (W6 307 (Int.toNat 1)))) W6))) ∧
       (y2 ≠ 2 →
        Q (some (kI (-1))) W2)))))) ∧
   ((kin a1 0 (y1 - 1)) = 0 →
    Q (some (kI (-1))) W1)))) :
    kGo xs Lx (d + 3) 181 0 [some (.ref 299), some (kI a1), none] [] V Q := by
  refine g_iload_n 1 gq181 rfl rfl rfl ?_
  refine g_iconst 2 gq181 rfl rfl ?_
  refine g_aload_n 3 gq181 rfl rfl rfl ?_
  refine g_aload_n 4 gq181 rfl rfl rfl ?_
  refine g_getA 7 307 gq181 rfl rfl rfl rfl rfl rfl rfl ?_
  refine g_virt 161 _ (i := 277) gq181 rfl rfl gq161 rfl rfl rfl rfl rfl rfl ?_
  refine kGo.mono h (fun r W1 hr => ?_)
  obtain ⟨y1, rfl, h⟩ := hr
  refine g_iconst 11 gq181 rfl rfl ?_
  refine g_isub 12 gq181 rfl rfl ?_
  have c10 := h.1
  replace h := h.2
  have c12 := h.1
  replace h := h.2
  refine g_static 153 _ (i := 246) gq181 rfl rfl gq153 rfl rfl rfl rfl ?_
  refine sp_in c10 (by omega) c12 ?_
  have c16 := h.1
  replace h := h.2
  refine g_if_ne 20 18 gq181 rfl rfl rfl c16 (fun c => ?_) (fun c => ?_)
  · replace h := h.1 c
    refine g_aload_n 21 gq181 rfl rfl rfl ?_
    refine g_aload_n 22 gq181 rfl rfl rfl ?_
    refine g_getA 25 307 gq181 rfl rfl rfl rfl rfl rfl rfl ?_
    refine g_iload_n 26 gq181 rfl rfl rfl ?_
    refine g_virt 166 _ (i := 290) gq181 rfl rfl gq166 rfl rfl rfl rfl rfl rfl ?_
    refine kGo.mono h (fun r W2 hr => ?_)
    obtain ⟨y2, rfl, h⟩ := hr
    refine g_istore_n 30 gq181 rfl rfl rfl ?_
    refine g_iload_n 31 gq181 rfl rfl rfl ?_
    refine g_iconst 32 gq181 rfl rfl ?_
    have c30 := h.1
    replace h := h.2
    refine g_icmp_eq 42 35 gq181 rfl rfl rfl c30 (by omega) (fun c => ?_) (fun c => ?_)
    · replace h := h.1 c
      refine g_aload_n 43 gq181 rfl rfl rfl ?_
      refine g_virt 176 _ (i := 315) gq181 rfl rfl gq176 rfl rfl rfl rfl rfl rfl ?_
      refine kGo.mono h (fun r W3 hr => ?_)
      obtain ⟨rfl, h⟩ := hr
      refine g_aload_n 47 gq181 rfl rfl rfl ?_
      refine g_aload_n 48 gq181 rfl rfl rfl ?_
      refine g_getA 51 307 gq181 rfl rfl rfl rfl rfl rfl rfl ?_
      refine g_iload_n 52 gq181 rfl rfl rfl ?_
      refine g_virt 170 _ (i := 300) gq181 rfl rfl gq170 rfl rfl rfl rfl rfl rfl ?_
      refine kGo.mono h (fun r W4 hr => ?_)
      obtain ⟨rfl, h⟩ := hr
      refine g_aload_n 56 gq181 rfl rfl rfl ?_
      refine g_getA 59 307 gq181 rfl rfl rfl rfl rfl rfl rfl ?_
      refine g_iconst 60 gq181 rfl rfl ?_
      refine g_iald 61 gq181 rfl rfl rfl (by omega) ?_
      exact g_iret gq181 rfl rfl h
    · replace h := h.2 c
      refine g_iload_n 36 gq181 rfl rfl rfl ?_
      refine g_iconst 37 gq181 rfl rfl ?_
      refine g_icmp_eq 42 40 gq181 rfl rfl rfl c30 (by omega) (fun c => ?_) (fun c => ?_)
      · replace h := h.1 c
        refine g_aload_n 43 gq181 rfl rfl rfl ?_
        refine g_virt 176 _ (i := 315) gq181 rfl rfl gq176 rfl rfl rfl rfl rfl rfl ?_
        refine kGo.mono h (fun r W5 hr => ?_)
        obtain ⟨rfl, h⟩ := hr
        refine g_aload_n 47 gq181 rfl rfl rfl ?_
        refine g_aload_n 48 gq181 rfl rfl rfl ?_
        refine g_getA 51 307 gq181 rfl rfl rfl rfl rfl rfl rfl ?_
        refine g_iload_n 52 gq181 rfl rfl rfl ?_
        refine g_virt 170 _ (i := 300) gq181 rfl rfl gq170 rfl rfl rfl rfl rfl rfl ?_
        refine kGo.mono h (fun r W6 hr => ?_)
        obtain ⟨rfl, h⟩ := hr
        refine g_aload_n 56 gq181 rfl rfl rfl ?_
        refine g_getA 59 307 gq181 rfl rfl rfl rfl rfl rfl rfl ?_
        refine g_iconst 60 gq181 rfl rfl ?_
        refine g_iald 61 gq181 rfl rfl rfl (by omega) ?_
        exact g_iret gq181 rfl rfl h
      · replace h := h.2 c
        refine g_iconst 41 gq181 rfl rfl ?_
        exact g_iret gq181 rfl rfl h
  · replace h := h.2 c
    refine g_iconst 19 gq181 rfl rfl ?_
    exact g_iret gq181 rfl rfl h
set_option maxRecDepth 10000 in
theorem b182_0 {xs : Nat → Int32} {Lx d : Nat} {V : km_V} {Q : Option Value → km_V → Prop} {a1 : Int} 
    (h : kCI xs Lx (d + 2) 161 4 [.ref 299, .ref 307] V (fun y1 W1 =>
  (kR a1) ∧ (kR (y1 - 1)) ∧ (kR (kin a1 0 (y1 - 1))) ∧ (((kin a1 0 (y1 - 1)) = 0 →
    Q (some (kI 0)) W1) ∧
   ((kin a1 0 (y1 - 1)) ≠ 0 →
    kCI xs Lx (d + 2) 166 8 [.ref 299, .ref 307, kI a1] W1 (fun y2 W2 =>
    (kR y2) ∧ ((y2 = 3 →
      kCV xs Lx (d + 2) 176 3 [.ref 299] W2 (fun W3 =>
      kCV xs Lx (d + 2) 173 7 [.ref 299, .ref 307, kI a1] W3 (fun W4 =>
      Q (some (kI 1)) W4))) ∧
     (y2 ≠ 3 →
      Q (some (kI 0)) W2))))))) :
    kGo xs Lx (d + 3) 182 0 [some (.ref 299), some (kI a1)] [] V Q := by
  refine g_iload_n 1 gq182 rfl rfl rfl ?_
  refine g_iconst 2 gq182 rfl rfl ?_
  refine g_aload_n 3 gq182 rfl rfl rfl ?_
  refine g_aload_n 4 gq182 rfl rfl rfl ?_
  refine g_getA 7 307 gq182 rfl rfl rfl rfl rfl rfl rfl ?_
  refine g_virt 161 _ (i := 277) gq182 rfl rfl gq161 rfl rfl rfl rfl rfl rfl ?_
  refine kGo.mono h (fun r W1 hr => ?_)
  obtain ⟨y1, rfl, h⟩ := hr
  refine g_iconst 11 gq182 rfl rfl ?_
  refine g_isub 12 gq182 rfl rfl ?_
  have c10 := h.1
  replace h := h.2
  have c12 := h.1
  replace h := h.2
  refine g_static 153 _ (i := 246) gq182 rfl rfl gq153 rfl rfl rfl rfl ?_
  refine sp_in c10 (by omega) c12 ?_
  have c16 := h.1
  replace h := h.2
  refine g_if_eq 31 18 gq182 rfl rfl rfl c16 (fun c => ?_) (fun c => ?_)
  · replace h := h.1 c
    refine g_iconst 32 gq182 rfl rfl ?_
    exact g_zret gq182 rfl rfl (by omega) h
  · replace h := h.2 c
    refine g_aload_n 19 gq182 rfl rfl rfl ?_
    refine g_aload_n 20 gq182 rfl rfl rfl ?_
    refine g_getA 23 307 gq182 rfl rfl rfl rfl rfl rfl rfl ?_
    refine g_iload_n 24 gq182 rfl rfl rfl ?_
    refine g_virt 166 _ (i := 290) gq182 rfl rfl gq166 rfl rfl rfl rfl rfl rfl ?_
    refine kGo.mono h (fun r W2 hr => ?_)
    obtain ⟨y2, rfl, h⟩ := hr
    refine g_iconst 28 gq182 rfl rfl ?_
    have c31 := h.1
    replace h := h.2
    refine g_icmp_eq 33 31 gq182 rfl rfl rfl c31 (by omega) (fun c => ?_) (fun c => ?_)
    · replace h := h.1 c
      refine g_aload_n 34 gq182 rfl rfl rfl ?_
      refine g_virt 176 _ (i := 315) gq182 rfl rfl gq176 rfl rfl rfl rfl rfl rfl ?_
      refine kGo.mono h (fun r W3 hr => ?_)
      obtain ⟨rfl, h⟩ := hr
      refine g_aload_n 38 gq182 rfl rfl rfl ?_
      refine g_aload_n 39 gq182 rfl rfl rfl ?_
      refine g_getA 42 307 gq182 rfl rfl rfl rfl rfl rfl rfl ?_
      refine g_iload_n 43 gq182 rfl rfl rfl ?_
      refine g_virt 173 _ (i := 318) gq182 rfl rfl gq173 rfl rfl rfl rfl rfl rfl ?_
      refine kGo.mono h (fun r W4 hr => ?_)
      obtain ⟨rfl, h⟩ := hr
      refine g_iconst 47 gq182 rfl rfl ?_
      exact g_zret gq182 rfl rfl (by omega) h
    · replace h := h.2 c
      refine g_iconst 32 gq182 rfl rfl ?_
      exact g_zret gq182 rfl rfl (by omega) h
set_option maxRecDepth 10000 in
theorem b183_0 {xs : Nat → Int32} {Lx d : Nat} {V : km_V} {Q : Option Value → km_V → Prop} {a1 a2 a3 : Int} 
    (h : (kR (V 307 (Int.toNat 1))) ∧ (((V 307 (Int.toNat 1)) = 8 →
    kGo xs Lx (d + 1) 183 29 [none, none, none, none, none, none, none, none] [] V Q) ∧
   ((V 307 (Int.toNat 1)) ≠ 8 →
    (kR a1) ∧ (kR ((2 * (V 307 (Int.toNat 1))) - 1)) ∧ (kR (kin a1 0 ((2 * (V 307 (Int.toNat 1))) - 1))) ∧ (((kin a1 0 ((2 * (V 307 (Int.toNat 1))) - 1)) ≠ 0 →
      kCV xs Lx (d + 0) 176 3 [.ref 299] V (fun W1 =>
      kCI xs Lx (d + 0) 172 5 [.ref 299, .ref 307, kI a1] W1 (fun y2 W2 =>
      (0 ≤ (y2 - 6) ∧ (y2 - 6) ≤ 2147483647) ∧ (∀ z3 : Int, z3 = ((y2 - 6) / 16) → (∀ z4 : Int, z4 = (W2 307 (Int.toNat 1)) → (0 ≤ (2 + z3) ∧ (2 + z3) < (78 : Nat)) ∧ (∀ z5 : Int, z5 = (((6 + (16 * z3)) + (W2 307 (Int.toNat (2 + z3)))) - 1) → kGo xs Lx (d + 1) 183 86 [some (.ref 299), none, some (kI a2), some (kI a3), some (kI y2), some (kI z3), some (kI z4), some (kI z5)] [] W2 Q)))))) ∧
     ((kin a1 0 ((2 * (V 307 (Int.toNat 1))) - 1)) = 0 →
      kGo xs Lx (d + 1) 183 29 [none, none, none, none, none, none, none, none] [] V Q))))) :
    kGo xs Lx (d + 1) 183 0 [some (.ref 299), some (kI a1), some (kI a2), some (kI a3), none, none, none, none] [] V Q := by
  refine g_aload_n 1 gq183 rfl rfl rfl ?_
  refine g_getA 4 307 gq183 rfl rfl rfl rfl rfl rfl rfl ?_
  refine g_iconst 5 gq183 rfl rfl ?_
  refine g_iald 6 gq183 rfl rfl rfl (by omega) ?_
  refine g_bipush 8 gq183 rfl rfl rfl ?_
  have c5 := h.1
  replace h := h.2
  refine g_icmp_eq 29 11 gq183 rfl rfl rfl c5 (by omega) (fun c => ?_) (fun c => ?_)
  · replace h := h.1 c
    exact kGo.weak (km_Le.n (km_Le.n (km_Le.n (km_Le.n (km_Le.n (km_Le.n (km_Le.n (km_Le.n km_Le.nil)))))))) h
  · replace h := h.2 c
    refine g_iload_n 12 gq183 rfl rfl rfl ?_
    refine g_iconst 13 gq183 rfl rfl ?_
    refine g_iconst 14 gq183 rfl rfl ?_
    refine g_aload_n 15 gq183 rfl rfl rfl ?_
    refine g_getA 18 307 gq183 rfl rfl rfl rfl rfl rfl rfl ?_
    refine g_iconst 19 gq183 rfl rfl ?_
    refine g_iald 20 gq183 rfl rfl rfl (by omega) ?_
    refine g_imul 21 gq183 rfl rfl ?_
    refine g_iconst 22 gq183 rfl rfl ?_
    refine g_isub 23 gq183 rfl rfl ?_
    have c21 := h.1
    replace h := h.2
    have c23 := h.1
    replace h := h.2
    refine g_static 153 _ (i := 246) gq183 rfl rfl gq153 rfl rfl rfl rfl ?_
    refine sp_in c21 (by omega) c23 ?_
    have c27 := h.1
    replace h := h.2
    refine g_if_ne 31 29 gq183 rfl rfl rfl c27 (fun c => ?_) (fun c => ?_)
    · replace h := h.1 c
      refine g_aload_n 32 gq183 rfl rfl rfl ?_
      refine g_virt 176 _ (i := 315) gq183 rfl rfl gq176 rfl rfl rfl rfl rfl rfl ?_
      refine kGo.mono h (fun r W1 hr => ?_)
      obtain ⟨rfl, h⟩ := hr
      refine g_aload_n 36 gq183 rfl rfl rfl ?_
      refine g_aload_n 37 gq183 rfl rfl rfl ?_
      refine g_getA 40 307 gq183 rfl rfl rfl rfl rfl rfl rfl ?_
      refine g_iload_n 41 gq183 rfl rfl rfl ?_
      refine g_virt 172 _ (i := 306) gq183 rfl rfl gq172 rfl rfl rfl rfl rfl rfl ?_
      refine kGo.mono h (fun r W2 hr => ?_)
      obtain ⟨y2, rfl, h⟩ := hr
      refine g_istore 46 gq183 rfl rfl rfl ?_
      refine g_iload 48 gq183 rfl rfl rfl ?_
      refine g_bipush 50 gq183 rfl rfl rfl ?_
      refine g_isub 51 gq183 rfl rfl ?_
      refine g_bipush 53 gq183 rfl rfl rfl ?_
      have c47 := h.1
      replace h := h.2
      refine g_idiv 54 gq183 rfl rfl c47 (by omega) ?_
      refine g_istore 56 gq183 rfl rfl rfl ?_
      replace h := h _ rfl
      refine g_aload_n 57 gq183 rfl rfl rfl ?_
      refine g_getA 60 307 gq183 rfl rfl rfl rfl rfl rfl rfl ?_
      refine g_iconst 61 gq183 rfl rfl ?_
      refine g_iald 62 gq183 rfl rfl rfl (by omega) ?_
      refine g_istore 64 gq183 rfl rfl rfl ?_
      replace h := h _ rfl
      refine g_bipush 66 gq183 rfl rfl rfl ?_
      refine g_bipush 68 gq183 rfl rfl rfl ?_
      refine g_iload 70 gq183 rfl rfl rfl ?_
      refine g_imul 71 gq183 rfl rfl ?_
      refine g_iadd 72 gq183 rfl rfl ?_
      refine g_aload_n 73 gq183 rfl rfl rfl ?_
      refine g_getA 76 307 gq183 rfl rfl rfl rfl rfl rfl rfl ?_
      refine g_iconst 77 gq183 rfl rfl ?_
      refine g_iload 79 gq183 rfl rfl rfl ?_
      refine g_iadd 80 gq183 rfl rfl ?_
      have c68 := h.1
      replace h := h.2
      refine g_iald 81 gq183 rfl rfl rfl c68 ?_
      refine g_iadd 82 gq183 rfl rfl ?_
      refine g_iconst 83 gq183 rfl rfl ?_
      refine g_isub 84 gq183 rfl rfl ?_
      refine g_istore 86 gq183 rfl rfl rfl ?_
      replace h := h _ rfl
      exact kGo.weak (km_Le.s (km_Le.n (km_Le.s (km_Le.s (km_Le.s (km_Le.s (km_Le.s (km_Le.s km_Le.nil)))))))) h
    · replace h := h.2 c
      exact kGo.weak (km_Le.n (km_Le.n (km_Le.n (km_Le.n (km_Le.n (km_Le.n (km_Le.n (km_Le.n km_Le.nil)))))))) h
set_option maxRecDepth 10000 in
theorem b183_29 {xs : Nat → Int32} {Lx d : Nat} {V : km_V} {Q : Option Value → km_V → Prop} 
    (h : Q (some (kI 0)) V) :
    kGo xs Lx (d + 1) 183 29 [none, none, none, none, none, none, none, none] [] V Q := by
  refine g_iconst 30 gq183 rfl rfl ?_
  exact g_zret gq183 rfl rfl (by omega) h
set_option maxRecDepth 10000 in
theorem b183_86 {xs : Nat → Int32} {Lx d : Nat} {V : km_V} {Q : Option Value → km_V → Prop} {x2 x3 x4 x5 x6 x7 : Int} 
    (h : (kR x7) ∧ (kR x4) ∧ ((x7 ≤ x4 →
    (kR x2) ∧ ((x2 = 0 →
      (0 ≤ (x4 + 1) ∧ (x4 + 1) < (78 : Nat)) ∧ (0 ≤ (x4 + 2) ∧ (x4 + 2) < (78 : Nat)) ∧ (0 ≤ (2 + x5) ∧ (2 + x5) < (78 : Nat)) ∧ (kR x3) ∧ ((x3 = 0 →
        (0 ≤ (70 + x6) ∧ (70 + x6) < (78 : Nat)) ∧ Q (some (kI 1)) (up (up (up (up (up V 307 (Int.toNat (x4 + 1)) ((2 * x6) + 0)) 307 (Int.toNat (x4 + 2)) ((2 * x6) + 1)) 307 (Int.toNat (2 + x5)) (((up (up V 307 (Int.toNat (x4 + 1)) ((2 * x6) + 0)) 307 (Int.toNat (x4 + 2)) ((2 * x6) + 1)) 307 (Int.toNat (2 + x5))) + 2)) 307 (Int.toNat (70 + x6)) (-1)) 307 (Int.toNat 1) (((up (up (up (up V 307 (Int.toNat (x4 + 1)) ((2 * x6) + 0)) 307 (Int.toNat (x4 + 2)) ((2 * x6) + 1)) 307 (Int.toNat (2 + x5)) (((up (up V 307 (Int.toNat (x4 + 1)) ((2 * x6) + 0)) 307 (Int.toNat (x4 + 2)) ((2 * x6) + 1)) 307 (Int.toNat (2 + x5))) + 2)) 307 (Int.toNat (70 + x6)) (-1)) 307 (Int.toNat 1)) + 1))) ∧
       (x3 ≠ 0 →
        (0 ≤ (70 + x6) ∧ (70 + x6) < (78 : Nat)) ∧ Q (some (kI 1)) (up (up (up (up (up V 307 (Int.toNat (x4 + 1)) ((2 * x6) + 0)) 307 (Int.toNat (x4 + 2)) ((2 * x6) + 1)) 307 (Int.toNat (2 + x5)) (((up (up V 307 (Int.toNat (x4 + 1)) ((2 * x6) + 0)) 307 (Int.toNat (x4 + 2)) ((2 * x6) + 1)) 307 (Int.toNat (2 + x5))) + 2)) 307 (Int.toNat (70 + x6)) 1) 307 (Int.toNat 1) (((up (up (up (up V 307 (Int.toNat (x4 + 1)) ((2 * x6) + 0)) 307 (Int.toNat (x4 + 2)) ((2 * x6) + 1)) 307 (Int.toNat (2 + x5)) (((up (up V 307 (Int.toNat (x4 + 1)) ((2 * x6) + 0)) 307 (Int.toNat (x4 + 2)) ((2 * x6) + 1)) 307 (Int.toNat (2 + x5))) + 2)) 307 (Int.toNat (70 + x6)) 1) 307 (Int.toNat 1)) + 1))))) ∧
     (x2 ≠ 0 →
      (0 ≤ (x4 + 1) ∧ (x4 + 1) < (78 : Nat)) ∧ (0 ≤ (x4 + 2) ∧ (x4 + 2) < (78 : Nat)) ∧ (0 ≤ (2 + x5) ∧ (2 + x5) < (78 : Nat)) ∧ (kR x3) ∧ ((x3 = 0 →
        (0 ≤ (70 + x6) ∧ (70 + x6) < (78 : Nat)) ∧ Q (some (kI 1)) (up (up (up (up (up V 307 (Int.toNat (x4 + 1)) ((2 * x6) + 1)) 307 (Int.toNat (x4 + 2)) ((2 * x6) + 0)) 307 (Int.toNat (2 + x5)) (((up (up V 307 (Int.toNat (x4 + 1)) ((2 * x6) + 1)) 307 (Int.toNat (x4 + 2)) ((2 * x6) + 0)) 307 (Int.toNat (2 + x5))) + 2)) 307 (Int.toNat (70 + x6)) (-1)) 307 (Int.toNat 1) (((up (up (up (up V 307 (Int.toNat (x4 + 1)) ((2 * x6) + 1)) 307 (Int.toNat (x4 + 2)) ((2 * x6) + 0)) 307 (Int.toNat (2 + x5)) (((up (up V 307 (Int.toNat (x4 + 1)) ((2 * x6) + 1)) 307 (Int.toNat (x4 + 2)) ((2 * x6) + 0)) 307 (Int.toNat (2 + x5))) + 2)) 307 (Int.toNat (70 + x6)) (-1)) 307 (Int.toNat 1)) + 1))) ∧
       (x3 ≠ 0 →
        (0 ≤ (70 + x6) ∧ (70 + x6) < (78 : Nat)) ∧ Q (some (kI 1)) (up (up (up (up (up V 307 (Int.toNat (x4 + 1)) ((2 * x6) + 1)) 307 (Int.toNat (x4 + 2)) ((2 * x6) + 0)) 307 (Int.toNat (2 + x5)) (((up (up V 307 (Int.toNat (x4 + 1)) ((2 * x6) + 1)) 307 (Int.toNat (x4 + 2)) ((2 * x6) + 0)) 307 (Int.toNat (2 + x5))) + 2)) 307 (Int.toNat (70 + x6)) 1) 307 (Int.toNat 1) (((up (up (up (up V 307 (Int.toNat (x4 + 1)) ((2 * x6) + 1)) 307 (Int.toNat (x4 + 2)) ((2 * x6) + 0)) 307 (Int.toNat (2 + x5)) (((up (up V 307 (Int.toNat (x4 + 1)) ((2 * x6) + 1)) 307 (Int.toNat (x4 + 2)) ((2 * x6) + 0)) 307 (Int.toNat (2 + x5))) + 2)) 307 (Int.toNat (70 + x6)) 1) 307 (Int.toNat 1)) + 1))))))) ∧
   (x4 < x7 →
    (0 ≤ x7 ∧ x7 < (78 : Nat)) ∧ (0 ≤ (x7 + 2) ∧ (x7 + 2) < (78 : Nat)) ∧ kGo xs Lx (d + 1) 183 86 [some (.ref 299), none, some (kI x2), some (kI x3), some (kI x4), some (kI x5), some (kI x6), some (kI (x7 + (-1)))] [] (up V 307 (Int.toNat (x7 + 2)) (V 307 (Int.toNat x7))) Q))) :
    kGo xs Lx (d + 1) 183 86 [some (.ref 299), none, some (kI x2), some (kI x3), some (kI x4), some (kI x5), some (kI x6), some (kI x7)] [] V Q := by
  refine g_iload 88 gq183 rfl rfl rfl ?_
  refine g_iload 90 gq183 rfl rfl rfl ?_
  have c2 := h.1
  replace h := h.2
  have c4 := h.1
  replace h := h.2
  refine g_icmp_le 115 93 gq183 rfl rfl rfl c2 c4 (fun c => ?_) (fun c => ?_)
  · replace h := h.1 c
    refine g_aload_n 116 gq183 rfl rfl rfl ?_
    refine g_getA 119 307 gq183 rfl rfl rfl rfl rfl rfl rfl ?_
    refine g_iload 121 gq183 rfl rfl rfl ?_
    refine g_iconst 122 gq183 rfl rfl ?_
    refine g_iadd 123 gq183 rfl rfl ?_
    refine g_iconst 124 gq183 rfl rfl ?_
    refine g_iload 126 gq183 rfl rfl rfl ?_
    refine g_imul 127 gq183 rfl rfl ?_
    refine g_iload_n 128 gq183 rfl rfl rfl ?_
    have c17 := h.1
    replace h := h.2
    refine g_if_eq 135 131 gq183 rfl rfl rfl c17 (fun c => ?_) (fun c => ?_)
    · replace h := h.1 c
      refine g_iconst 136 gq183 rfl rfl ?_
      refine g_iadd 137 gq183 rfl rfl ?_
      have c23 := h.1
      replace h := h.2
      refine g_iast 138 gq183 rfl rfl rfl c23 ?_
      refine g_aload_n 139 gq183 rfl rfl rfl ?_
      refine g_getA 142 307 gq183 rfl rfl rfl rfl rfl rfl rfl ?_
      refine g_iload 144 gq183 rfl rfl rfl ?_
      refine g_iconst 145 gq183 rfl rfl ?_
      refine g_iadd 146 gq183 rfl rfl ?_
      refine g_iconst 147 gq183 rfl rfl ?_
      refine g_iload 149 gq183 rfl rfl rfl ?_
      refine g_imul 150 gq183 rfl rfl ?_
      refine g_iload_n 151 gq183 rfl rfl rfl ?_
      refine g_if_eq 158 154 gq183 rfl rfl rfl c17 (fun c => ?_) (fun c => ?_)
      rotate_left
      · exfalso; omega
      refine g_iconst 159 gq183 rfl rfl ?_
      refine g_iadd 160 gq183 rfl rfl ?_
      have c40 := h.1
      replace h := h.2
      refine g_iast 161 gq183 rfl rfl rfl c40 ?_
      refine g_aload_n 162 gq183 rfl rfl rfl ?_
      refine g_getA 165 307 gq183 rfl rfl rfl rfl rfl rfl rfl ?_
      refine g_iconst 166 gq183 rfl rfl ?_
      refine g_iload 168 gq183 rfl rfl rfl ?_
      refine g_iadd 169 gq183 rfl rfl ?_
      refine g_dup2 170 gq183 rfl rfl rfl rfl ?_
      have c49 := h.1
      replace h := h.2
      refine g_iald 171 gq183 rfl rfl rfl c49 ?_
      refine g_iconst 172 gq183 rfl rfl ?_
      refine g_iadd 173 gq183 rfl rfl ?_
      refine g_iast 174 gq183 rfl rfl rfl c49 ?_
      refine g_aload_n 175 gq183 rfl rfl rfl ?_
      refine g_getA 178 307 gq183 rfl rfl rfl rfl rfl rfl rfl ?_
      refine g_bipush 180 gq183 rfl rfl rfl ?_
      refine g_iload 182 gq183 rfl rfl rfl ?_
      refine g_iadd 183 gq183 rfl rfl ?_
      refine g_iload_n 184 gq183 rfl rfl rfl ?_
      have c61 := h.1
      replace h := h.2
      refine g_if_eq 191 187 gq183 rfl rfl rfl c61 (fun c => ?_) (fun c => ?_)
      · replace h := h.1 c
        refine g_iconst 192 gq183 rfl rfl ?_
        have c66 := h.1
        replace h := h.2
        refine g_iast 193 gq183 rfl rfl rfl c66 ?_
        refine g_aload_n 194 gq183 rfl rfl rfl ?_
        refine g_getA 197 307 gq183 rfl rfl rfl rfl rfl rfl rfl ?_
        refine g_iconst 198 gq183 rfl rfl ?_
        refine g_dup2 199 gq183 rfl rfl rfl rfl ?_
        refine g_iald 200 gq183 rfl rfl rfl (by omega) ?_
        refine g_iconst 201 gq183 rfl rfl ?_
        refine g_iadd 202 gq183 rfl rfl ?_
        refine g_iast 203 gq183 rfl rfl rfl (by omega) ?_
        refine g_iconst 204 gq183 rfl rfl ?_
        exact g_zret gq183 rfl rfl (by omega) h
      · replace h := h.2 c
        refine g_iconst 188 gq183 rfl rfl ?_
        refine g_goto 192 gq183 rfl rfl ?_
        have c82 := h.1
        replace h := h.2
        refine g_iast 193 gq183 rfl rfl rfl c82 ?_
        refine g_aload_n 194 gq183 rfl rfl rfl ?_
        refine g_getA 197 307 gq183 rfl rfl rfl rfl rfl rfl rfl ?_
        refine g_iconst 198 gq183 rfl rfl ?_
        refine g_dup2 199 gq183 rfl rfl rfl rfl ?_
        refine g_iald 200 gq183 rfl rfl rfl (by omega) ?_
        refine g_iconst 201 gq183 rfl rfl ?_
        refine g_iadd 202 gq183 rfl rfl ?_
        refine g_iast 203 gq183 rfl rfl rfl (by omega) ?_
        refine g_iconst 204 gq183 rfl rfl ?_
        exact g_zret gq183 rfl rfl (by omega) h
    · replace h := h.2 c
      refine g_iconst 132 gq183 rfl rfl ?_
      refine g_goto 136 gq183 rfl rfl ?_
      refine g_iadd 137 gq183 rfl rfl ?_
      have c99 := h.1
      replace h := h.2
      refine g_iast 138 gq183 rfl rfl rfl c99 ?_
      refine g_aload_n 139 gq183 rfl rfl rfl ?_
      refine g_getA 142 307 gq183 rfl rfl rfl rfl rfl rfl rfl ?_
      refine g_iload 144 gq183 rfl rfl rfl ?_
      refine g_iconst 145 gq183 rfl rfl ?_
      refine g_iadd 146 gq183 rfl rfl ?_
      refine g_iconst 147 gq183 rfl rfl ?_
      refine g_iload 149 gq183 rfl rfl rfl ?_
      refine g_imul 150 gq183 rfl rfl ?_
      refine g_iload_n 151 gq183 rfl rfl rfl ?_
      refine g_if_eq 158 154 gq183 rfl rfl rfl c17 (fun c => ?_) (fun c => ?_)
      · exfalso; omega
      refine g_iconst 155 gq183 rfl rfl ?_
      refine g_goto 159 gq183 rfl rfl ?_
      refine g_iadd 160 gq183 rfl rfl ?_
      have c116 := h.1
      replace h := h.2
      refine g_iast 161 gq183 rfl rfl rfl c116 ?_
      refine g_aload_n 162 gq183 rfl rfl rfl ?_
      refine g_getA 165 307 gq183 rfl rfl rfl rfl rfl rfl rfl ?_
      refine g_iconst 166 gq183 rfl rfl ?_
      refine g_iload 168 gq183 rfl rfl rfl ?_
      refine g_iadd 169 gq183 rfl rfl ?_
      refine g_dup2 170 gq183 rfl rfl rfl rfl ?_
      have c125 := h.1
      replace h := h.2
      refine g_iald 171 gq183 rfl rfl rfl c125 ?_
      refine g_iconst 172 gq183 rfl rfl ?_
      refine g_iadd 173 gq183 rfl rfl ?_
      refine g_iast 174 gq183 rfl rfl rfl c125 ?_
      refine g_aload_n 175 gq183 rfl rfl rfl ?_
      refine g_getA 178 307 gq183 rfl rfl rfl rfl rfl rfl rfl ?_
      refine g_bipush 180 gq183 rfl rfl rfl ?_
      refine g_iload 182 gq183 rfl rfl rfl ?_
      refine g_iadd 183 gq183 rfl rfl ?_
      refine g_iload_n 184 gq183 rfl rfl rfl ?_
      have c137 := h.1
      replace h := h.2
      refine g_if_eq 191 187 gq183 rfl rfl rfl c137 (fun c => ?_) (fun c => ?_)
      · replace h := h.1 c
        refine g_iconst 192 gq183 rfl rfl ?_
        have c142 := h.1
        replace h := h.2
        refine g_iast 193 gq183 rfl rfl rfl c142 ?_
        refine g_aload_n 194 gq183 rfl rfl rfl ?_
        refine g_getA 197 307 gq183 rfl rfl rfl rfl rfl rfl rfl ?_
        refine g_iconst 198 gq183 rfl rfl ?_
        refine g_dup2 199 gq183 rfl rfl rfl rfl ?_
        refine g_iald 200 gq183 rfl rfl rfl (by omega) ?_
        refine g_iconst 201 gq183 rfl rfl ?_
        refine g_iadd 202 gq183 rfl rfl ?_
        refine g_iast 203 gq183 rfl rfl rfl (by omega) ?_
        refine g_iconst 204 gq183 rfl rfl ?_
        exact g_zret gq183 rfl rfl (by omega) h
      · replace h := h.2 c
        refine g_iconst 188 gq183 rfl rfl ?_
        refine g_goto 192 gq183 rfl rfl ?_
        have c158 := h.1
        replace h := h.2
        refine g_iast 193 gq183 rfl rfl rfl c158 ?_
        refine g_aload_n 194 gq183 rfl rfl rfl ?_
        refine g_getA 197 307 gq183 rfl rfl rfl rfl rfl rfl rfl ?_
        refine g_iconst 198 gq183 rfl rfl ?_
        refine g_dup2 199 gq183 rfl rfl rfl rfl ?_
        refine g_iald 200 gq183 rfl rfl rfl (by omega) ?_
        refine g_iconst 201 gq183 rfl rfl ?_
        refine g_iadd 202 gq183 rfl rfl ?_
        refine g_iast 203 gq183 rfl rfl rfl (by omega) ?_
        refine g_iconst 204 gq183 rfl rfl ?_
        exact g_zret gq183 rfl rfl (by omega) h
  · replace h := h.2 c
    refine g_aload_n 94 gq183 rfl rfl rfl ?_
    refine g_getA 97 307 gq183 rfl rfl rfl rfl rfl rfl rfl ?_
    refine g_iload 99 gq183 rfl rfl rfl ?_
    refine g_iconst 100 gq183 rfl rfl ?_
    refine g_iadd 101 gq183 rfl rfl ?_
    refine g_aload_n 102 gq183 rfl rfl rfl ?_
    refine g_getA 105 307 gq183 rfl rfl rfl rfl rfl rfl rfl ?_
    refine g_iload 107 gq183 rfl rfl rfl ?_
    have c180 := h.1
    replace h := h.2
    refine g_iald 108 gq183 rfl rfl rfl c180 ?_
    have c183 := h.1
    replace h := h.2
    refine g_iast 109 gq183 rfl rfl rfl c183 ?_
    refine g_iinc 112 gq183 rfl rfl rfl rfl ?_
    refine g_goto 86 gq183 rfl rfl ?_
    exact kGo.weak (km_Le.s (km_Le.n (km_Le.s (km_Le.s (km_Le.s (km_Le.s (km_Le.s (km_Le.s km_Le.nil)))))))) h
set_option maxRecDepth 10000 in
theorem b184_0 {xs : Nat → Int32} {Lx d : Nat} {V : km_V} {Q : Option Value → km_V → Prop} 
    (h : kCV xs Lx (d + 4) 156 3 [.ref 307, .ref 326] V (fun W1 =>
  kCI xs Lx (d + 4) 171 5 [.ref 299, .ref 326] W1 (fun y2 W2 =>
  (kR y2) ∧ ((y2 ≠ 0 →
    kCV xs Lx (d + 4) 176 3 [.ref 299] W2 (fun W3 =>
    kCV xs Lx (d + 4) 156 3 [.ref 326, .ref 307] W3 (fun W4 =>
    Q (some (kI y2)) W4))) ∧
   (y2 = 0 →
    Q (some (kI 0)) W2))))) :
    kGo xs Lx (d + 5) 184 0 [some (.ref 299), none] [] V Q := by
  refine g_aload_n 1 gq184 rfl rfl rfl ?_
  refine g_getA 4 307 gq184 rfl rfl rfl rfl rfl rfl rfl ?_
  refine g_aload_n 5 gq184 rfl rfl rfl ?_
  refine g_getA 8 326 gq184 rfl rfl rfl rfl rfl rfl rfl ?_
  refine g_static 156 _ (i := 209) gq184 rfl rfl gq156 rfl rfl rfl rfl ?_
  refine kGo.mono h (fun r W1 hr => ?_)
  obtain ⟨rfl, h⟩ := hr
  refine g_aload_n 12 gq184 rfl rfl rfl ?_
  refine g_aload_n 13 gq184 rfl rfl rfl ?_
  refine g_getA 16 326 gq184 rfl rfl rfl rfl rfl rfl rfl ?_
  refine g_virt 171 _ (i := 321) gq184 rfl rfl gq171 rfl rfl rfl rfl rfl rfl ?_
  refine kGo.mono h (fun r W2 hr => ?_)
  obtain ⟨y2, rfl, h⟩ := hr
  refine g_istore_n 20 gq184 rfl rfl rfl ?_
  refine g_iload_n 21 gq184 rfl rfl rfl ?_
  have c15 := h.1
  replace h := h.2
  refine g_if_ne 26 24 gq184 rfl rfl rfl c15 (fun c => ?_) (fun c => ?_)
  · replace h := h.1 c
    refine g_aload_n 27 gq184 rfl rfl rfl ?_
    refine g_virt 176 _ (i := 315) gq184 rfl rfl gq176 rfl rfl rfl rfl rfl rfl ?_
    refine kGo.mono h (fun r W3 hr => ?_)
    obtain ⟨rfl, h⟩ := hr
    refine g_aload_n 31 gq184 rfl rfl rfl ?_
    refine g_getA 34 326 gq184 rfl rfl rfl rfl rfl rfl rfl ?_
    refine g_aload_n 35 gq184 rfl rfl rfl ?_
    refine g_getA 38 307 gq184 rfl rfl rfl rfl rfl rfl rfl ?_
    refine g_static 156 _ (i := 209) gq184 rfl rfl gq156 rfl rfl rfl rfl ?_
    refine kGo.mono h (fun r W4 hr => ?_)
    obtain ⟨rfl, h⟩ := hr
    refine g_iload_n 42 gq184 rfl rfl rfl ?_
    exact g_iret gq184 rfl rfl h
  · replace h := h.2 c
    refine g_iconst 25 gq184 rfl rfl ?_
    exact g_iret gq184 rfl rfl h
set_option maxRecDepth 10000 in
theorem b185_0 {xs : Nat → Int32} {Lx d : Nat} {V : km_V} {Q : Option Value → km_V → Prop} 
    (h : (kR (V 307 (Int.toNat 0))) ∧ (((V 307 (Int.toNat 0)) ≠ 0 →
    kCV xs Lx (d + 0) 176 3 [.ref 299] V (fun W1 =>
    kGo xs Lx (d + 1) 185 17 [some (.ref 299), some (kI 0)] [] W1 Q)) ∧
   ((V 307 (Int.toNat 0)) = 0 →
    Q (some (kI 0)) V))) :
    kGo xs Lx (d + 1) 185 0 [some (.ref 299), none] [] V Q := by
  refine g_aload_n 1 gq185 rfl rfl rfl ?_
  refine g_getA 4 307 gq185 rfl rfl rfl rfl rfl rfl rfl ?_
  refine g_iconst 5 gq185 rfl rfl ?_
  refine g_iald 6 gq185 rfl rfl rfl (by omega) ?_
  have c4 := h.1
  replace h := h.2
  refine g_if_ne 11 9 gq185 rfl rfl rfl c4 (fun c => ?_) (fun c => ?_)
  · replace h := h.1 c
    refine g_aload_n 12 gq185 rfl rfl rfl ?_
    refine g_virt 176 _ (i := 315) gq185 rfl rfl gq176 rfl rfl rfl rfl rfl rfl ?_
    refine kGo.mono h (fun r W1 hr => ?_)
    obtain ⟨rfl, h⟩ := hr
    refine g_iconst 16 gq185 rfl rfl ?_
    refine g_istore_n 17 gq185 rfl rfl rfl ?_
    exact kGo.weak (km_Le.s (km_Le.s km_Le.nil)) h
  · replace h := h.2 c
    refine g_iconst 10 gq185 rfl rfl ?_
    exact g_zret gq185 rfl rfl (by omega) h
set_option maxRecDepth 10000 in
theorem b185_17 {xs : Nat → Int32} {Lx d : Nat} {V : km_V} {Q : Option Value → km_V → Prop} {x1 : Int} 
    (h : (kR x1) ∧ (kR (V 307 (Int.toNat 1))) ∧ (((V 307 (Int.toNat 1)) ≤ x1 →
    Q (some (kI 1)) V) ∧
   (x1 < (V 307 (Int.toNat 1)) →
    kCV xs Lx (d + 0) 175 4 [.ref 307, kI x1] V (fun W1 =>
    kGo xs Lx (d + 1) 185 17 [some (.ref 299), some (kI (x1 + 1))] [] W1 Q)))) :
    kGo xs Lx (d + 1) 185 17 [some (.ref 299), some (kI x1)] [] V Q := by
  refine g_iload_n 18 gq185 rfl rfl rfl ?_
  refine g_aload_n 19 gq185 rfl rfl rfl ?_
  refine g_getA 22 307 gq185 rfl rfl rfl rfl rfl rfl rfl ?_
  refine g_iconst 23 gq185 rfl rfl ?_
  refine g_iald 24 gq185 rfl rfl rfl (by omega) ?_
  have c5 := h.1
  replace h := h.2
  have c7 := h.1
  replace h := h.2
  refine g_icmp_ge 41 27 gq185 rfl rfl rfl c5 c7 (fun c => ?_) (fun c => ?_)
  · replace h := h.1 c
    refine g_iconst 42 gq185 rfl rfl ?_
    exact g_zret gq185 rfl rfl (by omega) h
  · replace h := h.2 c
    refine g_aload_n 28 gq185 rfl rfl rfl ?_
    refine g_getA 31 307 gq185 rfl rfl rfl rfl rfl rfl rfl ?_
    refine g_iload_n 32 gq185 rfl rfl rfl ?_
    refine g_static 175 _ (i := 324) gq185 rfl rfl gq175 rfl rfl rfl rfl ?_
    refine kGo.mono h (fun r W1 hr => ?_)
    obtain ⟨rfl, h⟩ := hr
    refine g_iinc 38 gq185 rfl rfl rfl rfl ?_
    refine g_goto 17 gq185 rfl rfl ?_
    exact kGo.weak (km_Le.s (km_Le.s km_Le.nil)) h
set_option maxRecDepth 10000 in
theorem b186_0 {xs : Nat → Int32} {Lx d : Nat} {V : km_V} {Q : Option Value → km_V → Prop} {a1 : Int} 
    (h : (kR a1) ∧ (kR ((V 307 (Int.toNat 0)) - 1)) ∧ (kR (kin a1 0 ((V 307 (Int.toNat 0)) - 1))) ∧ (((kin a1 0 ((V 307 (Int.toNat 0)) - 1)) ≠ 0 →
    kCV xs Lx (d + 0) 176 3 [.ref 299] V (fun W1 =>
    (∀ z2 : Int, z2 = (6 + (16 * a1)) → (0 ≤ (2 + a1) ∧ (2 + a1) < (78 : Nat)) ∧ (∀ z3 : Int, z3 = (W1 307 (Int.toNat (2 + a1))) → kGo xs Lx (d + 1) 186 45 [some (.ref 299), none, some (kI z2), some (kI z3), some (kI 0), some (kI 0), none] [] W1 Q)))) ∧
   ((kin a1 0 ((V 307 (Int.toNat 0)) - 1)) = 0 →
    Q (some (kI 0)) V))) :
    kGo xs Lx (d + 1) 186 0 [some (.ref 299), some (kI a1), none, none, none, none, none] [] V Q := by
  refine g_iload_n 1 gq186 rfl rfl rfl ?_
  refine g_iconst 2 gq186 rfl rfl ?_
  refine g_aload_n 3 gq186 rfl rfl rfl ?_
  refine g_getA 6 307 gq186 rfl rfl rfl rfl rfl rfl rfl ?_
  refine g_iconst 7 gq186 rfl rfl ?_
  refine g_iald 8 gq186 rfl rfl rfl (by omega) ?_
  refine g_iconst 9 gq186 rfl rfl ?_
  refine g_isub 10 gq186 rfl rfl ?_
  have c8 := h.1
  replace h := h.2
  have c10 := h.1
  replace h := h.2
  refine g_static 153 _ (i := 246) gq186 rfl rfl gq153 rfl rfl rfl rfl ?_
  refine sp_in c8 (by omega) c10 ?_
  have c14 := h.1
  replace h := h.2
  refine g_if_ne 18 16 gq186 rfl rfl rfl c14 (fun c => ?_) (fun c => ?_)
  · replace h := h.1 c
    refine g_aload_n 19 gq186 rfl rfl rfl ?_
    refine g_virt 176 _ (i := 315) gq186 rfl rfl gq176 rfl rfl rfl rfl rfl rfl ?_
    refine kGo.mono h (fun r W1 hr => ?_)
    obtain ⟨rfl, h⟩ := hr
    refine g_bipush 24 gq186 rfl rfl rfl ?_
    refine g_bipush 26 gq186 rfl rfl rfl ?_
    refine g_iload_n 27 gq186 rfl rfl rfl ?_
    refine g_imul 28 gq186 rfl rfl ?_
    refine g_iadd 29 gq186 rfl rfl ?_
    refine g_istore_n 30 gq186 rfl rfl rfl ?_
    replace h := h _ rfl
    refine g_aload_n 31 gq186 rfl rfl rfl ?_
    refine g_getA 34 307 gq186 rfl rfl rfl rfl rfl rfl rfl ?_
    refine g_iconst 35 gq186 rfl rfl ?_
    refine g_iload_n 36 gq186 rfl rfl rfl ?_
    refine g_iadd 37 gq186 rfl rfl ?_
    have c34 := h.1
    replace h := h.2
    refine g_iald 38 gq186 rfl rfl rfl c34 ?_
    refine g_istore_n 39 gq186 rfl rfl rfl ?_
    replace h := h _ rfl
    refine g_iconst 40 gq186 rfl rfl ?_
    refine g_istore 42 gq186 rfl rfl rfl ?_
    refine g_iconst 43 gq186 rfl rfl ?_
    refine g_istore 45 gq186 rfl rfl rfl ?_
    exact kGo.weak (km_Le.s (km_Le.n (km_Le.s (km_Le.s (km_Le.s (km_Le.s (km_Le.n km_Le.nil))))))) h
  · replace h := h.2 c
    refine g_iconst 17 gq186 rfl rfl ?_
    exact g_zret gq186 rfl rfl (by omega) h
set_option maxRecDepth 10000 in
theorem b186_45 {xs : Nat → Int32} {Lx d : Nat} {V : km_V} {Q : Option Value → km_V → Prop} {x2 x3 x4 x5 : Int} 
    (h : (kR x5) ∧ (kR x3) ∧ ((x3 ≤ x5 →
    kGo xs Lx (d + 1) 186 78 [some (.ref 299), none, some (kI x2), some (kI x3), some (kI x4), some (kI 0), none] [] V Q) ∧
   (x5 < x3 →
    (0 ≤ (x2 + x5) ∧ (x2 + x5) < (78 : Nat)) ∧ (0 ≤ (V 307 (Int.toNat (x2 + x5))) ∧ (V 307 (Int.toNat (x2 + x5))) ≤ 2147483647) ∧ (0 ≤ ((V 307 (Int.toNat (x2 + x5))) / 2) ∧ ((V 307 (Int.toNat (x2 + x5))) / 2) < 32) ∧ (0 ≤ x4) ∧ (0 ≤ (1 * ((2 ^ Int.toNat ((V 307 (Int.toNat (x2 + x5))) / 2) : Nat) : Int))) ∧ (∀ z1 : Int, z1 = ((Int.toNat x4 ^^^ Int.toNat (1 * ((2 ^ Int.toNat ((V 307 (Int.toNat (x2 + x5))) / 2) : Nat) : Int)) : Nat) : Int) → kGo xs Lx (d + 1) 186 45 [some (.ref 299), none, some (kI x2), some (kI x3), some (kI z1), some (kI (x5 + 1)), none] [] V Q)))) :
    kGo xs Lx (d + 1) 186 45 [some (.ref 299), none, some (kI x2), some (kI x3), some (kI x4), some (kI x5), none] [] V Q := by
  refine g_iload 47 gq186 rfl rfl rfl ?_
  refine g_iload_n 48 gq186 rfl rfl rfl ?_
  have c2 := h.1
  replace h := h.2
  have c4 := h.1
  replace h := h.2
  refine g_icmp_ge 75 51 gq186 rfl rfl rfl c2 c4 (fun c => ?_) (fun c => ?_)
  · replace h := h.1 c
    refine g_iconst 76 gq186 rfl rfl ?_
    refine g_istore 78 gq186 rfl rfl rfl ?_
    exact kGo.weak (km_Le.s (km_Le.n (km_Le.s (km_Le.s (km_Le.s (km_Le.s (km_Le.n km_Le.nil))))))) h
  · replace h := h.2 c
    refine g_iload 53 gq186 rfl rfl rfl ?_
    refine g_iconst 54 gq186 rfl rfl ?_
    refine g_aload_n 55 gq186 rfl rfl rfl ?_
    refine g_getA 58 307 gq186 rfl rfl rfl rfl rfl rfl rfl ?_
    refine g_iload_n 59 gq186 rfl rfl rfl ?_
    refine g_iload 61 gq186 rfl rfl rfl ?_
    refine g_iadd 62 gq186 rfl rfl ?_
    have c19 := h.1
    replace h := h.2
    refine g_iald 63 gq186 rfl rfl rfl c19 ?_
    refine g_iconst 64 gq186 rfl rfl ?_
    have c23 := h.1
    replace h := h.2
    refine g_idiv 65 gq186 rfl rfl c23 (by omega) ?_
    have c26 := h.1
    replace h := h.2
    refine g_ishl 66 gq186 rfl rfl c26 ?_
    have c29 := h.1
    replace h := h.2
    have c31 := h.1
    replace h := h.2
    refine g_ixor 67 gq186 rfl rfl c29 c31 ?_
    refine g_istore 69 gq186 rfl rfl rfl ?_
    replace h := h _ rfl
    refine g_iinc 72 gq186 rfl rfl rfl rfl ?_
    refine g_goto 45 gq186 rfl rfl ?_
    exact kGo.weak (km_Le.s (km_Le.n (km_Le.s (km_Le.s (km_Le.s (km_Le.s (km_Le.n km_Le.nil))))))) h
set_option maxRecDepth 10000 in
theorem b186_78 {xs : Nat → Int32} {Lx d : Nat} {V : km_V} {Q : Option Value → km_V → Prop} {x2 x3 x4 x5 : Int} 
    (h : (kR x5) ∧ (kR (V 307 (Int.toNat 1))) ∧ (((V 307 (Int.toNat 1)) ≤ x5 →
    kGo xs Lx (d + 1) 186 129 [some (.ref 299), none, some (kI x2), some (kI x3), none, some (kI 1), none] [] V Q) ∧
   (x5 < (V 307 (Int.toNat 1)) →
    ((kR x4 ∧ (0 ≤ x5 ∧ x5 < 32))) ∧ (kR (khas x4 x5)) ∧ (((khas x4 x5) = 0 →
      kGo xs Lx (d + 1) 186 78 [some (.ref 299), none, some (kI x2), some (kI x3), some (kI x4), some (kI (x5 + 1)), none] [] V Q) ∧
     ((khas x4 x5) ≠ 0 →
      (0 ≤ (70 + x5) ∧ (70 + x5) < (78 : Nat)) ∧ kGo xs Lx (d + 1) 186 78 [some (.ref 299), none, some (kI x2), some (kI x3), some (kI x4), some (kI (x5 + 1)), none] [] (up V 307 (Int.toNat (70 + x5)) (-(V 307 (Int.toNat (70 + x5))))) Q))))) :
    kGo xs Lx (d + 1) 186 78 [some (.ref 299), none, some (kI x2), some (kI x3), some (kI x4), some (kI x5), none] [] V Q := by
  refine g_iload 80 gq186 rfl rfl rfl ?_
  refine g_aload_n 81 gq186 rfl rfl rfl ?_
  refine g_getA 84 307 gq186 rfl rfl rfl rfl rfl rfl rfl ?_
  refine g_iconst 85 gq186 rfl rfl ?_
  refine g_iald 86 gq186 rfl rfl rfl (by omega) ?_
  have c5 := h.1
  replace h := h.2
  have c7 := h.1
  replace h := h.2
  refine g_icmp_ge 126 89 gq186 rfl rfl rfl c5 c7 (fun c => ?_) (fun c => ?_)
  · replace h := h.1 c
    refine g_iconst 127 gq186 rfl rfl ?_
    refine g_istore 129 gq186 rfl rfl rfl ?_
    exact kGo.weak (km_Le.s (km_Le.n (km_Le.s (km_Le.s (km_Le.n (km_Le.s (km_Le.n km_Le.nil))))))) h
  · replace h := h.2 c
    refine g_iload 91 gq186 rfl rfl rfl ?_
    refine g_iload 93 gq186 rfl rfl rfl ?_
    have c17 := h.1
    replace h := h.2
    refine g_static 154 _ (i := 250) gq186 rfl rfl gq154 rfl rfl rfl rfl ?_
    refine sp_has c17 ?_
    have c21 := h.1
    replace h := h.2
    refine g_if_eq 120 99 gq186 rfl rfl rfl c21 (fun c => ?_) (fun c => ?_)
    · replace h := h.1 c
      refine g_iinc 123 gq186 rfl rfl rfl rfl ?_
      refine g_goto 78 gq186 rfl rfl ?_
      exact kGo.weak (km_Le.s (km_Le.n (km_Le.s (km_Le.s (km_Le.s (km_Le.s (km_Le.n km_Le.nil))))))) h
    · replace h := h.2 c
      refine g_aload_n 100 gq186 rfl rfl rfl ?_
      refine g_getA 103 307 gq186 rfl rfl rfl rfl rfl rfl rfl ?_
      refine g_bipush 105 gq186 rfl rfl rfl ?_
      refine g_iload 107 gq186 rfl rfl rfl ?_
      refine g_iadd 108 gq186 rfl rfl ?_
      refine g_aload_n 109 gq186 rfl rfl rfl ?_
      refine g_getA 112 307 gq186 rfl rfl rfl rfl rfl rfl rfl ?_
      refine g_bipush 114 gq186 rfl rfl rfl ?_
      refine g_iload 116 gq186 rfl rfl rfl ?_
      refine g_iadd 117 gq186 rfl rfl ?_
      have c39 := h.1
      replace h := h.2
      refine g_iald 118 gq186 rfl rfl rfl c39 ?_
      refine g_ineg 119 gq186 rfl rfl ?_
      refine g_iast 120 gq186 rfl rfl rfl c39 ?_
      refine g_iinc 123 gq186 rfl rfl rfl rfl ?_
      refine g_goto 78 gq186 rfl rfl ?_
      exact kGo.weak (km_Le.s (km_Le.n (km_Le.s (km_Le.s (km_Le.s (km_Le.s (km_Le.n km_Le.nil))))))) h
set_option maxRecDepth 10000 in
theorem b186_129 {xs : Nat → Int32} {Lx d : Nat} {V : km_V} {Q : Option Value → km_V → Prop} {x2 x3 x5 : Int} 
    (h : (kR x5) ∧ (kR (x3 - x5)) ∧ (((x3 - x5) ≤ x5 →
    Q (some (kI 1)) V) ∧
   (x5 < (x3 - x5) →
    (0 ≤ (x2 + x5) ∧ (x2 + x5) < (78 : Nat)) ∧ (∀ z1 : Int, z1 = (V 307 (Int.toNat (x2 + x5))) → (0 ≤ ((x2 + x3) - x5) ∧ ((x2 + x3) - x5) < (78 : Nat)) ∧ kGo xs Lx (d + 1) 186 129 [some (.ref 299), none, some (kI x2), some (kI x3), none, some (kI (x5 + 1)), none] [] (up (up V 307 (Int.toNat (x2 + x5)) (V 307 (Int.toNat ((x2 + x3) - x5)))) 307 (Int.toNat ((x2 + x3) - x5)) z1) Q)))) :
    kGo xs Lx (d + 1) 186 129 [some (.ref 299), none, some (kI x2), some (kI x3), none, some (kI x5), none] [] V Q := by
  refine g_iload 131 gq186 rfl rfl rfl ?_
  refine g_iload_n 132 gq186 rfl rfl rfl ?_
  refine g_iload 134 gq186 rfl rfl rfl ?_
  refine g_isub 135 gq186 rfl rfl ?_
  have c4 := h.1
  replace h := h.2
  have c6 := h.1
  replace h := h.2
  refine g_icmp_ge 188 138 gq186 rfl rfl rfl c4 c6 (fun c => ?_) (fun c => ?_)
  · replace h := h.1 c
    refine g_iconst 189 gq186 rfl rfl ?_
    exact g_zret gq186 rfl rfl (by omega) h
  · replace h := h.2 c
    refine g_aload_n 139 gq186 rfl rfl rfl ?_
    refine g_getA 142 307 gq186 rfl rfl rfl rfl rfl rfl rfl ?_
    refine g_iload_n 143 gq186 rfl rfl rfl ?_
    refine g_iload 145 gq186 rfl rfl rfl ?_
    refine g_iadd 146 gq186 rfl rfl ?_
    have c18 := h.1
    replace h := h.2
    refine g_iald 147 gq186 rfl rfl rfl c18 ?_
    refine g_istore 149 gq186 rfl rfl rfl ?_
    replace h := h _ rfl
    refine g_aload_n 150 gq186 rfl rfl rfl ?_
    refine g_getA 153 307 gq186 rfl rfl rfl rfl rfl rfl rfl ?_
    refine g_iload_n 154 gq186 rfl rfl rfl ?_
    refine g_iload 156 gq186 rfl rfl rfl ?_
    refine g_iadd 157 gq186 rfl rfl ?_
    refine g_aload_n 158 gq186 rfl rfl rfl ?_
    refine g_getA 161 307 gq186 rfl rfl rfl rfl rfl rfl rfl ?_
    refine g_iload_n 162 gq186 rfl rfl rfl ?_
    refine g_iload_n 163 gq186 rfl rfl rfl ?_
    refine g_iadd 164 gq186 rfl rfl ?_
    refine g_iload 166 gq186 rfl rfl rfl ?_
    refine g_isub 167 gq186 rfl rfl ?_
    have c35 := h.1
    replace h := h.2
    refine g_iald 168 gq186 rfl rfl rfl c35 ?_
    refine g_iast 169 gq186 rfl rfl rfl c18 ?_
    refine g_aload_n 170 gq186 rfl rfl rfl ?_
    refine g_getA 173 307 gq186 rfl rfl rfl rfl rfl rfl rfl ?_
    refine g_iload_n 174 gq186 rfl rfl rfl ?_
    refine g_iload_n 175 gq186 rfl rfl rfl ?_
    refine g_iadd 176 gq186 rfl rfl ?_
    refine g_iload 178 gq186 rfl rfl rfl ?_
    refine g_isub 179 gq186 rfl rfl ?_
    refine g_iload 181 gq186 rfl rfl rfl ?_
    refine g_iast 182 gq186 rfl rfl rfl c35 ?_
    refine g_iinc 185 gq186 rfl rfl rfl rfl ?_
    refine g_goto 129 gq186 rfl rfl ?_
    exact kGo.weak (km_Le.s (km_Le.n (km_Le.s (km_Le.s (km_Le.n (km_Le.s (km_Le.n km_Le.nil))))))) h
set_option maxRecDepth 10000 in
theorem b187_0 {xs : Nat → Int32} {Lx d : Nat} {V : km_V} {Q : Option Value → km_V → Prop} {a1 : Int} 
    (h : (kR a1) ∧ (kR ((V 307 (Int.toNat 1)) - 1)) ∧ (kR (kin a1 0 ((V 307 (Int.toNat 1)) - 1))) ∧ (((kin a1 0 ((V 307 (Int.toNat 1)) - 1)) ≠ 0 →
    kCV xs Lx (d + 0) 176 3 [.ref 299] V (fun W1 =>
    kCV xs Lx (d + 0) 175 4 [.ref 307, kI a1] W1 (fun W2 =>
    Q (some (kI 1)) W2))) ∧
   ((kin a1 0 ((V 307 (Int.toNat 1)) - 1)) = 0 →
    Q (some (kI 0)) V))) :
    kGo xs Lx (d + 1) 187 0 [some (.ref 299), some (kI a1)] [] V Q := by
  refine g_iload_n 1 gq187 rfl rfl rfl ?_
  refine g_iconst 2 gq187 rfl rfl ?_
  refine g_aload_n 3 gq187 rfl rfl rfl ?_
  refine g_getA 6 307 gq187 rfl rfl rfl rfl rfl rfl rfl ?_
  refine g_iconst 7 gq187 rfl rfl ?_
  refine g_iald 8 gq187 rfl rfl rfl (by omega) ?_
  refine g_iconst 9 gq187 rfl rfl ?_
  refine g_isub 10 gq187 rfl rfl ?_
  have c8 := h.1
  replace h := h.2
  have c10 := h.1
  replace h := h.2
  refine g_static 153 _ (i := 246) gq187 rfl rfl gq153 rfl rfl rfl rfl ?_
  refine sp_in c8 (by omega) c10 ?_
  have c14 := h.1
  replace h := h.2
  refine g_if_ne 18 16 gq187 rfl rfl rfl c14 (fun c => ?_) (fun c => ?_)
  · replace h := h.1 c
    refine g_aload_n 19 gq187 rfl rfl rfl ?_
    refine g_virt 176 _ (i := 315) gq187 rfl rfl gq176 rfl rfl rfl rfl rfl rfl ?_
    refine kGo.mono h (fun r W1 hr => ?_)
    obtain ⟨rfl, h⟩ := hr
    refine g_aload_n 23 gq187 rfl rfl rfl ?_
    refine g_getA 26 307 gq187 rfl rfl rfl rfl rfl rfl rfl ?_
    refine g_iload_n 27 gq187 rfl rfl rfl ?_
    refine g_static 175 _ (i := 324) gq187 rfl rfl gq175 rfl rfl rfl rfl ?_
    refine kGo.mono h (fun r W2 hr => ?_)
    obtain ⟨rfl, h⟩ := hr
    refine g_iconst 31 gq187 rfl rfl ?_
    exact g_zret gq187 rfl rfl (by omega) h
  · replace h := h.2 c
    refine g_iconst 17 gq187 rfl rfl ?_
    exact g_zret gq187 rfl rfl (by omega) h
set_option maxRecDepth 10000 in
theorem b188_0 {xs : Nat → Int32} {Lx d : Nat} {V : km_V} {Q : Option Value → km_V → Prop} {a1 : Int} 
    (h : kCI xs Lx (d + 1) 179 3 [.ref 299, kI a1] V (fun y1 W1 =>
  (kR y1) ∧ ((y1 = 0 →
    Q (some (kI 0)) W1) ∧
   (y1 ≠ 0 →
    (kR (W1 307 (Int.toNat 0))) ∧ (((W1 307 (Int.toNat 0)) = 0 →
      Q (some (kI 0)) W1) ∧
     ((W1 307 (Int.toNat 0)) ≠ 0 →
      (kR (W1 326 (Int.toNat 0))) ∧ (((W1 326 (Int.toNat 0)) ≠ 0 →
        (kR ((W1 307 (Int.toNat 1)) + (W1 326 (Int.toNat 1)))) ∧ ((8 < ((W1 307 (Int.toNat 1)) + (W1 326 (Int.toNat 1))) →
          Q (some (kI 0)) W1) ∧
         (((W1 307 (Int.toNat 1)) + (W1 326 (Int.toNat 1))) ≤ 8 →
          (kR (((W1 307 (Int.toNat 0)) + (W1 326 (Int.toNat 0))) - 1)) ∧ (((((W1 307 (Int.toNat 0)) + (W1 326 (Int.toNat 0))) - 1) ≤ 4 →
            kCV xs Lx (d + 1) 176 3 [.ref 299] W1 (fun W2 =>
            (∀ z3 : Int, z3 = (W2 307 (Int.toNat 1)) → kGo xs Lx (d + 2) 188 80 [some (.ref 299), none, some (kI z3), some (kI 0), none, none] [] W2 Q))) ∧
           (4 < (((W1 307 (Int.toNat 0)) + (W1 326 (Int.toNat 0))) - 1) →
            Q (some (kI 0)) W1))))) ∧
       ((W1 326 (Int.toNat 0)) = 0 →
        Q (some (kI 0)) W1)))))))) :
    kGo xs Lx (d + 2) 188 0 [some (.ref 299), some (kI a1), none, none, none, none] [] V Q := by
  refine g_aload_n 1 gq188 rfl rfl rfl ?_
  refine g_iload_n 2 gq188 rfl rfl rfl ?_
  refine g_virt 179 _ (i := 312) gq188 rfl rfl gq179 rfl rfl rfl rfl rfl rfl ?_
  refine kGo.mono h (fun r W1 hr => ?_)
  obtain ⟨y1, rfl, h⟩ := hr
  have c5 := h.1
  replace h := h.2
  refine g_if_eq 26 8 gq188 rfl rfl rfl c5 (fun c => ?_) (fun c => ?_)
  · replace h := h.1 c
    refine g_iconst 27 gq188 rfl rfl ?_
    exact g_zret gq188 rfl rfl (by omega) h
  · replace h := h.2 c
    refine g_aload_n 9 gq188 rfl rfl rfl ?_
    refine g_getA 12 307 gq188 rfl rfl rfl rfl rfl rfl rfl ?_
    refine g_iconst 13 gq188 rfl rfl ?_
    refine g_iald 14 gq188 rfl rfl rfl (by omega) ?_
    have c16 := h.1
    replace h := h.2
    refine g_if_eq 26 17 gq188 rfl rfl rfl c16 (fun c => ?_) (fun c => ?_)
    · replace h := h.1 c
      refine g_iconst 27 gq188 rfl rfl ?_
      exact g_zret gq188 rfl rfl (by omega) h
    · replace h := h.2 c
      refine g_aload_n 18 gq188 rfl rfl rfl ?_
      refine g_getA 21 326 gq188 rfl rfl rfl rfl rfl rfl rfl ?_
      refine g_iconst 22 gq188 rfl rfl ?_
      refine g_iald 23 gq188 rfl rfl rfl (by omega) ?_
      have c27 := h.1
      replace h := h.2
      refine g_if_ne 28 26 gq188 rfl rfl rfl c27 (fun c => ?_) (fun c => ?_)
      · replace h := h.1 c
        refine g_aload_n 29 gq188 rfl rfl rfl ?_
        refine g_getA 32 307 gq188 rfl rfl rfl rfl rfl rfl rfl ?_
        refine g_iconst 33 gq188 rfl rfl ?_
        refine g_iald 34 gq188 rfl rfl rfl (by omega) ?_
        refine g_aload_n 35 gq188 rfl rfl rfl ?_
        refine g_getA 38 326 gq188 rfl rfl rfl rfl rfl rfl rfl ?_
        refine g_iconst 39 gq188 rfl rfl ?_
        refine g_iald 40 gq188 rfl rfl rfl (by omega) ?_
        refine g_iadd 41 gq188 rfl rfl ?_
        refine g_bipush 43 gq188 rfl rfl rfl ?_
        have c41 := h.1
        replace h := h.2
        refine g_icmp_gt 65 46 gq188 rfl rfl rfl c41 (by omega) (fun c => ?_) (fun c => ?_)
        · replace h := h.1 c
          refine g_iconst 66 gq188 rfl rfl ?_
          exact g_zret gq188 rfl rfl (by omega) h
        · replace h := h.2 c
          refine g_aload_n 47 gq188 rfl rfl rfl ?_
          refine g_getA 50 307 gq188 rfl rfl rfl rfl rfl rfl rfl ?_
          refine g_iconst 51 gq188 rfl rfl ?_
          refine g_iald 52 gq188 rfl rfl rfl (by omega) ?_
          refine g_aload_n 53 gq188 rfl rfl rfl ?_
          refine g_getA 56 326 gq188 rfl rfl rfl rfl rfl rfl rfl ?_
          refine g_iconst 57 gq188 rfl rfl ?_
          refine g_iald 58 gq188 rfl rfl rfl (by omega) ?_
          refine g_iadd 59 gq188 rfl rfl ?_
          refine g_iconst 60 gq188 rfl rfl ?_
          refine g_isub 61 gq188 rfl rfl ?_
          refine g_iconst 62 gq188 rfl rfl ?_
          have c60 := h.1
          replace h := h.2
          refine g_icmp_le 67 65 gq188 rfl rfl rfl c60 (by omega) (fun c => ?_) (fun c => ?_)
          · replace h := h.1 c
            refine g_aload_n 68 gq188 rfl rfl rfl ?_
            refine g_virt 176 _ (i := 315) gq188 rfl rfl gq176 rfl rfl rfl rfl rfl rfl ?_
            refine kGo.mono h (fun r W2 hr => ?_)
            obtain ⟨rfl, h⟩ := hr
            refine g_aload_n 72 gq188 rfl rfl rfl ?_
            refine g_getA 75 307 gq188 rfl rfl rfl rfl rfl rfl rfl ?_
            refine g_iconst 76 gq188 rfl rfl ?_
            refine g_iald 77 gq188 rfl rfl rfl (by omega) ?_
            refine g_istore_n 78 gq188 rfl rfl rfl ?_
            replace h := h _ rfl
            refine g_iconst 79 gq188 rfl rfl ?_
            refine g_istore_n 80 gq188 rfl rfl rfl ?_
            exact kGo.weak (km_Le.s (km_Le.n (km_Le.s (km_Le.s (km_Le.n (km_Le.n km_Le.nil)))))) h
          · replace h := h.2 c
            refine g_iconst 66 gq188 rfl rfl ?_
            exact g_zret gq188 rfl rfl (by omega) h
      · replace h := h.2 c
        refine g_iconst 27 gq188 rfl rfl ?_
        exact g_zret gq188 rfl rfl (by omega) h
set_option maxRecDepth 10000 in
theorem b188_80 {xs : Nat → Int32} {Lx d : Nat} {V : km_V} {Q : Option Value → km_V → Prop} {x2 x3 : Int} 
    (h : (kR x3) ∧ (kR (V 326 (Int.toNat 0))) ∧ (((V 326 (Int.toNat 0)) ≤ x3 →
    kGo xs Lx (d + 2) 188 182 [some (.ref 299), none, some (kI x2), some (kI 0), none, none] [] V Q) ∧
   (x3 < (V 326 (Int.toNat 0)) →
    ((x3 ≠ 0 →
      (∀ z1 : Int, z1 = (((V 307 (Int.toNat 0)) + x3) - 1) → ((x3 ≤ 0 →
        kGo xs Lx (d + 2) 188 127 [some (.ref 299), none, some (kI x2), some (kI x3), some (kI z1), some (kI 0)] [] V Q) ∧
       (0 < x3 →
        (0 ≤ (2 + z1) ∧ (2 + z1) < (78 : Nat)) ∧ kGo xs Lx (d + 2) 188 127 [some (.ref 299), none, some (kI x2), some (kI x3), some (kI z1), some (kI 0)] [] (up V 307 (Int.toNat (2 + z1)) 0) Q)))) ∧
     (x3 = 0 →
      ((x3 ≤ 0 →
        kGo xs Lx (d + 2) 188 127 [some (.ref 299), none, some (kI x2), some (kI x3), some (kI 0), some (kI 0)] [] V Q) ∧
       (0 < x3 →
        kGo xs Lx (d + 2) 188 127 [some (.ref 299), none, some (kI x2), some (kI x3), some (kI 0), some (kI 0)] [] (up V 307 (Int.toNat (2 + 0)) 0) Q))))))) :
    kGo xs Lx (d + 2) 188 80 [some (.ref 299), none, some (kI x2), some (kI x3), none, none] [] V Q := by
  refine g_iload_n 81 gq188 rfl rfl rfl ?_
  refine g_aload_n 82 gq188 rfl rfl rfl ?_
  refine g_getA 85 326 gq188 rfl rfl rfl rfl rfl rfl rfl ?_
  refine g_iconst 86 gq188 rfl rfl ?_
  refine g_iald 87 gq188 rfl rfl rfl (by omega) ?_
  have c5 := h.1
  replace h := h.2
  have c7 := h.1
  replace h := h.2
  refine g_icmp_ge 180 90 gq188 rfl rfl rfl c5 c7 (fun c => ?_) (fun c => ?_)
  · replace h := h.1 c
    refine g_iconst 181 gq188 rfl rfl ?_
    refine g_istore_n 182 gq188 rfl rfl rfl ?_
    exact kGo.weak (km_Le.s (km_Le.n (km_Le.s (km_Le.s (km_Le.n (km_Le.n km_Le.nil)))))) h
  · replace h := h.2 c
    refine g_iload_n 91 gq188 rfl rfl rfl ?_
    refine g_if_ne 98 94 gq188 rfl rfl rfl c5 (fun c => ?_) (fun c => ?_)
    · replace h := h.1 c
      refine g_aload_n 99 gq188 rfl rfl rfl ?_
      refine g_getA 102 307 gq188 rfl rfl rfl rfl rfl rfl rfl ?_
      refine g_iconst 103 gq188 rfl rfl ?_
      refine g_iald 104 gq188 rfl rfl rfl (by omega) ?_
      refine g_iload_n 105 gq188 rfl rfl rfl ?_
      refine g_iadd 106 gq188 rfl rfl ?_
      refine g_iconst 107 gq188 rfl rfl ?_
      refine g_isub 108 gq188 rfl rfl ?_
      refine g_istore 110 gq188 rfl rfl rfl ?_
      replace h := h _ rfl
      refine g_iload_n 111 gq188 rfl rfl rfl ?_
      refine g_if_le 124 114 gq188 rfl rfl rfl c5 (fun c => ?_) (fun c => ?_)
      · replace h := h.1 c
        refine g_iconst 125 gq188 rfl rfl ?_
        refine g_istore 127 gq188 rfl rfl rfl ?_
        exact kGo.weak (km_Le.s (km_Le.n (km_Le.s (km_Le.s (km_Le.s (km_Le.s km_Le.nil)))))) h
      · replace h := h.2 c
        refine g_aload_n 115 gq188 rfl rfl rfl ?_
        refine g_getA 118 307 gq188 rfl rfl rfl rfl rfl rfl rfl ?_
        refine g_iconst 119 gq188 rfl rfl ?_
        refine g_iload 121 gq188 rfl rfl rfl ?_
        refine g_iadd 122 gq188 rfl rfl ?_
        refine g_iconst 123 gq188 rfl rfl ?_
        have c41 := h.1
        replace h := h.2
        refine g_iast 124 gq188 rfl rfl rfl c41 ?_
        refine g_iconst 125 gq188 rfl rfl ?_
        refine g_istore 127 gq188 rfl rfl rfl ?_
        exact kGo.weak (km_Le.s (km_Le.n (km_Le.s (km_Le.s (km_Le.s (km_Le.s km_Le.nil)))))) h
    · replace h := h.2 c
      refine g_iconst 95 gq188 rfl rfl ?_
      refine g_goto 108 gq188 rfl rfl ?_
      refine g_istore 110 gq188 rfl rfl rfl ?_
      refine g_iload_n 111 gq188 rfl rfl rfl ?_
      refine g_if_le 124 114 gq188 rfl rfl rfl c5 (fun c => ?_) (fun c => ?_)
      · replace h := h.1 c
        refine g_iconst 125 gq188 rfl rfl ?_
        refine g_istore 127 gq188 rfl rfl rfl ?_
        exact kGo.weak (km_Le.s (km_Le.n (km_Le.s (km_Le.s (km_Le.s (km_Le.s km_Le.nil)))))) h
      · replace h := h.2 c
        refine g_aload_n 115 gq188 rfl rfl rfl ?_
        refine g_getA 118 307 gq188 rfl rfl rfl rfl rfl rfl rfl ?_
        refine g_iconst 119 gq188 rfl rfl ?_
        refine g_iload 121 gq188 rfl rfl rfl ?_
        refine g_iadd 122 gq188 rfl rfl ?_
        refine g_iconst 123 gq188 rfl rfl ?_
        refine g_iast 124 gq188 rfl rfl rfl (by omega) ?_
        refine g_iconst 125 gq188 rfl rfl ?_
        refine g_istore 127 gq188 rfl rfl rfl ?_
        exact kGo.weak (km_Le.s (km_Le.n (km_Le.s (km_Le.s (km_Le.s (km_Le.s km_Le.nil)))))) h
set_option maxRecDepth 10000 in
theorem b188_182 {xs : Nat → Int32} {Lx d : Nat} {V : km_V} {Q : Option Value → km_V → Prop} {x2 x3 : Int} 
    (h : (kR x3) ∧ (kR (V 326 (Int.toNat 1))) ∧ (((V 326 (Int.toNat 1)) ≤ x3 →
    Q (some (kI 1)) (up (up V 307 (Int.toNat 0) ((V 307 (Int.toNat 0)) + ((V 326 (Int.toNat 0)) - 1))) 307 (Int.toNat 1) (((up V 307 (Int.toNat 0) ((V 307 (Int.toNat 0)) + ((V 326 (Int.toNat 0)) - 1))) 307 (Int.toNat 1)) + ((up V 307 (Int.toNat 0) ((V 307 (Int.toNat 0)) + ((V 326 (Int.toNat 0)) - 1))) 326 (Int.toNat 1))))) ∧
   (x3 < (V 326 (Int.toNat 1)) →
    (0 ≤ (70 + x3) ∧ (70 + x3) < (78 : Nat)) ∧ (0 ≤ ((70 + x2) + x3) ∧ ((70 + x2) + x3) < (78 : Nat)) ∧ kGo xs Lx (d + 2) 188 182 [some (.ref 299), none, some (kI x2), some (kI (x3 + 1)), none, none] [] (up V 307 (Int.toNat ((70 + x2) + x3)) (V 326 (Int.toNat (70 + x3)))) Q))) :
    kGo xs Lx (d + 2) 188 182 [some (.ref 299), none, some (kI x2), some (kI x3), none, none] [] V Q := by
  refine g_iload_n 183 gq188 rfl rfl rfl ?_
  refine g_aload_n 184 gq188 rfl rfl rfl ?_
  refine g_getA 187 326 gq188 rfl rfl rfl rfl rfl rfl rfl ?_
  refine g_iconst 188 gq188 rfl rfl ?_
  refine g_iald 189 gq188 rfl rfl rfl (by omega) ?_
  have c5 := h.1
  replace h := h.2
  have c7 := h.1
  replace h := h.2
  refine g_icmp_ge 218 192 gq188 rfl rfl rfl c5 c7 (fun c => ?_) (fun c => ?_)
  · replace h := h.1 c
    refine g_aload_n 219 gq188 rfl rfl rfl ?_
    refine g_getA 222 307 gq188 rfl rfl rfl rfl rfl rfl rfl ?_
    refine g_iconst 223 gq188 rfl rfl ?_
    refine g_dup2 224 gq188 rfl rfl rfl rfl ?_
    refine g_iald 225 gq188 rfl rfl rfl (by omega) ?_
    refine g_aload_n 226 gq188 rfl rfl rfl ?_
    refine g_getA 229 326 gq188 rfl rfl rfl rfl rfl rfl rfl ?_
    refine g_iconst 230 gq188 rfl rfl ?_
    refine g_iald 231 gq188 rfl rfl rfl (by omega) ?_
    refine g_iconst 232 gq188 rfl rfl ?_
    refine g_isub 233 gq188 rfl rfl ?_
    refine g_iadd 234 gq188 rfl rfl ?_
    refine g_iast 235 gq188 rfl rfl rfl (by omega) ?_
    refine g_aload_n 236 gq188 rfl rfl rfl ?_
    refine g_getA 239 307 gq188 rfl rfl rfl rfl rfl rfl rfl ?_
    refine g_iconst 240 gq188 rfl rfl ?_
    refine g_dup2 241 gq188 rfl rfl rfl rfl ?_
    refine g_iald 242 gq188 rfl rfl rfl (by omega) ?_
    refine g_aload_n 243 gq188 rfl rfl rfl ?_
    refine g_getA 246 326 gq188 rfl rfl rfl rfl rfl rfl rfl ?_
    refine g_iconst 247 gq188 rfl rfl ?_
    refine g_iald 248 gq188 rfl rfl rfl (by omega) ?_
    refine g_iadd 249 gq188 rfl rfl ?_
    refine g_iast 250 gq188 rfl rfl rfl (by omega) ?_
    refine g_iconst 251 gq188 rfl rfl ?_
    exact g_zret gq188 rfl rfl (by omega) h
  · replace h := h.2 c
    refine g_aload_n 193 gq188 rfl rfl rfl ?_
    refine g_getA 196 307 gq188 rfl rfl rfl rfl rfl rfl rfl ?_
    refine g_bipush 198 gq188 rfl rfl rfl ?_
    refine g_iload_n 199 gq188 rfl rfl rfl ?_
    refine g_iadd 200 gq188 rfl rfl ?_
    refine g_iload_n 201 gq188 rfl rfl rfl ?_
    refine g_iadd 202 gq188 rfl rfl ?_
    refine g_aload_n 203 gq188 rfl rfl rfl ?_
    refine g_getA 206 326 gq188 rfl rfl rfl rfl rfl rfl rfl ?_
    refine g_bipush 208 gq188 rfl rfl rfl ?_
    refine g_iload_n 209 gq188 rfl rfl rfl ?_
    refine g_iadd 210 gq188 rfl rfl ?_
    have c50 := h.1
    replace h := h.2
    refine g_iald 211 gq188 rfl rfl rfl c50 ?_
    have c53 := h.1
    replace h := h.2
    refine g_iast 212 gq188 rfl rfl rfl c53 ?_
    refine g_iinc 215 gq188 rfl rfl rfl rfl ?_
    refine g_goto 182 gq188 rfl rfl ?_
    exact kGo.weak (km_Le.s (km_Le.n (km_Le.s (km_Le.s (km_Le.n (km_Le.n km_Le.nil)))))) h
set_option maxRecDepth 10000 in
theorem b188_127 {xs : Nat → Int32} {Lx d : Nat} {V : km_V} {Q : Option Value → km_V → Prop} {x2 x3 x4 x5 : Int} 
    (h : (0 ≤ (2 + x3) ∧ (2 + x3) < (78 : Nat)) ∧ (kR x5) ∧ (kR (V 326 (Int.toNat (2 + x3)))) ∧ (((V 326 (Int.toNat (2 + x3))) ≤ x5 →
    kGo xs Lx (d + 2) 188 80 [some (.ref 299), none, some (kI x2), some (kI (x3 + 1)), none, none] [] V Q) ∧
   (x5 < (V 326 (Int.toNat (2 + x3))) →
    (0 ≤ ((6 + (16 * x3)) + x5) ∧ ((6 + (16 * x3)) + x5) < (78 : Nat)) ∧ kCV xs Lx (d + 1) 149 3 [.ref 307, kI x4, kI ((V 326 (Int.toNat ((6 + (16 * x3)) + x5))) + (2 * x2))] V (fun W1 =>
    kGo xs Lx (d + 2) 188 127 [some (.ref 299), none, some (kI x2), some (kI x3), some (kI x4), some (kI (x5 + 1))] [] W1 Q)))) :
    kGo xs Lx (d + 2) 188 127 [some (.ref 299), none, some (kI x2), some (kI x3), some (kI x4), some (kI x5)] [] V Q := by
  refine g_iload 129 gq188 rfl rfl rfl ?_
  refine g_aload_n 130 gq188 rfl rfl rfl ?_
  refine g_getA 133 326 gq188 rfl rfl rfl rfl rfl rfl rfl ?_
  refine g_iconst 134 gq188 rfl rfl ?_
  refine g_iload_n 135 gq188 rfl rfl rfl ?_
  refine g_iadd 136 gq188 rfl rfl ?_
  have c6 := h.1
  replace h := h.2
  refine g_iald 137 gq188 rfl rfl rfl c6 ?_
  have c9 := h.1
  replace h := h.2
  have c11 := h.1
  replace h := h.2
  refine g_icmp_ge 174 140 gq188 rfl rfl rfl c9 c11 (fun c => ?_) (fun c => ?_)
  · replace h := h.1 c
    refine g_iinc 177 gq188 rfl rfl rfl rfl ?_
    refine g_goto 80 gq188 rfl rfl ?_
    exact kGo.weak (km_Le.s (km_Le.n (km_Le.s (km_Le.s (km_Le.n (km_Le.n km_Le.nil)))))) h
  · replace h := h.2 c
    refine g_aload_n 141 gq188 rfl rfl rfl ?_
    refine g_getA 144 307 gq188 rfl rfl rfl rfl rfl rfl rfl ?_
    refine g_iload 146 gq188 rfl rfl rfl ?_
    refine g_aload_n 147 gq188 rfl rfl rfl ?_
    refine g_getA 150 326 gq188 rfl rfl rfl rfl rfl rfl rfl ?_
    refine g_bipush 152 gq188 rfl rfl rfl ?_
    refine g_bipush 154 gq188 rfl rfl rfl ?_
    refine g_iload_n 155 gq188 rfl rfl rfl ?_
    refine g_imul 156 gq188 rfl rfl ?_
    refine g_iadd 157 gq188 rfl rfl ?_
    refine g_iload 159 gq188 rfl rfl rfl ?_
    refine g_iadd 160 gq188 rfl rfl ?_
    have c31 := h.1
    replace h := h.2
    refine g_iald 161 gq188 rfl rfl rfl c31 ?_
    refine g_iconst 162 gq188 rfl rfl ?_
    refine g_iload_n 163 gq188 rfl rfl rfl ?_
    refine g_imul 164 gq188 rfl rfl ?_
    refine g_iadd 165 gq188 rfl rfl ?_
    refine g_static 149 _ (i := 242) gq188 rfl rfl gq149 rfl rfl rfl rfl ?_
    refine kGo.mono h (fun r W1 hr => ?_)
    obtain ⟨rfl, h⟩ := hr
    refine g_iinc 171 gq188 rfl rfl rfl rfl ?_
    refine g_goto 127 gq188 rfl rfl ?_
    exact kGo.weak (km_Le.s (km_Le.n (km_Le.s (km_Le.s (km_Le.s (km_Le.s km_Le.nil)))))) h
set_option maxRecDepth 10000 in
theorem b189_0 {xs : Nat → Int32} {Lx d : Nat} {V : km_V} {Q : Option Value → km_V → Prop} {a1 a2 : Int} 
    (h : (kR a1) ∧ (kR ((V 307 (Int.toNat 0)) - 1)) ∧ (kR (kin a1 0 ((V 307 (Int.toNat 0)) - 1))) ∧ (((kin a1 0 ((V 307 (Int.toNat 0)) - 1)) ≠ 0 →
    (0 ≤ (2 + a1) ∧ (2 + a1) < (78 : Nat)) ∧ (∀ z1 : Int, z1 = (V 307 (Int.toNat (2 + a1))) → (kR a2) ∧ ((a2 ≠ (-1) →
      (kR (z1 - 1)) ∧ (kR (kin a2 0 (z1 - 1))) ∧ (((kin a2 0 (z1 - 1)) ≠ 0 →
        (0 ≤ ((6 + (16 * a1)) + a2) ∧ ((6 + (16 * a1)) + a2) < (78 : Nat)) ∧ (∀ z2 : Int, z2 = (V 307 (Int.toNat ((6 + (16 * a1)) + a2))) → (0 ≤ z2 ∧ z2 ≤ 2147483647) ∧ (0 ≤ (70 + (z2 / 2)) ∧ (70 + (z2 / 2)) < (78 : Nat)) ∧ (kR (V 307 (Int.toNat (70 + (z2 / 2))))) ∧ (((V 307 (Int.toNat (70 + (z2 / 2)))) ≠ 1 →
          Q (some (kI (((4 * (z2 / 2)) + (2 * (z2 % 2))) + 0))) V) ∧
         ((V 307 (Int.toNat (70 + (z2 / 2)))) = 1 →
          Q (some (kI (((4 * (z2 / 2)) + (2 * (z2 % 2))) + 1))) V)))) ∧
       ((kin a2 0 (z1 - 1)) = 0 →
        Q (some (kI (-1))) V))) ∧
     (a2 = (-1) →
      Q (some (kI z1)) V)))) ∧
   ((kin a1 0 ((V 307 (Int.toNat 0)) - 1)) = 0 →
    Q (some (kI (-1))) V))) :
    kGo xs Lx (d + 1) 189 0 [some (.ref 299), some (kI a1), some (kI a2), none, none] [] V Q := by
  refine g_iload_n 1 gq189 rfl rfl rfl ?_
  refine g_iconst 2 gq189 rfl rfl ?_
  refine g_aload_n 3 gq189 rfl rfl rfl ?_
  refine g_getA 6 307 gq189 rfl rfl rfl rfl rfl rfl rfl ?_
  refine g_iconst 7 gq189 rfl rfl ?_
  refine g_iald 8 gq189 rfl rfl rfl (by omega) ?_
  refine g_iconst 9 gq189 rfl rfl ?_
  refine g_isub 10 gq189 rfl rfl ?_
  have c8 := h.1
  replace h := h.2
  have c10 := h.1
  replace h := h.2
  refine g_static 153 _ (i := 246) gq189 rfl rfl gq153 rfl rfl rfl rfl ?_
  refine sp_in c8 (by omega) c10 ?_
  have c14 := h.1
  replace h := h.2
  refine g_if_ne 18 16 gq189 rfl rfl rfl c14 (fun c => ?_) (fun c => ?_)
  · replace h := h.1 c
    refine g_aload_n 19 gq189 rfl rfl rfl ?_
    refine g_getA 22 307 gq189 rfl rfl rfl rfl rfl rfl rfl ?_
    refine g_iconst 23 gq189 rfl rfl ?_
    refine g_iload_n 24 gq189 rfl rfl rfl ?_
    refine g_iadd 25 gq189 rfl rfl ?_
    have c23 := h.1
    replace h := h.2
    refine g_iald 26 gq189 rfl rfl rfl c23 ?_
    refine g_istore_n 27 gq189 rfl rfl rfl ?_
    replace h := h _ rfl
    refine g_iload_n 28 gq189 rfl rfl rfl ?_
    refine g_iconst 29 gq189 rfl rfl ?_
    have c30 := h.1
    replace h := h.2
    refine g_icmp_ne 34 32 gq189 rfl rfl rfl c30 (by omega) (fun c => ?_) (fun c => ?_)
    · replace h := h.1 c
      refine g_iload_n 35 gq189 rfl rfl rfl ?_
      refine g_iconst 36 gq189 rfl rfl ?_
      refine g_iload_n 37 gq189 rfl rfl rfl ?_
      refine g_iconst 38 gq189 rfl rfl ?_
      refine g_isub 39 gq189 rfl rfl ?_
      have c39 := h.1
      replace h := h.2
      refine g_static 153 _ (i := 246) gq189 rfl rfl gq153 rfl rfl rfl rfl ?_
      refine sp_in c30 (by omega) c39 ?_
      have c43 := h.1
      replace h := h.2
      refine g_if_ne 47 45 gq189 rfl rfl rfl c43 (fun c => ?_) (fun c => ?_)
      · replace h := h.1 c
        refine g_aload_n 48 gq189 rfl rfl rfl ?_
        refine g_getA 51 307 gq189 rfl rfl rfl rfl rfl rfl rfl ?_
        refine g_bipush 53 gq189 rfl rfl rfl ?_
        refine g_bipush 55 gq189 rfl rfl rfl ?_
        refine g_iload_n 56 gq189 rfl rfl rfl ?_
        refine g_imul 57 gq189 rfl rfl ?_
        refine g_iadd 58 gq189 rfl rfl ?_
        refine g_iload_n 59 gq189 rfl rfl rfl ?_
        refine g_iadd 60 gq189 rfl rfl ?_
        have c56 := h.1
        replace h := h.2
        refine g_iald 61 gq189 rfl rfl rfl c56 ?_
        refine g_istore 63 gq189 rfl rfl rfl ?_
        replace h := h _ rfl
        refine g_iconst 64 gq189 rfl rfl ?_
        refine g_iload 66 gq189 rfl rfl rfl ?_
        refine g_iconst 67 gq189 rfl rfl ?_
        have c64 := h.1
        replace h := h.2
        refine g_idiv 68 gq189 rfl rfl c64 (by omega) ?_
        refine g_imul 69 gq189 rfl rfl ?_
        refine g_iconst 70 gq189 rfl rfl ?_
        refine g_iload 72 gq189 rfl rfl rfl ?_
        refine g_iconst 73 gq189 rfl rfl ?_
        refine g_irem 74 gq189 rfl rfl c64 (by omega) ?_
        refine g_imul 75 gq189 rfl rfl ?_
        refine g_iadd 76 gq189 rfl rfl ?_
        refine g_aload_n 77 gq189 rfl rfl rfl ?_
        refine g_getA 80 307 gq189 rfl rfl rfl rfl rfl rfl rfl ?_
        refine g_bipush 82 gq189 rfl rfl rfl ?_
        refine g_iload 84 gq189 rfl rfl rfl ?_
        refine g_iconst 85 gq189 rfl rfl ?_
        refine g_idiv 86 gq189 rfl rfl c64 (by omega) ?_
        refine g_iadd 87 gq189 rfl rfl ?_
        have c81 := h.1
        replace h := h.2
        refine g_iald 88 gq189 rfl rfl rfl c81 ?_
        refine g_iconst 89 gq189 rfl rfl ?_
        have c85 := h.1
        replace h := h.2
        refine g_icmp_ne 96 92 gq189 rfl rfl rfl c85 (by omega) (fun c => ?_) (fun c => ?_)
        · replace h := h.1 c
          refine g_iconst 97 gq189 rfl rfl ?_
          refine g_iadd 98 gq189 rfl rfl ?_
          exact g_iret gq189 rfl rfl h
        · replace h := h.2 c
          refine g_iconst 93 gq189 rfl rfl ?_
          refine g_goto 97 gq189 rfl rfl ?_
          refine g_iadd 98 gq189 rfl rfl ?_
          exact g_iret gq189 rfl rfl h
      · replace h := h.2 c
        refine g_iconst 46 gq189 rfl rfl ?_
        exact g_iret gq189 rfl rfl h
    · replace h := h.2 c
      refine g_iload_n 33 gq189 rfl rfl rfl ?_
      exact g_iret gq189 rfl rfl h
  · replace h := h.2 c
    refine g_iconst 17 gq189 rfl rfl ?_
    exact g_iret gq189 rfl rfl h
set_option maxRecDepth 10000 in
theorem b190_0 {xs : Nat → Int32} {Lx d : Nat} {V : km_V} {Q : Option Value → km_V → Prop} {a1 a2 : Int} 
    (h : kGo xs Lx (d + 0) 190 2 [some (.ref 299), some (kI a1), some (kI a2), some (kI 0)] [] V Q) :
    kGo xs Lx (d + 0) 190 0 [some (.ref 299), some (kI a1), some (kI a2), none] [] V Q := by
  refine g_iconst 1 gq190 rfl rfl ?_
  refine g_istore_n 2 gq190 rfl rfl rfl ?_
  exact kGo.weak (km_Le.s (km_Le.s (km_Le.s (km_Le.s km_Le.nil)))) h
set_option maxRecDepth 10000 in
theorem b190_2 {xs : Nat → Int32} {Lx d : Nat} {V : km_V} {Q : Option Value → km_V → Prop} {x1 x2 x3 : Int} 
    (h : (0 ≤ x3 ∧ x3 < (16 : Nat)) ∧ (kR (V 313 (Int.toNat x3))) ∧ (kR ((2 * x1) + x2)) ∧ (((V 313 (Int.toNat x3)) = ((2 * x1) + x2) →
    Q (some (kI x3)) V) ∧
   ((V 313 (Int.toNat x3)) ≠ ((2 * x1) + x2) →
    kGo xs Lx (d + 0) 190 2 [some (.ref 299), some (kI x1), some (kI x2), some (kI (x3 + 1))] [] V Q))) :
    kGo xs Lx (d + 0) 190 2 [some (.ref 299), some (kI x1), some (kI x2), some (kI x3)] [] V Q := by
  refine g_aload_n 3 gq190 rfl rfl rfl ?_
  refine g_getA 6 313 gq190 rfl rfl rfl rfl rfl rfl rfl ?_
  refine g_iload_n 7 gq190 rfl rfl rfl ?_
  have c3 := h.1
  replace h := h.2
  refine g_iald 8 gq190 rfl rfl rfl c3 ?_
  refine g_iconst 9 gq190 rfl rfl ?_
  refine g_iload_n 10 gq190 rfl rfl rfl ?_
  refine g_imul 11 gq190 rfl rfl ?_
  refine g_iload_n 12 gq190 rfl rfl rfl ?_
  refine g_iadd 13 gq190 rfl rfl ?_
  have c11 := h.1
  replace h := h.2
  have c13 := h.1
  replace h := h.2
  refine g_icmp_eq 22 16 gq190 rfl rfl rfl c11 c13 (fun c => ?_) (fun c => ?_)
  · replace h := h.1 c
    refine g_iload_n 23 gq190 rfl rfl rfl ?_
    exact g_iret gq190 rfl rfl h
  · replace h := h.2 c
    refine g_iinc 19 gq190 rfl rfl rfl rfl ?_
    refine g_goto 2 gq190 rfl rfl ?_
    exact kGo.weak (km_Le.s (km_Le.s (km_Le.s (km_Le.s km_Le.nil)))) h
set_option maxRecDepth 10000 in
theorem b191_0 {xs : Nat → Int32} {Lx d : Nat} {V : km_V} {Q : Option Value → km_V → Prop} {a1 a2 : Int} 
    (h : (kR a1) ∧ (kR ((V 307 (Int.toNat 1)) - 1)) ∧ (kR (kin a1 0 ((V 307 (Int.toNat 1)) - 1))) ∧ (((kin a1 0 ((V 307 (Int.toNat 1)) - 1)) = 0 →
    Q (some (kI (-100000))) V) ∧
   ((kin a1 0 ((V 307 (Int.toNat 1)) - 1)) ≠ 0 →
    (kR a2) ∧ (kR (kin a2 0 7)) ∧ (((kin a2 0 7) ≠ 0 →
      kCI xs Lx (d + 2) 203 6 [.ref 299, .ref 307] V (fun y1 W1 =>
      ((a2 ≠ 0 →
        ((5 ≤ a2 →
          ((a2 ≠ 5 →
            ((a2 ≠ 6 →
              kCI xs Lx (d + 2) 190 4 [.ref 299, kI a1, kI 1] W1 (fun y2 W2 =>
              (0 ≤ y2 ∧ y2 < (16 : Nat)) ∧ Q (some (kI (W2 331 (Int.toNat y2)))) W2)) ∧
             (a2 = 6 →
              kCI xs Lx (d + 2) 190 4 [.ref 299, kI a1, kI 0] W1 (fun y3 W3 =>
              (0 ≤ y3 ∧ y3 < (16 : Nat)) ∧ Q (some (kI (W3 314 (Int.toNat y3)))) W3)))) ∧
           (a2 = 5 →
            kCI xs Lx (d + 2) 190 4 [.ref 299, kI a1, kI 1] W1 (fun y4 W4 =>
            (0 ≤ y4 ∧ y4 < (16 : Nat)) ∧ Q (some (kI (W4 314 (Int.toNat y4)))) W4)))) ∧
         (a2 < 5 →
          (0 ≤ (((4 * a1) + a2) - 1) ∧ (((4 * a1) + a2) - 1) < (32 : Nat)) ∧ Q (some (kI (W1 317 (Int.toNat (((4 * a1) + a2) - 1))))) W1))) ∧
       (a2 = 0 →
        (0 ≤ (70 + a1) ∧ (70 + a1) < (78 : Nat)) ∧ Q (some (kI (W1 307 (Int.toNat (70 + a1))))) W1)))) ∧
     ((kin a2 0 7) = 0 →
      Q (some (kI (-100000))) V))))) :
    kGo xs Lx (d + 3) 191 0 [some (.ref 299), some (kI a1), some (kI a2), none] [] V Q := by
  refine g_iload_n 1 gq191 rfl rfl rfl ?_
  refine g_iconst 2 gq191 rfl rfl ?_
  refine g_aload_n 3 gq191 rfl rfl rfl ?_
  refine g_getA 6 307 gq191 rfl rfl rfl rfl rfl rfl rfl ?_
  refine g_iconst 7 gq191 rfl rfl ?_
  refine g_iald 8 gq191 rfl rfl rfl (by omega) ?_
  refine g_iconst 9 gq191 rfl rfl ?_
  refine g_isub 10 gq191 rfl rfl ?_
  have c8 := h.1
  replace h := h.2
  have c10 := h.1
  replace h := h.2
  refine g_static 153 _ (i := 246) gq191 rfl rfl gq153 rfl rfl rfl rfl ?_
  refine sp_in c8 (by omega) c10 ?_
  have c14 := h.1
  replace h := h.2
  refine g_if_eq 26 16 gq191 rfl rfl rfl c14 (fun c => ?_) (fun c => ?_)
  · replace h := h.1 c
    refine g_ldcw 29 (-100000) gq191 rfl rfl rfl rfl ?_
    exact g_iret gq191 rfl rfl h
  · replace h := h.2 c
    refine g_iload_n 17 gq191 rfl rfl rfl ?_
    refine g_iconst 18 gq191 rfl rfl ?_
    refine g_bipush 20 gq191 rfl rfl rfl ?_
    have c24 := h.1
    replace h := h.2
    refine g_static 153 _ (i := 246) gq191 rfl rfl gq153 rfl rfl rfl rfl ?_
    refine sp_in c24 (by omega) (by omega) ?_
    have c28 := h.1
    replace h := h.2
    refine g_if_ne 30 26 gq191 rfl rfl rfl c28 (fun c => ?_) (fun c => ?_)
    · replace h := h.1 c
      refine g_aload_n 31 gq191 rfl rfl rfl ?_
      refine g_aload_n 32 gq191 rfl rfl rfl ?_
      refine g_getA 35 307 gq191 rfl rfl rfl rfl rfl rfl rfl ?_
      refine g_virt 203 _ (i := 328) gq191 rfl rfl gq203 rfl rfl rfl rfl rfl rfl ?_
      refine kGo.mono h (fun r W1 hr => ?_)
      obtain ⟨y1, rfl, h⟩ := hr
      refine g_istore_n 39 gq191 rfl rfl rfl ?_
      refine g_iload_n 40 gq191 rfl rfl rfl ?_
      refine g_if_ne 53 43 gq191 rfl rfl rfl c24 (fun c => ?_) (fun c => ?_)
      · replace h := h.1 c
        refine g_iload_n 54 gq191 rfl rfl rfl ?_
        refine g_iconst 55 gq191 rfl rfl ?_
        refine g_icmp_ge 71 58 gq191 rfl rfl rfl c24 (by omega) (fun c => ?_) (fun c => ?_)
        · replace h := h.1 c
          refine g_iload_n 72 gq191 rfl rfl rfl ?_
          refine g_iconst 73 gq191 rfl rfl ?_
          refine g_icmp_ne 90 76 gq191 rfl rfl rfl c24 (by omega) (fun c => ?_) (fun c => ?_)
          · replace h := h.1 c
            refine g_iload_n 91 gq191 rfl rfl rfl ?_
            refine g_bipush 93 gq191 rfl rfl rfl ?_
            refine g_icmp_ne 110 96 gq191 rfl rfl rfl c24 (by omega) (fun c => ?_) (fun c => ?_)
            · replace h := h.1 c
              refine g_aload_n 111 gq191 rfl rfl rfl ?_
              refine g_getA 114 331 gq191 rfl rfl rfl rfl rfl rfl rfl ?_
              refine g_aload_n 115 gq191 rfl rfl rfl ?_
              refine g_iload_n 116 gq191 rfl rfl rfl ?_
              refine g_iconst 117 gq191 rfl rfl ?_
              refine g_virt 190 _ (i := 331) gq191 rfl rfl gq190 rfl rfl rfl rfl rfl rfl ?_
              refine kGo.mono h (fun r W2 hr => ?_)
              obtain ⟨y2, rfl, h⟩ := hr
              have c62 := h.1
              replace h := h.2
              refine g_iald 121 gq191 rfl rfl rfl c62 ?_
              exact g_iret gq191 rfl rfl h
            · replace h := h.2 c
              refine g_aload_n 97 gq191 rfl rfl rfl ?_
              refine g_getA 100 314 gq191 rfl rfl rfl rfl rfl rfl rfl ?_
              refine g_aload_n 101 gq191 rfl rfl rfl ?_
              refine g_iload_n 102 gq191 rfl rfl rfl ?_
              refine g_iconst 103 gq191 rfl rfl ?_
              refine g_virt 190 _ (i := 331) gq191 rfl rfl gq190 rfl rfl rfl rfl rfl rfl ?_
              refine kGo.mono h (fun r W3 hr => ?_)
              obtain ⟨y3, rfl, h⟩ := hr
              have c75 := h.1
              replace h := h.2
              refine g_iald 107 gq191 rfl rfl rfl c75 ?_
              refine g_goto 121 gq191 rfl rfl ?_
              exact g_iret gq191 rfl rfl h
          · replace h := h.2 c
            refine g_aload_n 77 gq191 rfl rfl rfl ?_
            refine g_getA 80 314 gq191 rfl rfl rfl rfl rfl rfl rfl ?_
            refine g_aload_n 81 gq191 rfl rfl rfl ?_
            refine g_iload_n 82 gq191 rfl rfl rfl ?_
            refine g_iconst 83 gq191 rfl rfl ?_
            refine g_virt 190 _ (i := 331) gq191 rfl rfl gq190 rfl rfl rfl rfl rfl rfl ?_
            refine kGo.mono h (fun r W4 hr => ?_)
            obtain ⟨y4, rfl, h⟩ := hr
            have c89 := h.1
            replace h := h.2
            refine g_iald 87 gq191 rfl rfl rfl c89 ?_
            refine g_goto 121 gq191 rfl rfl ?_
            exact g_iret gq191 rfl rfl h
        · replace h := h.2 c
          refine g_aload_n 59 gq191 rfl rfl rfl ?_
          refine g_getA 62 317 gq191 rfl rfl rfl rfl rfl rfl rfl ?_
          refine g_iconst 63 gq191 rfl rfl ?_
          refine g_iload_n 64 gq191 rfl rfl rfl ?_
          refine g_imul 65 gq191 rfl rfl ?_
          refine g_iload_n 66 gq191 rfl rfl rfl ?_
          refine g_iadd 67 gq191 rfl rfl ?_
          refine g_iconst 68 gq191 rfl rfl ?_
          refine g_isub 69 gq191 rfl rfl ?_
          have c104 := h.1
          replace h := h.2
          refine g_iald 70 gq191 rfl rfl rfl c104 ?_
          exact g_iret gq191 rfl rfl h
      · replace h := h.2 c
        refine g_aload_n 44 gq191 rfl rfl rfl ?_
        refine g_getA 47 307 gq191 rfl rfl rfl rfl rfl rfl rfl ?_
        refine g_bipush 49 gq191 rfl rfl rfl ?_
        refine g_iload_n 50 gq191 rfl rfl rfl ?_
        refine g_iadd 51 gq191 rfl rfl ?_
        have c114 := h.1
        replace h := h.2
        refine g_iald 52 gq191 rfl rfl rfl c114 ?_
        exact g_iret gq191 rfl rfl h
    · replace h := h.2 c
      refine g_ldcw 29 (-100000) gq191 rfl rfl rfl rfl ?_
      exact g_iret gq191 rfl rfl h
set_option maxRecDepth 10000 in
theorem b192_0 {xs : Nat → Int32} {Lx d : Nat} {V : km_V} {Q : Option Value → km_V → Prop} {a1 a2 : Int} 
    (h : kCI xs Lx (d + 2) 161 4 [.ref 299, .ref 307] V (fun y1 W1 =>
  (kR a1) ∧ ((a1 ≠ (-1) →
    (kR (y1 - 1)) ∧ (kR (kin a1 0 (y1 - 1))) ∧ (((kin a1 0 (y1 - 1)) = 0 →
      Q (some (kI (-1))) W1) ∧
     ((kin a1 0 (y1 - 1)) ≠ 0 →
      (kR a2) ∧ ((0 ≤ a2 →
        ((a2 ≠ 0 →
          ((a2 ≠ 1 →
            (0 ≤ a1 ∧ a1 < (32 : Nat)) ∧ (kR (a2 - 2)) ∧ (kR (W1 320 (Int.toNat a1))) ∧ (((a2 - 2) < (W1 320 (Int.toNat a1)) →
              (∀ z2 : Int, z2 = (W1 319 (Int.toNat a1)) → kGo xs Lx (d + 3) 192 84 [some (.ref 299), none, some (kI a2), none, some (kI z2), some (kI 0)] [] W1 Q)) ∧
             ((W1 320 (Int.toNat a1)) ≤ (a2 - 2) →
              Q (some (kI (-1))) W1))) ∧
           (a2 = 1 →
            kCI xs Lx (d + 2) 166 8 [.ref 299, .ref 307, kI a1] W1 (fun y3 W3 =>
            Q (some (kI y3)) W3)))) ∧
         (a2 = 0 →
          (0 ≤ a1 ∧ a1 < (32 : Nat)) ∧ Q (some (kI (W1 320 (Int.toNat a1)))) W1))) ∧
       (a2 < 0 →
        Q (some (kI (-1))) W1))))) ∧
   (a1 = (-1) →
    Q (some (kI y1)) W1)))) :
    kGo xs Lx (d + 3) 192 0 [some (.ref 299), some (kI a1), some (kI a2), none, none, none] [] V Q := by
  refine g_aload_n 1 gq192 rfl rfl rfl ?_
  refine g_aload_n 2 gq192 rfl rfl rfl ?_
  refine g_getA 5 307 gq192 rfl rfl rfl rfl rfl rfl rfl ?_
  refine g_virt 161 _ (i := 277) gq192 rfl rfl gq161 rfl rfl rfl rfl rfl rfl ?_
  refine kGo.mono h (fun r W1 hr => ?_)
  obtain ⟨y1, rfl, h⟩ := hr
  refine g_istore_n 9 gq192 rfl rfl rfl ?_
  refine g_iload_n 10 gq192 rfl rfl rfl ?_
  refine g_iconst 11 gq192 rfl rfl ?_
  have c9 := h.1
  replace h := h.2
  refine g_icmp_ne 16 14 gq192 rfl rfl rfl c9 (by omega) (fun c => ?_) (fun c => ?_)
  · replace h := h.1 c
    refine g_iload_n 17 gq192 rfl rfl rfl ?_
    refine g_iconst 18 gq192 rfl rfl ?_
    refine g_iload_n 19 gq192 rfl rfl rfl ?_
    refine g_iconst 20 gq192 rfl rfl ?_
    refine g_isub 21 gq192 rfl rfl ?_
    have c18 := h.1
    replace h := h.2
    refine g_static 153 _ (i := 246) gq192 rfl rfl gq153 rfl rfl rfl rfl ?_
    refine sp_in c9 (by omega) c18 ?_
    have c22 := h.1
    replace h := h.2
    refine g_if_eq 31 27 gq192 rfl rfl rfl c22 (fun c => ?_) (fun c => ?_)
    · replace h := h.1 c
      refine g_iconst 32 gq192 rfl rfl ?_
      exact g_iret gq192 rfl rfl h
    · replace h := h.2 c
      refine g_iload_n 28 gq192 rfl rfl rfl ?_
      have c30 := h.1
      replace h := h.2
      refine g_if_ge 33 31 gq192 rfl rfl rfl c30 (fun c => ?_) (fun c => ?_)
      · replace h := h.1 c
        refine g_iload_n 34 gq192 rfl rfl rfl ?_
        refine g_if_ne 44 37 gq192 rfl rfl rfl c30 (fun c => ?_) (fun c => ?_)
        · replace h := h.1 c
          refine g_iload_n 45 gq192 rfl rfl rfl ?_
          refine g_iconst 46 gq192 rfl rfl ?_
          refine g_icmp_ne 59 49 gq192 rfl rfl rfl c30 (by omega) (fun c => ?_) (fun c => ?_)
          · replace h := h.1 c
            refine g_iload_n 60 gq192 rfl rfl rfl ?_
            refine g_iconst 61 gq192 rfl rfl ?_
            refine g_isub 62 gq192 rfl rfl ?_
            refine g_aload_n 63 gq192 rfl rfl rfl ?_
            refine g_getA 66 320 gq192 rfl rfl rfl rfl rfl rfl rfl ?_
            refine g_iload_n 67 gq192 rfl rfl rfl ?_
            have c47 := h.1
            replace h := h.2
            refine g_iald 68 gq192 rfl rfl rfl c47 ?_
            have c50 := h.1
            replace h := h.2
            have c52 := h.1
            replace h := h.2
            refine g_icmp_lt 73 71 gq192 rfl rfl rfl c50 c52 (fun c => ?_) (fun c => ?_)
            · replace h := h.1 c
              refine g_aload_n 74 gq192 rfl rfl rfl ?_
              refine g_getA 77 319 gq192 rfl rfl rfl rfl rfl rfl rfl ?_
              refine g_iload_n 78 gq192 rfl rfl rfl ?_
              refine g_iald 79 gq192 rfl rfl rfl c47 ?_
              refine g_istore 81 gq192 rfl rfl rfl ?_
              replace h := h _ rfl
              refine g_iconst 82 gq192 rfl rfl ?_
              refine g_istore 84 gq192 rfl rfl rfl ?_
              exact kGo.weak (km_Le.s (km_Le.n (km_Le.s (km_Le.n (km_Le.s (km_Le.s km_Le.nil)))))) h
            · replace h := h.2 c
              refine g_iconst 72 gq192 rfl rfl ?_
              exact g_iret gq192 rfl rfl h
          · replace h := h.2 c
            refine g_aload_n 50 gq192 rfl rfl rfl ?_
            refine g_aload_n 51 gq192 rfl rfl rfl ?_
            refine g_getA 54 307 gq192 rfl rfl rfl rfl rfl rfl rfl ?_
            refine g_iload_n 55 gq192 rfl rfl rfl ?_
            refine g_virt 166 _ (i := 290) gq192 rfl rfl gq166 rfl rfl rfl rfl rfl rfl ?_
            refine kGo.mono h (fun r W3 hr => ?_)
            obtain ⟨y3, rfl, h⟩ := hr
            exact g_iret gq192 rfl rfl h
        · replace h := h.2 c
          refine g_aload_n 38 gq192 rfl rfl rfl ?_
          refine g_getA 41 320 gq192 rfl rfl rfl rfl rfl rfl rfl ?_
          refine g_iload_n 42 gq192 rfl rfl rfl ?_
          have c81 := h.1
          replace h := h.2
          refine g_iald 43 gq192 rfl rfl rfl c81 ?_
          exact g_iret gq192 rfl rfl h
      · replace h := h.2 c
        refine g_iconst 32 gq192 rfl rfl ?_
        exact g_iret gq192 rfl rfl h
  · replace h := h.2 c
    refine g_iload_n 15 gq192 rfl rfl rfl ?_
    exact g_iret gq192 rfl rfl h
set_option maxRecDepth 10000 in
theorem b192_84 {xs : Nat → Int32} {Lx d : Nat} {V : km_V} {Q : Option Value → km_V → Prop} {x2 x4 x5 : Int} 
    (h : (kR x5) ∧ (kR (x2 - 2)) ∧ (((x2 - 2) ≤ x5 →
    Q (some (kI x4)) V) ∧
   (x5 < (x2 - 2) →
    (kturnC V 307 x4) ∧ (∀ z1 : Int, z1 = (kturn V 307 x4) → kGo xs Lx (d + 3) 192 84 [some (.ref 299), none, some (kI x2), none, some (kI z1), some (kI (x5 + 1))] [] V Q)))) :
    kGo xs Lx (d + 3) 192 84 [some (.ref 299), none, some (kI x2), none, some (kI x4), some (kI x5)] [] V Q := by
  refine g_iload 86 gq192 rfl rfl rfl ?_
  refine g_iload_n 87 gq192 rfl rfl rfl ?_
  refine g_iconst 88 gq192 rfl rfl ?_
  refine g_isub 89 gq192 rfl rfl ?_
  have c4 := h.1
  replace h := h.2
  have c6 := h.1
  replace h := h.2
  refine g_icmp_ge 110 92 gq192 rfl rfl rfl c4 c6 (fun c => ?_) (fun c => ?_)
  · replace h := h.1 c
    refine g_iload 112 gq192 rfl rfl rfl ?_
    exact g_iret gq192 rfl rfl h
  · replace h := h.2 c
    refine g_aload_n 93 gq192 rfl rfl rfl ?_
    refine g_aload_n 94 gq192 rfl rfl rfl ?_
    refine g_getA 97 307 gq192 rfl rfl rfl rfl rfl rfl rfl ?_
    refine g_iload 99 gq192 rfl rfl rfl ?_
    have c17 := h.1
    replace h := h.2
    refine g_virt 159 _ (i := 270) gq192 rfl rfl gq159 rfl rfl rfl rfl rfl rfl ?_
    refine sp_turn rfl c17 ?_
    refine g_istore 104 gq192 rfl rfl rfl ?_
    replace h := h _ rfl
    refine g_iinc 107 gq192 rfl rfl rfl rfl ?_
    refine g_goto 84 gq192 rfl rfl ?_
    exact kGo.weak (km_Le.s (km_Le.n (km_Le.s (km_Le.n (km_Le.s (km_Le.s km_Le.nil)))))) h
set_option maxRecDepth 10000 in
theorem b193_0 {xs : Nat → Int32} {Lx d : Nat} {V : km_V} {Q : Option Value → km_V → Prop} {r0 : Nat} (hr0 : km_sh[r0]? = some (11, 78))
    (h : kGo xs Lx (d + 0) 193 4 [some (.ref r0), some (kI 0), some (kI 0)] [] V Q) :
    kGo xs Lx (d + 0) 193 0 [some (.ref r0), none, none] [] V Q := by
  refine g_iconst 1 gq193 rfl rfl ?_
  refine g_istore_n 2 gq193 rfl rfl rfl ?_
  refine g_iconst 3 gq193 rfl rfl ?_
  refine g_istore_n 4 gq193 rfl rfl rfl ?_
  exact kGo.weak (km_Le.s (km_Le.s (km_Le.s km_Le.nil))) h
set_option maxRecDepth 10000 in
theorem b193_4 {xs : Nat → Int32} {Lx d : Nat} {V : km_V} {Q : Option Value → km_V → Prop} {x1 x2 : Int} {q0 : Nat} (hq0 : km_sh[q0]? = some (11, 78))
    (h : (kR x2) ∧ (kR (V q0 (Int.toNat 0))) ∧ (((V q0 (Int.toNat 0)) ≤ x2 →
    Q (some (kI x1)) V) ∧
   (x2 < (V q0 (Int.toNat 0)) →
    (0 ≤ (2 + x2) ∧ (2 + x2) < (78 : Nat)) ∧ (kR (V q0 (Int.toNat (2 + x2)))) ∧ (((V q0 (Int.toNat (2 + x2))) ≠ 0 →
      kGo xs Lx (d + 0) 193 4 [some (.ref q0), some (kI x1), some (kI (x2 + 1))] [] V Q) ∧
     ((V q0 (Int.toNat (2 + x2))) = 0 →
      kGo xs Lx (d + 0) 193 4 [some (.ref q0), some (kI (x1 + 1)), some (kI (x2 + 1))] [] V Q))))) :
    kGo xs Lx (d + 0) 193 4 [some (.ref q0), some (kI x1), some (kI x2)] [] V Q := by
  refine g_iload_n 5 gq193 rfl rfl rfl ?_
  refine g_aload_n 6 gq193 rfl rfl rfl ?_
  refine g_iconst 7 gq193 rfl rfl ?_
  refine g_iald 8 gq193 rfl rfl hq0 (by omega) ?_
  have c4 := h.1
  replace h := h.2
  have c6 := h.1
  replace h := h.2
  refine g_icmp_ge 28 11 gq193 rfl rfl rfl c4 c6 (fun c => ?_) (fun c => ?_)
  · replace h := h.1 c
    refine g_iload_n 29 gq193 rfl rfl rfl ?_
    exact g_iret gq193 rfl rfl h
  · replace h := h.2 c
    refine g_aload_n 12 gq193 rfl rfl rfl ?_
    refine g_iconst 13 gq193 rfl rfl ?_
    refine g_iload_n 14 gq193 rfl rfl rfl ?_
    refine g_iadd 15 gq193 rfl rfl ?_
    have c17 := h.1
    replace h := h.2
    refine g_iald 16 gq193 rfl rfl hq0 c17 ?_
    have c20 := h.1
    replace h := h.2
    refine g_if_ne 22 19 gq193 rfl rfl rfl c20 (fun c => ?_) (fun c => ?_)
    · replace h := h.1 c
      refine g_iinc 25 gq193 rfl rfl rfl rfl ?_
      refine g_goto 4 gq193 rfl rfl ?_
      exact kGo.weak (km_Le.s (km_Le.s (km_Le.s km_Le.nil))) h
    · replace h := h.2 c
      refine g_iinc 22 gq193 rfl rfl rfl rfl ?_
      refine g_iinc 25 gq193 rfl rfl rfl rfl ?_
      refine g_goto 4 gq193 rfl rfl ?_
      exact kGo.weak (km_Le.s (km_Le.s (km_Le.s km_Le.nil))) h
set_option maxRecDepth 10000 in
theorem b194_0 {xs : Nat → Int32} {Lx d : Nat} {V : km_V} {Q : Option Value → km_V → Prop} {a2 : Int} {r1 : Nat} (hr1 : km_sh[r1]? = some (11, 78))
    (h : kGo xs Lx (d + 1) 194 8 [some (.ref 299), some (.ref r1), some (kI a2), some (kI (V 299 25)), some (kI 0), none, none] [] V Q) :
    kGo xs Lx (d + 1) 194 0 [some (.ref 299), some (.ref r1), some (kI a2), none, none, none, none] [] V Q := by
  refine g_aload_n 1 gq194 rfl rfl rfl ?_
  refine g_getI 4 gq194 rfl rfl rfl rfl rfl rfl ?_
  refine g_istore_n 5 gq194 rfl rfl rfl ?_
  refine g_iconst 6 gq194 rfl rfl ?_
  refine g_istore 8 gq194 rfl rfl rfl ?_
  exact kGo.weak (km_Le.s (km_Le.s (km_Le.s (km_Le.s (km_Le.s (km_Le.n (km_Le.n km_Le.nil))))))) h
set_option maxRecDepth 10000 in
theorem b194_8 {xs : Nat → Int32} {Lx d : Nat} {V : km_V} {Q : Option Value → km_V → Prop} {x2 x3 x4 : Int} {q1 : Nat} (hq1 : km_sh[q1]? = some (11, 78))
    (h : (kR x4) ∧ (kR (V 299 25)) ∧ (((V 299 25) ≤ x4 →
    kGo xs Lx (d + 1) 194 35 [some (.ref 299), some (.ref q1), some (kI x2), some (kI x3), some (kI 0), none, none] [] V Q) ∧
   (x4 < (V 299 25) →
    (0 ≤ x4 ∧ x4 < (16 : Nat)) ∧ kGo xs Lx (d + 1) 194 8 [some (.ref 299), some (.ref q1), some (kI x2), some (kI x3), some (kI (x4 + 1)), none, none] [] (up V 322 (Int.toNat x4) x4) Q))) :
    kGo xs Lx (d + 1) 194 8 [some (.ref 299), some (.ref q1), some (kI x2), some (kI x3), some (kI x4), none, none] [] V Q := by
  refine g_iload 10 gq194 rfl rfl rfl ?_
  refine g_aload_n 11 gq194 rfl rfl rfl ?_
  refine g_getI 14 gq194 rfl rfl rfl rfl rfl rfl ?_
  have c3 := h.1
  replace h := h.2
  have c5 := h.1
  replace h := h.2
  refine g_icmp_ge 32 17 gq194 rfl rfl rfl c3 c5 (fun c => ?_) (fun c => ?_)
  · replace h := h.1 c
    refine g_iconst 33 gq194 rfl rfl ?_
    refine g_istore 35 gq194 rfl rfl rfl ?_
    exact kGo.weak (km_Le.s (km_Le.s (km_Le.s (km_Le.s (km_Le.s (km_Le.n (km_Le.n km_Le.nil))))))) h
  · replace h := h.2 c
    refine g_aload_n 18 gq194 rfl rfl rfl ?_
    refine g_getA 21 322 gq194 rfl rfl rfl rfl rfl rfl rfl ?_
    refine g_iload 23 gq194 rfl rfl rfl ?_
    refine g_iload 25 gq194 rfl rfl rfl ?_
    have c17 := h.1
    replace h := h.2
    refine g_iast 26 gq194 rfl rfl rfl c17 ?_
    refine g_iinc 29 gq194 rfl rfl rfl rfl ?_
    refine g_goto 8 gq194 rfl rfl ?_
    exact kGo.weak (km_Le.s (km_Le.s (km_Le.s (km_Le.s (km_Le.s (km_Le.n (km_Le.n km_Le.nil))))))) h
set_option maxRecDepth 10000 in
theorem b194_35 {xs : Nat → Int32} {Lx d : Nat} {V : km_V} {Q : Option Value → km_V → Prop} {x2 x3 x4 : Int} {q1 : Nat} (hq1 : km_sh[q1]? = some (11, 78))
    (h : (kR x4) ∧ (kR (V q1 (Int.toNat 1))) ∧ (((V q1 (Int.toNat 1)) ≤ x4 →
    kCI xs Lx (d + 0) 193 3 [.ref q1] V (fun y1 W1 =>
    Q (some (kI (x3 + y1))) W1)) ∧
   (x4 < (V q1 (Int.toNat 1)) →
    ((kR x2 ∧ (0 ≤ x4 ∧ x4 < 32))) ∧ (0 ≤ (4 * x4) ∧ (4 * x4) < (32 : Nat)) ∧ (kR (khas x2 x4)) ∧ (((khas x2 x4) = 0 →
      (0 ≤ ((4 * x4) + 1) ∧ ((4 * x4) + 1) < (32 : Nat)) ∧ kCI xs Lx (d + 0) 163 7 [.ref 299, kI (V 317 (Int.toNat (4 * x4))), kI (V 317 (Int.toNat ((4 * x4) + 1))), kI (V 299 25)] V (fun y2 W2 =>
      (0 ≤ ((4 * x4) + 2) ∧ ((4 * x4) + 2) < (32 : Nat)) ∧ (0 ≤ ((4 * x4) + 3) ∧ ((4 * x4) + 3) < (32 : Nat)) ∧ kCI xs Lx (d + 0) 163 7 [.ref 299, kI (W2 317 (Int.toNat ((4 * x4) + 2))), kI (W2 317 (Int.toNat ((4 * x4) + 3))), kI (W2 299 25)] W2 (fun y3 W3 =>
      (∀ z4 : Int, z4 = ((x3 - y2) - y3) → kGo xs Lx (d + 1) 194 35 [some (.ref 299), some (.ref q1), some (kI x2), some (kI z4), some (kI (x4 + 1)), none, none] [] W3 Q)))) ∧
     ((khas x2 x4) ≠ 0 →
      (0 ≤ ((4 * x4) + 3) ∧ ((4 * x4) + 3) < (32 : Nat)) ∧ kCI xs Lx (d + 0) 163 7 [.ref 299, kI (V 317 (Int.toNat (4 * x4))), kI (V 317 (Int.toNat ((4 * x4) + 3))), kI (V 299 25)] V (fun y5 W5 =>
      (0 ≤ ((4 * x4) + 2) ∧ ((4 * x4) + 2) < (32 : Nat)) ∧ (0 ≤ ((4 * x4) + 1) ∧ ((4 * x4) + 1) < (32 : Nat)) ∧ kCI xs Lx (d + 0) 163 7 [.ref 299, kI (W5 317 (Int.toNat ((4 * x4) + 2))), kI (W5 317 (Int.toNat ((4 * x4) + 1))), kI (W5 299 25)] W5 (fun y6 W6 =>
      (∀ z7 : Int, z7 = ((x3 - y5) - y6) → kGo xs Lx (d + 1) 194 35 [some (.ref 299), some (.ref q1), some (kI x2), some (kI z7), some (kI (x4 + 1)), none, none] [] W6 Q)))))))) :
    kGo xs Lx (d + 1) 194 35 [some (.ref 299), some (.ref q1), some (kI x2), some (kI x3), some (kI x4), none, none] [] V Q := by
  refine g_iload 37 gq194 rfl rfl rfl ?_
  refine g_aload_n 38 gq194 rfl rfl rfl ?_
  refine g_iconst 39 gq194 rfl rfl ?_
  refine g_iald 40 gq194 rfl rfl hq1 (by omega) ?_
  have c4 := h.1
  replace h := h.2
  have c6 := h.1
  replace h := h.2
  refine g_icmp_ge 137 43 gq194 rfl rfl rfl c4 c6 (fun c => ?_) (fun c => ?_)
  · replace h := h.1 c
    refine g_iload_n 138 gq194 rfl rfl rfl ?_
    refine g_aload_n 139 gq194 rfl rfl rfl ?_
    refine g_static 193 _ (i := 334) gq194 rfl rfl gq193 rfl rfl rfl rfl ?_
    refine kGo.mono h (fun r W1 hr => ?_)
    obtain ⟨y1, rfl, h⟩ := hr
    refine g_iadd 143 gq194 rfl rfl ?_
    exact g_iret gq194 rfl rfl h
  · replace h := h.2 c
    refine g_iconst 44 gq194 rfl rfl ?_
    refine g_iload 46 gq194 rfl rfl rfl ?_
    refine g_imul 47 gq194 rfl rfl ?_
    refine g_istore 49 gq194 rfl rfl rfl ?_
    refine g_iload_n 50 gq194 rfl rfl rfl ?_
    refine g_iload 52 gq194 rfl rfl rfl ?_
    have c24 := h.1
    replace h := h.2
    refine g_static 154 _ (i := 250) gq194 rfl rfl gq154 rfl rfl rfl rfl ?_
    refine sp_has c24 ?_
    refine g_istore 57 gq194 rfl rfl rfl ?_
    refine g_iload_n 58 gq194 rfl rfl rfl ?_
    refine g_aload_n 59 gq194 rfl rfl rfl ?_
    refine g_aload_n 60 gq194 rfl rfl rfl ?_
    refine g_getA 63 317 gq194 rfl rfl rfl rfl rfl rfl rfl ?_
    refine g_iload 65 gq194 rfl rfl rfl ?_
    have c34 := h.1
    replace h := h.2
    refine g_iald 66 gq194 rfl rfl rfl c34 ?_
    refine g_aload_n 67 gq194 rfl rfl rfl ?_
    refine g_getA 70 317 gq194 rfl rfl rfl rfl rfl rfl rfl ?_
    refine g_iload 72 gq194 rfl rfl rfl ?_
    refine g_iload 74 gq194 rfl rfl rfl ?_
    have c41 := h.1
    replace h := h.2
    refine g_if_eq 81 77 gq194 rfl rfl rfl c41 (fun c => ?_) (fun c => ?_)
    · replace h := h.1 c
      refine g_iconst 82 gq194 rfl rfl ?_
      refine g_iadd 83 gq194 rfl rfl ?_
      have c47 := h.1
      replace h := h.2
      refine g_iald 84 gq194 rfl rfl rfl c47 ?_
      refine g_aload_n 85 gq194 rfl rfl rfl ?_
      refine g_getI 88 gq194 rfl rfl rfl rfl rfl rfl ?_
      refine g_virt 163 _ (i := 273) gq194 rfl rfl gq163 rfl rfl rfl rfl rfl rfl ?_
      refine kGo.mono h (fun r W2 hr => ?_)
      obtain ⟨y2, rfl, h⟩ := hr
      refine g_isub 92 gq194 rfl rfl ?_
      refine g_istore_n 93 gq194 rfl rfl rfl ?_
      refine g_iload_n 94 gq194 rfl rfl rfl ?_
      refine g_aload_n 95 gq194 rfl rfl rfl ?_
      refine g_aload_n 96 gq194 rfl rfl rfl ?_
      refine g_getA 99 317 gq194 rfl rfl rfl rfl rfl rfl rfl ?_
      refine g_iload 101 gq194 rfl rfl rfl ?_
      refine g_iconst 102 gq194 rfl rfl ?_
      refine g_iadd 103 gq194 rfl rfl ?_
      have c64 := h.1
      replace h := h.2
      refine g_iald 104 gq194 rfl rfl rfl c64 ?_
      refine g_aload_n 105 gq194 rfl rfl rfl ?_
      refine g_getA 108 317 gq194 rfl rfl rfl rfl rfl rfl rfl ?_
      refine g_iload 110 gq194 rfl rfl rfl ?_
      refine g_iload 112 gq194 rfl rfl rfl ?_
      refine g_if_eq 119 115 gq194 rfl rfl rfl c41 (fun c => ?_) (fun c => ?_)
      rotate_left
      · exfalso; omega
      refine g_iconst 120 gq194 rfl rfl ?_
      refine g_iadd 121 gq194 rfl rfl ?_
      have c76 := h.1
      replace h := h.2
      refine g_iald 122 gq194 rfl rfl rfl c76 ?_
      refine g_aload_n 123 gq194 rfl rfl rfl ?_
      refine g_getI 126 gq194 rfl rfl rfl rfl rfl rfl ?_
      refine g_virt 163 _ (i := 273) gq194 rfl rfl gq163 rfl rfl rfl rfl rfl rfl ?_
      refine kGo.mono h (fun r W3 hr => ?_)
      obtain ⟨y3, rfl, h⟩ := hr
      refine g_isub 130 gq194 rfl rfl ?_
      refine g_istore_n 131 gq194 rfl rfl rfl ?_
      replace h := h _ rfl
      refine g_iinc 134 gq194 rfl rfl rfl rfl ?_
      refine g_goto 35 gq194 rfl rfl ?_
      exact kGo.weak (km_Le.s (km_Le.s (km_Le.s (km_Le.s (km_Le.s (km_Le.n (km_Le.n km_Le.nil))))))) h
    · replace h := h.2 c
      refine g_iconst 78 gq194 rfl rfl ?_
      refine g_goto 82 gq194 rfl rfl ?_
      refine g_iadd 83 gq194 rfl rfl ?_
      have c94 := h.1
      replace h := h.2
      refine g_iald 84 gq194 rfl rfl rfl c94 ?_
      refine g_aload_n 85 gq194 rfl rfl rfl ?_
      refine g_getI 88 gq194 rfl rfl rfl rfl rfl rfl ?_
      refine g_virt 163 _ (i := 273) gq194 rfl rfl gq163 rfl rfl rfl rfl rfl rfl ?_
      refine kGo.mono h (fun r W5 hr => ?_)
      obtain ⟨y5, rfl, h⟩ := hr
      refine g_isub 92 gq194 rfl rfl ?_
      refine g_istore_n 93 gq194 rfl rfl rfl ?_
      refine g_iload_n 94 gq194 rfl rfl rfl ?_
      refine g_aload_n 95 gq194 rfl rfl rfl ?_
      refine g_aload_n 96 gq194 rfl rfl rfl ?_
      refine g_getA 99 317 gq194 rfl rfl rfl rfl rfl rfl rfl ?_
      refine g_iload 101 gq194 rfl rfl rfl ?_
      refine g_iconst 102 gq194 rfl rfl ?_
      refine g_iadd 103 gq194 rfl rfl ?_
      have c111 := h.1
      replace h := h.2
      refine g_iald 104 gq194 rfl rfl rfl c111 ?_
      refine g_aload_n 105 gq194 rfl rfl rfl ?_
      refine g_getA 108 317 gq194 rfl rfl rfl rfl rfl rfl rfl ?_
      refine g_iload 110 gq194 rfl rfl rfl ?_
      refine g_iload 112 gq194 rfl rfl rfl ?_
      refine g_if_eq 119 115 gq194 rfl rfl rfl c41 (fun c => ?_) (fun c => ?_)
      · exfalso; omega
      refine g_iconst 116 gq194 rfl rfl ?_
      refine g_goto 120 gq194 rfl rfl ?_
      refine g_iadd 121 gq194 rfl rfl ?_
      have c123 := h.1
      replace h := h.2
      refine g_iald 122 gq194 rfl rfl rfl c123 ?_
      refine g_aload_n 123 gq194 rfl rfl rfl ?_
      refine g_getI 126 gq194 rfl rfl rfl rfl rfl rfl ?_
      refine g_virt 163 _ (i := 273) gq194 rfl rfl gq163 rfl rfl rfl rfl rfl rfl ?_
      refine kGo.mono h (fun r W6 hr => ?_)
      obtain ⟨y6, rfl, h⟩ := hr
      refine g_isub 130 gq194 rfl rfl ?_
      refine g_istore_n 131 gq194 rfl rfl rfl ?_
      replace h := h _ rfl
      refine g_iinc 134 gq194 rfl rfl rfl rfl ?_
      refine g_goto 35 gq194 rfl rfl ?_
      exact kGo.weak (km_Le.s (km_Le.s (km_Le.s (km_Le.s (km_Le.s (km_Le.n (km_Le.n km_Le.nil))))))) h

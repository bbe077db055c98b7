set_option maxRecDepth 10000 in
theorem b37_0 {xs : Nat → Int32} {Lx d : Nat} {V : km_V} {Q : Option Value → km_V → Prop} 
    (h : Q none (up V 45 0 0)) :
    kGo xs Lx (d + 0) 37 0 [some (.ref 45)] [] V Q := by
  refine g_aload_n 1 gq37 rfl rfl rfl ?_
  refine g_iconst 2 gq37 rfl rfl ?_
  refine g_putI 5 gq37 rfl rfl rfl rfl rfl rfl rfl rfl ?_
  exact g_vret gq37 rfl rfl h
set_option maxRecDepth 10000 in
theorem b38_0 {xs : Nat → Int32} {Lx d : Nat} {V : km_V} {Q : Option Value → km_V → Prop} {r1 : Nat} (hr1 : km_sh[r1]? = some (5, 5))
    (h : (0 ≤ (V 45 1) ∧ (V 45 1) < (40 : Nat)) ∧ kCV xs Lx (d + 0) 57 2 [.ref (47 + 4 * Int.toNat (V 45 1)), .ref r1] V (fun W1 =>
  (kR ((W1 45 1) + 1)) ∧ ((40 ≤ ((W1 45 1) + 1) →
    (kR (((up W1 45 1 0) 45 0) + 1)) ∧ Q none (up (up W1 45 1 0) 45 0 (kmin (((up W1 45 1 0) 45 0) + 1) 40))) ∧
   (((W1 45 1) + 1) < 40 →
    (kR (((up W1 45 1 ((W1 45 1) + 1)) 45 0) + 1)) ∧ Q none (up (up W1 45 1 ((W1 45 1) + 1)) 45 0 (kmin (((up W1 45 1 ((W1 45 1) + 1)) 45 0) + 1) 40)))))) :
    kGo xs Lx (d + 1) 38 0 [some (.ref 45), some (.ref r1)] [] V Q := by
  refine g_aload_n 1 gq38 rfl rfl rfl ?_
  refine g_getA 4 46 gq38 rfl rfl rfl rfl rfl rfl rfl ?_
  refine g_aload_n 5 gq38 rfl rfl rfl ?_
  refine g_getI 8 gq38 rfl rfl rfl rfl rfl rfl ?_
  have c4 := h.1
  replace h := h.2
  refine g_aald 9 (47 + 4 * Int.toNat _) gq38 rfl rfl (by decide) rfl c4 rfl ?_
  refine g_aload_n 10 gq38 rfl rfl rfl ?_
  refine g_virt 57 _ (i := 25) gq38 rfl rfl gq57 (shXP c4) rfl rfl rfl rfl rfl ?_
  refine kGo.mono h (fun r W1 hr => ?_)
  obtain ⟨rfl, h⟩ := hr
  refine g_aload_n 14 gq38 rfl rfl rfl ?_
  refine g_aload_n 15 gq38 rfl rfl rfl ?_
  refine g_getI 18 gq38 rfl rfl rfl rfl rfl rfl ?_
  refine g_iconst 19 gq38 rfl rfl ?_
  refine g_iadd 20 gq38 rfl rfl ?_
  refine g_bipush 22 gq38 rfl rfl rfl ?_
  have c17 := h.1
  replace h := h.2
  refine g_icmp_ge 34 25 gq38 rfl rfl rfl c17 (by omega) (fun c => ?_) (fun c => ?_)
  · replace h := h.1 c
    refine g_iconst 35 gq38 rfl rfl ?_
    refine g_putI 38 gq38 rfl rfl rfl rfl rfl rfl rfl rfl ?_
    refine g_aload_n 39 gq38 rfl rfl rfl ?_
    refine g_aload_n 40 gq38 rfl rfl rfl ?_
    refine g_getI 43 gq38 rfl rfl rfl rfl rfl rfl ?_
    refine g_iconst 44 gq38 rfl rfl ?_
    refine g_iadd 45 gq38 rfl rfl ?_
    refine g_bipush 47 gq38 rfl rfl rfl ?_
    have c29 := h.1
    replace h := h.2
    refine g_static 222 _ (i := 29) gq38 rfl rfl gq222 rfl rfl rfl rfl ?_
    refine sp_min c29 (by omega) ?_
    refine g_putI 53 gq38 rfl rfl rfl rfl rfl rfl rfl rfl ?_
    exact g_vret gq38 rfl rfl h
  · replace h := h.2 c
    refine g_aload_n 26 gq38 rfl rfl rfl ?_
    refine g_getI 29 gq38 rfl rfl rfl rfl rfl rfl ?_
    refine g_iconst 30 gq38 rfl rfl ?_
    refine g_iadd 31 gq38 rfl rfl ?_
    refine g_goto 35 gq38 rfl rfl ?_
    refine g_putI 38 gq38 rfl rfl rfl rfl rfl rfl rfl rfl ?_
    refine g_aload_n 39 gq38 rfl rfl rfl ?_
    refine g_aload_n 40 gq38 rfl rfl rfl ?_
    refine g_getI 43 gq38 rfl rfl rfl rfl rfl rfl ?_
    refine g_iconst 44 gq38 rfl rfl ?_
    refine g_iadd 45 gq38 rfl rfl ?_
    refine g_bipush 47 gq38 rfl rfl rfl ?_
    have c48 := h.1
    replace h := h.2
    refine g_static 222 _ (i := 29) gq38 rfl rfl gq222 rfl rfl rfl rfl ?_
    refine sp_min c48 (by omega) ?_
    refine g_putI 53 gq38 rfl rfl rfl rfl rfl rfl rfl rfl ?_
    exact g_vret gq38 rfl rfl h
set_option maxRecDepth 10000 in
theorem b39_0 {xs : Nat → Int32} {Lx d : Nat} {V : km_V} {Q : Option Value → km_V → Prop} {r1 : Nat} (hr1 : km_sh[r1]? = some (5, 5))
    (h : (kR (V 45 0)) ∧ (((V 45 0) ≠ 0 →
    (kR (V 45 1)) ∧ (((V 45 1) ≤ 0 →
      (0 ≤ ((up (up V 45 1 39) 45 0 (((up V 45 1 39) 45 0) - 1)) 45 1) ∧ ((up (up V 45 1 39) 45 0 (((up V 45 1 39) 45 0) - 1)) 45 1) < (40 : Nat)) ∧ kCV xs Lx (d + 0) 57 2 [.ref r1, .ref (47 + 4 * Int.toNat ((up (up V 45 1 39) 45 0 (((up V 45 1 39) 45 0) - 1)) 45 1))] (up (up V 45 1 39) 45 0 (((up V 45 1 39) 45 0) - 1)) (fun W1 =>
      Q (some (kI 1)) W1)) ∧
     (0 < (V 45 1) →
      (0 ≤ ((up (up V 45 1 ((V 45 1) - 1)) 45 0 (((up V 45 1 ((V 45 1) - 1)) 45 0) - 1)) 45 1) ∧ ((up (up V 45 1 ((V 45 1) - 1)) 45 0 (((up V 45 1 ((V 45 1) - 1)) 45 0) - 1)) 45 1) < (40 : Nat)) ∧ kCV xs Lx (d + 0) 57 2 [.ref r1, .ref (47 + 4 * Int.toNat ((up (up V 45 1 ((V 45 1) - 1)) 45 0 (((up V 45 1 ((V 45 1) - 1)) 45 0) - 1)) 45 1))] (up (up V 45 1 ((V 45 1) - 1)) 45 0 (((up V 45 1 ((V 45 1) - 1)) 45 0) - 1)) (fun W2 =>
      Q (some (kI 1)) W2)))) ∧
   ((V 45 0) = 0 →
    Q (some (kI 0)) V))) :
    kGo xs Lx (d + 1) 39 0 [some (.ref 45), some (.ref r1)] [] V Q := by
  refine g_aload_n 1 gq39 rfl rfl rfl ?_
  refine g_getI 4 gq39 rfl rfl rfl rfl rfl rfl ?_
  have c2 := h.1
  replace h := h.2
  refine g_if_ne 9 7 gq39 rfl rfl rfl c2 (fun c => ?_) (fun c => ?_)
  · replace h := h.1 c
    refine g_aload_n 10 gq39 rfl rfl rfl ?_
    refine g_aload_n 11 gq39 rfl rfl rfl ?_
    refine g_getI 14 gq39 rfl rfl rfl rfl rfl rfl ?_
    have c9 := h.1
    replace h := h.2
    refine g_if_le 26 17 gq39 rfl rfl rfl c9 (fun c => ?_) (fun c => ?_)
    · replace h := h.1 c
      refine g_bipush 28 gq39 rfl rfl rfl ?_
      refine g_putI 31 gq39 rfl rfl rfl rfl rfl rfl rfl rfl ?_
      refine g_aload_n 32 gq39 rfl rfl rfl ?_
      refine g_dup 33 gq39 rfl rfl rfl ?_
      refine g_getI 36 gq39 rfl rfl rfl rfl rfl rfl ?_
      refine g_iconst 37 gq39 rfl rfl ?_
      refine g_isub 38 gq39 rfl rfl ?_
      refine g_putI 41 gq39 rfl rfl rfl rfl rfl rfl rfl rfl ?_
      refine g_aload_n 42 gq39 rfl rfl rfl ?_
      refine g_aload_n 43 gq39 rfl rfl rfl ?_
      refine g_getA 46 46 gq39 rfl rfl rfl rfl rfl rfl rfl ?_
      refine g_aload_n 47 gq39 rfl rfl rfl ?_
      refine g_getI 50 gq39 rfl rfl rfl rfl rfl rfl ?_
      have c26 := h.1
      replace h := h.2
      refine g_aald 51 (47 + 4 * Int.toNat _) gq39 rfl rfl (by decide) rfl c26 rfl ?_
      refine g_virt 57 _ (i := 25) gq39 rfl rfl gq57 hr1 rfl rfl rfl rfl rfl ?_
      refine kGo.mono h (fun r W1 hr => ?_)
      obtain ⟨rfl, h⟩ := hr
      refine g_iconst 55 gq39 rfl rfl ?_
      exact g_zret gq39 rfl rfl (by omega) h
    · replace h := h.2 c
      refine g_aload_n 18 gq39 rfl rfl rfl ?_
      refine g_getI 21 gq39 rfl rfl rfl rfl rfl rfl ?_
      refine g_iconst 22 gq39 rfl rfl ?_
      refine g_isub 23 gq39 rfl rfl ?_
      refine g_goto 28 gq39 rfl rfl ?_
      refine g_putI 31 gq39 rfl rfl rfl rfl rfl rfl rfl rfl ?_
      refine g_aload_n 32 gq39 rfl rfl rfl ?_
      refine g_dup 33 gq39 rfl rfl rfl ?_
      refine g_getI 36 gq39 rfl rfl rfl rfl rfl rfl ?_
      refine g_iconst 37 gq39 rfl rfl ?_
      refine g_isub 38 gq39 rfl rfl ?_
      refine g_putI 41 gq39 rfl rfl rfl rfl rfl rfl rfl rfl ?_
      refine g_aload_n 42 gq39 rfl rfl rfl ?_
      refine g_aload_n 43 gq39 rfl rfl rfl ?_
      refine g_getA 46 46 gq39 rfl rfl rfl rfl rfl rfl rfl ?_
      refine g_aload_n 47 gq39 rfl rfl rfl ?_
      refine g_getI 50 gq39 rfl rfl rfl rfl rfl rfl ?_
      have c52 := h.1
      replace h := h.2
      refine g_aald 51 (47 + 4 * Int.toNat _) gq39 rfl rfl (by decide) rfl c52 rfl ?_
      refine g_virt 57 _ (i := 25) gq39 rfl rfl gq57 hr1 rfl rfl rfl rfl rfl ?_
      refine kGo.mono h (fun r W2 hr => ?_)
      obtain ⟨rfl, h⟩ := hr
      refine g_iconst 55 gq39 rfl rfl ?_
      exact g_zret gq39 rfl rfl (by omega) h
  · replace h := h.2 c
    refine g_iconst 8 gq39 rfl rfl ?_
    exact g_zret gq39 rfl rfl (by omega) h
set_option maxRecDepth 10000 in
theorem b77_0 {xs : Nat → Int32} {Lx d : Nat} {V : km_V} {Q : Option Value → km_V → Prop} {a2 : Int} {r1 : Nat} (hr1 : km_sh[r1]? = some (5, 5))
    (h : kCV xs Lx (d + 5) 57 2 [.ref (227 + 15 * Int.toNat 0), .ref r1] V (fun W1 =>
  kCI xs Lx (d + 5) 78 6 [.ref 224, kI 0, kI a2] W1 (fun y2 W2 =>
  (y2 = 0 ∨ y2 = 1) ∧ Q (some (kI y2)) W2))) :
    kGo xs Lx (d + 6) 77 0 [some (.ref 224), some (.ref r1), some (kI a2)] [] V Q := by
  refine g_aload_n 1 gq77 rfl rfl rfl ?_
  refine g_getA 4 225 gq77 rfl rfl rfl rfl rfl rfl rfl ?_
  refine g_iconst 5 gq77 rfl rfl ?_
  refine g_aald 6 (227 + 15 * Int.toNat _) gq77 rfl rfl (by decide) rfl (by omega) rfl ?_
  refine g_aload_n 7 gq77 rfl rfl rfl ?_
  refine g_virt 57 _ (i := 25) gq77 rfl rfl gq57 (shXL (by omega)) rfl rfl rfl rfl rfl ?_
  refine kGo.mono h (fun r W1 hr => ?_)
  obtain ⟨rfl, h⟩ := hr
  refine g_aload_n 11 gq77 rfl rfl rfl ?_
  refine g_iconst 12 gq77 rfl rfl ?_
  refine g_iload_n 13 gq77 rfl rfl rfl ?_
  refine g_static 78 _ (i := 29) gq77 rfl rfl gq78 rfl rfl rfl rfl ?_
  refine kGo.mono h (fun r W2 hr => ?_)
  obtain ⟨y2, rfl, h⟩ := hr
  have c14 := h.1
  replace h := h.2
  exact g_zret gq77 rfl rfl c14 h
set_option maxRecDepth 10000 in
theorem b78_0 {xs : Nat → Int32} {Lx d : Nat} {V : km_V} {Q : Option Value → km_V → Prop} {a1 a2 : Int} 
    (h : (0 ≤ a1 ∧ a1 < (4 : Nat)) ∧ kCV xs Lx (d + 4) 21 3 [.ref (231 + 15 * Int.toNat a1), .ref (227 + 15 * Int.toNat a1)] V (fun W1 =>
  kCI xs Lx (d + 4) 31 3 [.ref (231 + 15 * Int.toNat a1)] W1 (fun y2 W2 =>
  (kR y2) ∧ ((y2 = (-1) →
    (kR a1) ∧ (kR a2) ∧ ((a2 ≤ a1 →
      Q (some (kI 0)) W2) ∧
     (a1 < a2 →
      ((a1 < 3 →
        kGo xs Lx (d + 5) 78 47 [some (.ref 224), some (kI a1), some (kI a2), some (.ref (227 + 15 * Int.toNat a1)), some (.ref (231 + 15 * Int.toNat a1)), some (kI 0)] [] W2 Q) ∧
       (3 ≤ a1 →
        Q (some (kI 0)) W2))))) ∧
   (y2 ≠ (-1) →
    Q (some (kI 1)) W2))))) :
    kGo xs Lx (d + 5) 78 0 [some (.ref 224), some (kI a1), some (kI a2), none, none, none] [] V Q := by
  refine g_aload_n 1 gq78 rfl rfl rfl ?_
  refine g_getA 4 225 gq78 rfl rfl rfl rfl rfl rfl rfl ?_
  refine g_iload_n 5 gq78 rfl rfl rfl ?_
  have c3 := h.1
  replace h := h.2
  refine g_aald 6 (227 + 15 * Int.toNat _) gq78 rfl rfl (by decide) rfl c3 rfl ?_
  refine g_astore_n 7 gq78 rfl rfl rfl ?_
  refine g_aload_n 8 gq78 rfl rfl rfl ?_
  refine g_getA 11 226 gq78 rfl rfl rfl rfl rfl rfl rfl ?_
  refine g_iload_n 12 gq78 rfl rfl rfl ?_
  refine g_aald 13 (231 + 15 * Int.toNat _) gq78 rfl rfl (by decide) rfl c3 rfl ?_
  refine g_astore 15 gq78 rfl rfl rfl ?_
  refine g_aload 17 gq78 rfl rfl rfl ?_
  refine g_aload_n 18 gq78 rfl rfl rfl ?_
  refine g_virt 21 _ (i := 33) gq78 rfl rfl gq21 (shXM c3) rfl rfl rfl rfl rfl ?_
  refine kGo.mono h (fun r W1 hr => ?_)
  obtain ⟨rfl, h⟩ := hr
  refine g_aload 23 gq78 rfl rfl rfl ?_
  refine g_virt 31 _ (i := 36) gq78 rfl rfl gq31 (shXM c3) rfl rfl rfl rfl rfl ?_
  refine kGo.mono h (fun r W2 hr => ?_)
  obtain ⟨y2, rfl, h⟩ := hr
  refine g_iconst 27 gq78 rfl rfl ?_
  have c22 := h.1
  replace h := h.2
  refine g_icmp_eq 32 30 gq78 rfl rfl rfl c22 (by omega) (fun c => ?_) (fun c => ?_)
  · replace h := h.1 c
    refine g_iload_n 33 gq78 rfl rfl rfl ?_
    refine g_iload_n 34 gq78 rfl rfl rfl ?_
    have c28 := h.1
    replace h := h.2
    have c30 := h.1
    replace h := h.2
    refine g_icmp_ge 42 37 gq78 rfl rfl rfl c28 c30 (fun c => ?_) (fun c => ?_)
    · replace h := h.1 c
      refine g_iconst 43 gq78 rfl rfl ?_
      exact g_zret gq78 rfl rfl (by omega) h
    · replace h := h.2 c
      refine g_iload_n 38 gq78 rfl rfl rfl ?_
      refine g_iconst 39 gq78 rfl rfl ?_
      refine g_icmp_lt 44 42 gq78 rfl rfl rfl c28 (by omega) (fun c => ?_) (fun c => ?_)
      · replace h := h.1 c
        refine g_iconst 45 gq78 rfl rfl ?_
        refine g_istore 47 gq78 rfl rfl rfl ?_
        exact kGo.weak (km_Le.s (km_Le.s (km_Le.s (km_Le.s (km_Le.s (km_Le.s km_Le.nil)))))) h
      · replace h := h.2 c
        refine g_iconst 43 gq78 rfl rfl ?_
        exact g_zret gq78 rfl rfl (by omega) h
  · replace h := h.2 c
    refine g_iconst 31 gq78 rfl rfl ?_
    exact g_zret gq78 rfl rfl (by omega) h
set_option maxRecDepth 10000 in
theorem b78_47 {xs : Nat → Int32} {Lx d : Nat} {V : km_V} {Q : Option Value → km_V → Prop} {x1 x2 x5 : Int} {q3 : Nat} (hq3 : km_sh[q3]? = some (5, 5)) {q4 : Nat} (hq4 : km_sh[q4]? = some (2, 11))
    (h : (kR x5) ∧ (kR (V q4 7)) ∧ (((V q4 7) ≤ x5 →
    Q (some (kI 0)) V) ∧
   (x5 < (V q4 7) →
    (0 ≤ x5 ∧ x5 < (32 : Nat)) ∧ (kR (V (q4 + 10) (Int.toNat x5))) ∧ (((V (q4 + 10) (Int.toNat x5)) ≠ 3 →
      kGo xs Lx (d + 5) 78 47 [some (.ref 224), some (kI x1), some (kI x2), some (.ref q3), some (.ref q4), some (kI (x5 + 1))] [] V Q) ∧
     ((V (q4 + 10) (Int.toNat x5)) = 3 →
      (0 ≤ (x1 + 1) ∧ (x1 + 1) < (4 : Nat)) ∧ kCV xs Lx (d + 4) 57 2 [.ref (227 + 15 * Int.toNat (x1 + 1)), .ref q3] V (fun W1 =>
      kCV xs Lx (d + 4) 68 5 [.ref (227 + 15 * Int.toNat (x1 + 1)), .ref q4, kI x5] W1 (fun W2 =>
      kCI xs Lx (d + 4) 78 6 [.ref 224, kI (x1 + 1), kI x2] W2 (fun y3 W3 =>
      (kR y3) ∧ ((y3 = 0 →
        kGo xs Lx (d + 5) 78 47 [some (.ref 224), some (kI x1), some (kI x2), some (.ref q3), some (.ref q4), some (kI (x5 + 1))] [] W3 Q) ∧
       (y3 ≠ 0 →
        Q (some (kI 1)) W3)))))))))) :
    kGo xs Lx (d + 5) 78 47 [some (.ref 224), some (kI x1), some (kI x2), some (.ref q3), some (.ref q4), some (kI x5)] [] V Q := by
  refine g_iload 49 gq78 rfl rfl rfl ?_
  refine g_aload 51 gq78 rfl rfl rfl ?_
  refine g_getI 54 gq78 rfl rfl rfl hq4 rfl rfl ?_
  have c3 := h.1
  replace h := h.2
  have c5 := h.1
  replace h := h.2
  refine g_icmp_ge 115 57 gq78 rfl rfl rfl c3 c5 (fun c => ?_) (fun c => ?_)
  · replace h := h.1 c
    refine g_iconst 116 gq78 rfl rfl ?_
    exact g_zret gq78 rfl rfl (by omega) h
  · replace h := h.2 c
    refine g_aload 59 gq78 rfl rfl rfl ?_
    refine g_getA 62 (q4 + 10) gq78 rfl rfl rfl hq4 rfl rfl (rfD10 hq4) ?_
    refine g_iload 64 gq78 rfl rfl rfl ?_
    have c15 := h.1
    replace h := h.2
    refine g_iald 65 gq78 rfl rfl (shD10 hq4) c15 ?_
    refine g_iconst 66 gq78 rfl rfl ?_
    have c19 := h.1
    replace h := h.2
    refine g_icmp_ne 109 69 gq78 rfl rfl rfl c19 (by omega) (fun c => ?_) (fun c => ?_)
    · replace h := h.1 c
      refine g_iinc 112 gq78 rfl rfl rfl rfl ?_
      refine g_goto 47 gq78 rfl rfl ?_
      exact kGo.weak (km_Le.s (km_Le.s (km_Le.s (km_Le.s (km_Le.s (km_Le.s km_Le.nil)))))) h
    · replace h := h.2 c
      refine g_aload_n 70 gq78 rfl rfl rfl ?_
      refine g_getA 73 225 gq78 rfl rfl rfl rfl rfl rfl rfl ?_
      refine g_iload_n 74 gq78 rfl rfl rfl ?_
      refine g_iconst 75 gq78 rfl rfl ?_
      refine g_iadd 76 gq78 rfl rfl ?_
      have c32 := h.1
      replace h := h.2
      refine g_aald 77 (227 + 15 * Int.toNat _) gq78 rfl rfl (by decide) rfl c32 rfl ?_
      refine g_aload_n 78 gq78 rfl rfl rfl ?_
      refine g_virt 57 _ (i := 25) gq78 rfl rfl gq57 (shXL c32) rfl rfl rfl rfl rfl ?_
      refine kGo.mono h (fun r W1 hr => ?_)
      obtain ⟨rfl, h⟩ := hr
      refine g_aload_n 82 gq78 rfl rfl rfl ?_
      refine g_getA 85 225 gq78 rfl rfl rfl rfl rfl rfl rfl ?_
      refine g_iload_n 86 gq78 rfl rfl rfl ?_
      refine g_iconst 87 gq78 rfl rfl ?_
      refine g_iadd 88 gq78 rfl rfl ?_
      refine g_aald 89 (227 + 15 * Int.toNat _) gq78 rfl rfl (by decide) rfl c32 rfl ?_
      refine g_aload 91 gq78 rfl rfl rfl ?_
      refine g_iload 93 gq78 rfl rfl rfl ?_
      refine g_virt 68 _ (i := 48) gq78 rfl rfl gq68 (shXL c32) rfl rfl rfl rfl rfl ?_
      refine kGo.mono h (fun r W2 hr => ?_)
      obtain ⟨rfl, h⟩ := hr
      refine g_aload_n 97 gq78 rfl rfl rfl ?_
      refine g_iload_n 98 gq78 rfl rfl rfl ?_
      refine g_iconst 99 gq78 rfl rfl ?_
      refine g_iadd 100 gq78 rfl rfl ?_
      refine g_iload_n 101 gq78 rfl rfl rfl ?_
      refine g_static 78 _ (i := 29) gq78 rfl rfl gq78 rfl rfl rfl rfl ?_
      refine kGo.mono h (fun r W3 hr => ?_)
      obtain ⟨y3, rfl, h⟩ := hr
      have c58 := h.1
      replace h := h.2
      refine g_if_eq 109 107 gq78 rfl rfl rfl c58 (fun c => ?_) (fun c => ?_)
      · replace h := h.1 c
        refine g_iinc 112 gq78 rfl rfl rfl rfl ?_
        refine g_goto 47 gq78 rfl rfl ?_
        exact kGo.weak (km_Le.s (km_Le.s (km_Le.s (km_Le.s (km_Le.s (km_Le.s km_Le.nil)))))) h
      · replace h := h.2 c
        refine g_iconst 108 gq78 rfl rfl ?_
        exact g_zret gq78 rfl rfl (by omega) h

set_option maxRecDepth 10000 in
theorem b153_0 {xs : Nat → Int32} {Lx d : Nat} {V : km_V} {Q : Option Value → km_V → Prop} {a0 a1 a2 : Int} 
    (h : (kR a0) ∧ (kR a1) ∧ ((a0 < a1 →
    Q (some (kI 0)) V) ∧
   (a1 ≤ a0 →
    (kR a0) ∧ (kR a2) ∧ ((a2 < a0 →
      Q (some (kI 0)) V) ∧
     (a0 ≤ a2 →
      Q (some (kI 1)) V))))) :
    kGo xs Lx (d + 0) 153 0 [some (kI a0), some (kI a1), some (kI a2)] [] V Q := by
  refine g_iload_n 1 gq153 rfl rfl rfl ?_
  refine g_iload_n 2 gq153 rfl rfl rfl ?_
  have c2 := h.1
  replace h := h.2
  have c4 := h.1
  replace h := h.2
  refine g_icmp_lt 14 5 gq153 rfl rfl rfl c2 c4 (fun c => ?_) (fun c => ?_)
  · replace h := h.1 c
    refine g_iconst 15 gq153 rfl rfl ?_
    exact g_zret gq153 rfl rfl (by omega) h
  · replace h := h.2 c
    refine g_iload_n 6 gq153 rfl rfl rfl ?_
    refine g_iload_n 7 gq153 rfl rfl rfl ?_
    have c13 := h.1
    replace h := h.2
    have c15 := h.1
    replace h := h.2
    refine g_icmp_gt 14 10 gq153 rfl rfl rfl c13 c15 (fun c => ?_) (fun c => ?_)
    · replace h := h.1 c
      refine g_iconst 15 gq153 rfl rfl ?_
      exact g_zret gq153 rfl rfl (by omega) h
    · replace h := h.2 c
      refine g_iconst 11 gq153 rfl rfl ?_
      refine g_goto 15 gq153 rfl rfl ?_
      exact g_zret gq153 rfl rfl (by omega) h
set_option maxRecDepth 10000 in
theorem b154_0 {xs : Nat → Int32} {Lx d : Nat} {V : km_V} {Q : Option Value → km_V → Prop} {a0 a1 : Int} 
    (h : (kR a0) ∧ (0 ≤ a1 ∧ a1 < 32) ∧ (kR ((a0 / ((2 ^ Int.toNat a1 : Nat) : Int)) % 2)) ∧ ((((a0 / ((2 ^ Int.toNat a1 : Nat) : Int)) % 2) ≠ 1 →
    Q (some (kI 0)) V) ∧
   (((a0 / ((2 ^ Int.toNat a1 : Nat) : Int)) % 2) = 1 →
    Q (some (kI 1)) V))) :
    kGo xs Lx (d + 0) 154 0 [some (kI a0), some (kI a1)] [] V Q := by
  refine g_iload_n 1 gq154 rfl rfl rfl ?_
  refine g_iload_n 2 gq154 rfl rfl rfl ?_
  have c2 := h.1
  replace h := h.2
  have c4 := h.1
  replace h := h.2
  refine g_ishr 3 gq154 rfl rfl c2 c4 ?_
  refine g_iconst 4 gq154 rfl rfl ?_
  refine g_iandM 5 1 gq154 rfl rfl (by decide) rfl ?_
  refine g_iconst 6 gq154 rfl rfl ?_
  have c10 := h.1
  replace h := h.2
  refine g_icmp_ne 13 9 gq154 rfl rfl rfl c10 (by omega) (fun c => ?_) (fun c => ?_)
  · replace h := h.1 c
    refine g_iconst 14 gq154 rfl rfl ?_
    exact g_zret gq154 rfl rfl (by omega) h
  · replace h := h.2 c
    refine g_iconst 10 gq154 rfl rfl ?_
    refine g_goto 14 gq154 rfl rfl ?_
    exact g_zret gq154 rfl rfl (by omega) h
set_option maxRecDepth 10000 in
theorem b129_0 {xs : Nat → Int32} {Lx d : Nat} {V : km_V} {Q : Option Value → km_V → Prop} {a0 : Int} 
    (h : (kR a0) ∧ ((a0 < 48 →
    Q (some (kI 0)) V) ∧
   (48 ≤ a0 →
    (kR a0) ∧ ((57 < a0 →
      Q (some (kI 0)) V) ∧
     (a0 ≤ 57 →
      Q (some (kI 1)) V))))) :
    kGo xs Lx (d + 0) 129 0 [some (kI a0)] [] V Q := by
  refine g_iload_n 1 gq129 rfl rfl rfl ?_
  refine g_bipush 3 gq129 rfl rfl rfl ?_
  have c2 := h.1
  replace h := h.2
  refine g_icmp_lt 16 6 gq129 rfl rfl rfl c2 (by omega) (fun c => ?_) (fun c => ?_)
  · replace h := h.1 c
    refine g_iconst 17 gq129 rfl rfl ?_
    exact g_zret gq129 rfl rfl (by omega) h
  · replace h := h.2 c
    refine g_iload_n 7 gq129 rfl rfl rfl ?_
    refine g_bipush 9 gq129 rfl rfl rfl ?_
    have c11 := h.1
    replace h := h.2
    refine g_icmp_gt 16 12 gq129 rfl rfl rfl c11 (by omega) (fun c => ?_) (fun c => ?_)
    · replace h := h.1 c
      refine g_iconst 17 gq129 rfl rfl ?_
      exact g_zret gq129 rfl rfl (by omega) h
    · replace h := h.2 c
      refine g_iconst 13 gq129 rfl rfl ?_
      refine g_goto 17 gq129 rfl rfl ?_
      exact g_zret gq129 rfl rfl (by omega) h
set_option maxRecDepth 10000 in
theorem b130_0 {xs : Nat → Int32} {Lx d : Nat} {V : km_V} {Q : Option Value → km_V → Prop} {a0 : Int} 
    (h : (kR a0) ∧ ((a0 < 97 →
    Q (some (kI 0)) V) ∧
   (97 ≤ a0 →
    (kR a0) ∧ ((122 < a0 →
      Q (some (kI 0)) V) ∧
     (a0 ≤ 122 →
      Q (some (kI 1)) V))))) :
    kGo xs Lx (d + 0) 130 0 [some (kI a0)] [] V Q := by
  refine g_iload_n 1 gq130 rfl rfl rfl ?_
  refine g_bipush 3 gq130 rfl rfl rfl ?_
  have c2 := h.1
  replace h := h.2
  refine g_icmp_lt 16 6 gq130 rfl rfl rfl c2 (by omega) (fun c => ?_) (fun c => ?_)
  · replace h := h.1 c
    refine g_iconst 17 gq130 rfl rfl ?_
    exact g_zret gq130 rfl rfl (by omega) h
  · replace h := h.2 c
    refine g_iload_n 7 gq130 rfl rfl rfl ?_
    refine g_bipush 9 gq130 rfl rfl rfl ?_
    have c11 := h.1
    replace h := h.2
    refine g_icmp_gt 16 12 gq130 rfl rfl rfl c11 (by omega) (fun c => ?_) (fun c => ?_)
    · replace h := h.1 c
      refine g_iconst 17 gq130 rfl rfl ?_
      exact g_zret gq130 rfl rfl (by omega) h
    · replace h := h.2 c
      refine g_iconst 13 gq130 rfl rfl ?_
      refine g_goto 17 gq130 rfl rfl ?_
      exact g_zret gq130 rfl rfl (by omega) h
set_option maxRecDepth 10000 in
theorem b89_0 {xs : Nat → Int32} {Lx d : Nat} {V : km_V} {Q : Option Value → km_V → Prop} {a0 : Int} 
    (h : (kR a0) ∧ ((a0 < 48 →
    Q (some (kI 0)) V) ∧
   (48 ≤ a0 →
    (kR a0) ∧ ((57 < a0 →
      Q (some (kI 0)) V) ∧
     (a0 ≤ 57 →
      Q (some (kI 1)) V))))) :
    kGo xs Lx (d + 0) 89 0 [some (kI a0)] [] V Q := by
  refine g_iload_n 1 gq89 rfl rfl rfl ?_
  refine g_bipush 3 gq89 rfl rfl rfl ?_
  have c2 := h.1
  replace h := h.2
  refine g_icmp_lt 16 6 gq89 rfl rfl rfl c2 (by omega) (fun c => ?_) (fun c => ?_)
  · replace h := h.1 c
    refine g_iconst 17 gq89 rfl rfl ?_
    exact g_zret gq89 rfl rfl (by omega) h
  · replace h := h.2 c
    refine g_iload_n 7 gq89 rfl rfl rfl ?_
    refine g_bipush 9 gq89 rfl rfl rfl ?_
    have c11 := h.1
    replace h := h.2
    refine g_icmp_gt 16 12 gq89 rfl rfl rfl c11 (by omega) (fun c => ?_) (fun c => ?_)
    · replace h := h.1 c
      refine g_iconst 17 gq89 rfl rfl ?_
      exact g_zret gq89 rfl rfl (by omega) h
    · replace h := h.2 c
      refine g_iconst 13 gq89 rfl rfl ?_
      refine g_goto 17 gq89 rfl rfl ?_
      exact g_zret gq89 rfl rfl (by omega) h
set_option maxRecDepth 10000 in
theorem b88_0 {xs : Nat → Int32} {Lx d : Nat} {V : km_V} {Q : Option Value → km_V → Prop} {a0 : Int} 
    (h : (kR a0) ∧ ((a0 < 97 →
    Q (some (kI 0)) V) ∧
   (97 ≤ a0 →
    (kR a0) ∧ ((122 < a0 →
      Q (some (kI 0)) V) ∧
     (a0 ≤ 122 →
      Q (some (kI 1)) V))))) :
    kGo xs Lx (d + 0) 88 0 [some (kI a0)] [] V Q := by
  refine g_iload_n 1 gq88 rfl rfl rfl ?_
  refine g_bipush 3 gq88 rfl rfl rfl ?_
  have c2 := h.1
  replace h := h.2
  refine g_icmp_lt 16 6 gq88 rfl rfl rfl c2 (by omega) (fun c => ?_) (fun c => ?_)
  · replace h := h.1 c
    refine g_iconst 17 gq88 rfl rfl ?_
    exact g_zret gq88 rfl rfl (by omega) h
  · replace h := h.2 c
    refine g_iload_n 7 gq88 rfl rfl rfl ?_
    refine g_bipush 9 gq88 rfl rfl rfl ?_
    have c11 := h.1
    replace h := h.2
    refine g_icmp_gt 16 12 gq88 rfl rfl rfl c11 (by omega) (fun c => ?_) (fun c => ?_)
    · replace h := h.1 c
      refine g_iconst 17 gq88 rfl rfl ?_
      exact g_zret gq88 rfl rfl (by omega) h
    · replace h := h.2 c
      refine g_iconst 13 gq88 rfl rfl ?_
      refine g_goto 17 gq88 rfl rfl ?_
      exact g_zret gq88 rfl rfl (by omega) h
set_option maxRecDepth 10000 in
theorem b87_0 {xs : Nat → Int32} {Lx d : Nat} {V : km_V} {Q : Option Value → km_V → Prop} {a0 : Int} 
    (h : (kR a0) ∧ ((a0 = 9 →
    Q (some (kI 1)) V) ∧
   (a0 ≠ 9 →
    (kR a0) ∧ ((a0 = 10 →
      Q (some (kI 1)) V) ∧
     (a0 ≠ 10 →
      (kR a0) ∧ ((a0 = 13 →
        Q (some (kI 1)) V) ∧
       (a0 ≠ 13 →
        (kR a0) ∧ ((a0 ≠ 32 →
          Q (some (kI 0)) V) ∧
         (a0 = 32 →
          Q (some (kI 1)) V))))))))) :
    kGo xs Lx (d + 0) 87 0 [some (kI a0)] [] V Q := by
  refine g_iload_n 1 gq87 rfl rfl rfl ?_
  refine g_bipush 3 gq87 rfl rfl rfl ?_
  have c2 := h.1
  replace h := h.2
  refine g_icmp_eq 24 6 gq87 rfl rfl rfl c2 (by omega) (fun c => ?_) (fun c => ?_)
  · replace h := h.1 c
    refine g_iconst 25 gq87 rfl rfl ?_
    refine g_goto 29 gq87 rfl rfl ?_
    exact g_zret gq87 rfl rfl (by omega) h
  · replace h := h.2 c
    refine g_iload_n 7 gq87 rfl rfl rfl ?_
    refine g_bipush 9 gq87 rfl rfl rfl ?_
    have c12 := h.1
    replace h := h.2
    refine g_icmp_eq 24 12 gq87 rfl rfl rfl c12 (by omega) (fun c => ?_) (fun c => ?_)
    · replace h := h.1 c
      refine g_iconst 25 gq87 rfl rfl ?_
      refine g_goto 29 gq87 rfl rfl ?_
      exact g_zret gq87 rfl rfl (by omega) h
    · replace h := h.2 c
      refine g_iload_n 13 gq87 rfl rfl rfl ?_
      refine g_bipush 15 gq87 rfl rfl rfl ?_
      have c22 := h.1
      replace h := h.2
      refine g_icmp_eq 24 18 gq87 rfl rfl rfl c22 (by omega) (fun c => ?_) (fun c => ?_)
      · replace h := h.1 c
        refine g_iconst 25 gq87 rfl rfl ?_
        refine g_goto 29 gq87 rfl rfl ?_
        exact g_zret gq87 rfl rfl (by omega) h
      · replace h := h.2 c
        refine g_iload_n 19 gq87 rfl rfl rfl ?_
        refine g_bipush 21 gq87 rfl rfl rfl ?_
        have c32 := h.1
        replace h := h.2
        refine g_icmp_ne 28 24 gq87 rfl rfl rfl c32 (by omega) (fun c => ?_) (fun c => ?_)
        · replace h := h.1 c
          refine g_iconst 29 gq87 rfl rfl ?_
          exact g_zret gq87 rfl rfl (by omega) h
        · replace h := h.2 c
          refine g_iconst 25 gq87 rfl rfl ?_
          refine g_goto 29 gq87 rfl rfl ?_
          exact g_zret gq87 rfl rfl (by omega) h
set_option maxRecDepth 10000 in
theorem b218_0 {xs : Nat → Int32} {Lx d : Nat} {V : km_V} {Q : Option Value → km_V → Prop} {a0 : Int} 
    (h : (0 ≤ a0 ∧ a0 ≤ 2147483647) ∧ (0 ≤ (a0 / 2)) ∧ (0 ≤ (a0 - ((Int.toNat (a0 / 2) &&& Int.toNat 1431655765 : Nat) : Int))) ∧ (0 ≤ (a0 - ((Int.toNat (a0 / 2) &&& Int.toNat 1431655765 : Nat) : Int)) ∧ (a0 - ((Int.toNat (a0 / 2) &&& Int.toNat 1431655765 : Nat) : Int)) ≤ 2147483647) ∧ (0 ≤ ((a0 - ((Int.toNat (a0 / 2) &&& Int.toNat 1431655765 : Nat) : Int)) / 4)) ∧ (0 ≤ (((Int.toNat (a0 - ((Int.toNat (a0 / 2) &&& Int.toNat 1431655765 : Nat) : Int)) &&& Int.toNat 858993459 : Nat) : Int) + ((Int.toNat ((a0 - ((Int.toNat (a0 / 2) &&& Int.toNat 1431655765 : Nat) : Int)) / 4) &&& Int.toNat 858993459 : Nat) : Int)) ∧ (((Int.toNat (a0 - ((Int.toNat (a0 / 2) &&& Int.toNat 1431655765 : Nat) : Int)) &&& Int.toNat 858993459 : Nat) : Int) + ((Int.toNat ((a0 - ((Int.toNat (a0 / 2) &&& Int.toNat 1431655765 : Nat) : Int)) / 4) &&& Int.toNat 858993459 : Nat) : Int)) ≤ 2147483647) ∧ (0 ≤ ((((Int.toNat (a0 - ((Int.toNat (a0 / 2) &&& Int.toNat 1431655765 : Nat) : Int)) &&& Int.toNat 858993459 : Nat) : Int) + ((Int.toNat ((a0 - ((Int.toNat (a0 / 2) &&& Int.toNat 1431655765 : Nat) : Int)) / 4) &&& Int.toNat 858993459 : Nat) : Int)) + ((((Int.toNat (a0 - ((Int.toNat (a0 / 2) &&& Int.toNat 1431655765 : Nat) : Int)) &&& Int.toNat 858993459 : Nat) : Int) + ((Int.toNat ((a0 - ((Int.toNat (a0 / 2) &&& Int.toNat 1431655765 : Nat) : Int)) / 4) &&& Int.toNat 858993459 : Nat) : Int)) / 16))) ∧ (0 ≤ ((Int.toNat ((((Int.toNat (a0 - ((Int.toNat (a0 / 2) &&& Int.toNat 1431655765 : Nat) : Int)) &&& Int.toNat 858993459 : Nat) : Int) + ((Int.toNat ((a0 - ((Int.toNat (a0 / 2) &&& Int.toNat 1431655765 : Nat) : Int)) / 4) &&& Int.toNat 858993459 : Nat) : Int)) + ((((Int.toNat (a0 - ((Int.toNat (a0 / 2) &&& Int.toNat 1431655765 : Nat) : Int)) &&& Int.toNat 858993459 : Nat) : Int) + ((Int.toNat ((a0 - ((Int.toNat (a0 / 2) &&& Int.toNat 1431655765 : Nat) : Int)) / 4) &&& Int.toNat 858993459 : Nat) : Int)) / 16)) &&& Int.toNat 252645135 : Nat) : Int) ∧ ((Int.toNat ((((Int.toNat (a0 - ((Int.toNat (a0 / 2) &&& Int.toNat 1431655765 : Nat) : Int)) &&& Int.toNat 858993459 : Nat) : Int) + ((Int.toNat ((a0 - ((Int.toNat (a0 / 2) &&& Int.toNat 1431655765 : Nat) : Int)) / 4) &&& Int.toNat 858993459 : Nat) : Int)) + ((((Int.toNat (a0 - ((Int.toNat (a0 / 2) &&& Int.toNat 1431655765 : Nat) : Int)) &&& Int.toNat 858993459 : Nat) : Int) + ((Int.toNat ((a0 - ((Int.toNat (a0 / 2) &&& Int.toNat 1431655765 : Nat) : Int)) / 4) &&& Int.toNat 858993459 : Nat) : Int)) / 16)) &&& Int.toNat 252645135 : Nat) : Int) ≤ 2147483647) ∧ (0 ≤ (((Int.toNat ((((Int.toNat (a0 - ((Int.toNat (a0 / 2) &&& Int.toNat 1431655765 : Nat) : Int)) &&& Int.toNat 858993459 : Nat) : Int) + ((Int.toNat ((a0 - ((Int.toNat (a0 / 2) &&& Int.toNat 1431655765 : Nat) : Int)) / 4) &&& Int.toNat 858993459 : Nat) : Int)) + ((((Int.toNat (a0 - ((Int.toNat (a0 / 2) &&& Int.toNat 1431655765 : Nat) : Int)) &&& Int.toNat 858993459 : Nat) : Int) + ((Int.toNat ((a0 - ((Int.toNat (a0 / 2) &&& Int.toNat 1431655765 : Nat) : Int)) / 4) &&& Int.toNat 858993459 : Nat) : Int)) / 16)) &&& Int.toNat 252645135 : Nat) : Int) + (((Int.toNat ((((Int.toNat (a0 - ((Int.toNat (a0 / 2) &&& Int.toNat 1431655765 : Nat) : Int)) &&& Int.toNat 858993459 : Nat) : Int) + ((Int.toNat ((a0 - ((Int.toNat (a0 / 2) &&& Int.toNat 1431655765 : Nat) : Int)) / 4) &&& Int.toNat 858993459 : Nat) : Int)) + ((((Int.toNat (a0 - ((Int.toNat (a0 / 2) &&& Int.toNat 1431655765 : Nat) : Int)) &&& Int.toNat 858993459 : Nat) : Int) + ((Int.toNat ((a0 - ((Int.toNat (a0 / 2) &&& Int.toNat 1431655765 : Nat) : Int)) / 4) &&& Int.toNat 858993459 : Nat) : Int)) / 16)) &&& Int.toNat 252645135 : Nat) : Int) / 256)) ∧ (((Int.toNat ((((Int.toNat (a0 - ((Int.toNat (a0 / 2) &&& Int.toNat 1431655765 : Nat) : Int)) &&& Int.toNat 858993459 : Nat) : Int) + ((Int.toNat ((a0 - ((Int.toNat (a0 / 2) &&& Int.toNat 1431655765 : Nat) : Int)) / 4) &&& Int.toNat 858993459 : Nat) : Int)) + ((((Int.toNat (a0 - ((Int.toNat (a0 / 2) &&& Int.toNat 1431655765 : Nat) : Int)) &&& Int.toNat 858993459 : Nat) : Int) + ((Int.toNat ((a0 - ((Int.toNat (a0 / 2) &&& Int.toNat 1431655765 : Nat) : Int)) / 4) &&& Int.toNat 858993459 : Nat) : Int)) / 16)) &&& Int.toNat 252645135 : Nat) : Int) + (((Int.toNat ((((Int.toNat (a0 - ((Int.toNat (a0 / 2) &&& Int.toNat 1431655765 : Nat) : Int)) &&& Int.toNat 858993459 : Nat) : Int) + ((Int.toNat ((a0 - ((Int.toNat (a0 / 2) &&& Int.toNat 1431655765 : Nat) : Int)) / 4) &&& Int.toNat 858993459 : Nat) : Int)) + ((((Int.toNat (a0 - ((Int.toNat (a0 / 2) &&& Int.toNat 1431655765 : Nat) : Int)) &&& Int.toNat 858993459 : Nat) : Int) + ((Int.toNat ((a0 - ((Int.toNat (a0 / 2) &&& Int.toNat 1431655765 : Nat) : Int)) / 4) &&& Int.toNat 858993459 : Nat) : Int)) / 16)) &&& Int.toNat 252645135 : Nat) : Int) / 256)) ≤ 2147483647) ∧ (0 ≤ ((((Int.toNat ((((Int.toNat (a0 - ((Int.toNat (a0 / 2) &&& Int.toNat 1431655765 : Nat) : Int)) &&& Int.toNat 858993459 : Nat) : Int) + ((Int.toNat ((a0 - ((Int.toNat (a0 / 2) &&& Int.toNat 1431655765 : Nat) : Int)) / 4) &&& Int.toNat 858993459 : Nat) : Int)) + ((((Int.toNat (a0 - ((Int.toNat (a0 / 2) &&& Int.toNat 1431655765 : Nat) : Int)) &&& Int.toNat 858993459 : Nat) : Int) + ((Int.toNat ((a0 - ((Int.toNat (a0 / 2) &&& Int.toNat 1431655765 : Nat) : Int)) / 4) &&& Int.toNat 858993459 : Nat) : Int)) / 16)) &&& Int.toNat 252645135 : Nat) : Int) + (((Int.toNat ((((Int.toNat (a0 - ((Int.toNat (a0 / 2) &&& Int.toNat 1431655765 : Nat) : Int)) &&& Int.toNat 858993459 : Nat) : Int) + ((Int.toNat ((a0 - ((Int.toNat (a0 / 2) &&& Int.toNat 1431655765 : Nat) : Int)) / 4) &&& Int.toNat 858993459 : Nat) : Int)) + ((((Int.toNat (a0 - ((Int.toNat (a0 / 2) &&& Int.toNat 1431655765 : Nat) : Int)) &&& Int.toNat 858993459 : Nat) : Int) + ((Int.toNat ((a0 - ((Int.toNat (a0 / 2) &&& Int.toNat 1431655765 : Nat) : Int)) / 4) &&& Int.toNat 858993459 : Nat) : Int)) / 16)) &&& Int.toNat 252645135 : Nat) : Int) / 256)) + ((((Int.toNat ((((Int.toNat (a0 - ((Int.toNat (a0 / 2) &&& Int.toNat 1431655765 : Nat) : Int)) &&& Int.toNat 858993459 : Nat) : Int) + ((Int.toNat ((a0 - ((Int.toNat (a0 / 2) &&& Int.toNat 1431655765 : Nat) : Int)) / 4) &&& Int.toNat 858993459 : Nat) : Int)) + ((((Int.toNat (a0 - ((Int.toNat (a0 / 2) &&& Int.toNat 1431655765 : Nat) : Int)) &&& Int.toNat 858993459 : Nat) : Int) + ((Int.toNat ((a0 - ((Int.toNat (a0 / 2) &&& Int.toNat 1431655765 : Nat) : Int)) / 4) &&& Int.toNat 858993459 : Nat) : Int)) / 16)) &&& Int.toNat 252645135 : Nat) : Int) + (((Int.toNat ((((Int.toNat (a0 - ((Int.toNat (a0 / 2) &&& Int.toNat 1431655765 : Nat) : Int)) &&& Int.toNat 858993459 : Nat) : Int) + ((Int.toNat ((a0 - ((Int.toNat (a0 / 2) &&& Int.toNat 1431655765 : Nat) : Int)) / 4) &&& Int.toNat 858993459 : Nat) : Int)) + ((((Int.toNat (a0 - ((Int.toNat (a0 / 2) &&& Int.toNat 1431655765 : Nat) : Int)) &&& Int.toNat 858993459 : Nat) : Int) + ((Int.toNat ((a0 - ((Int.toNat (a0 / 2) &&& Int.toNat 1431655765 : Nat) : Int)) / 4) &&& Int.toNat 858993459 : Nat) : Int)) / 16)) &&& Int.toNat 252645135 : Nat) : Int) / 256)) / 65536))) ∧ Q (some (kI ((Int.toNat ((((Int.toNat ((((Int.toNat (a0 - ((Int.toNat (a0 / 2) &&& Int.toNat 1431655765 : Nat) : Int)) &&& Int.toNat 858993459 : Nat) : Int) + ((Int.toNat ((a0 - ((Int.toNat (a0 / 2) &&& Int.toNat 1431655765 : Nat) : Int)) / 4) &&& Int.toNat 858993459 : Nat) : Int)) + ((((Int.toNat (a0 - ((Int.toNat (a0 / 2) &&& Int.toNat 1431655765 : Nat) : Int)) &&& Int.toNat 858993459 : Nat) : Int) + ((Int.toNat ((a0 - ((Int.toNat (a0 / 2) &&& Int.toNat 1431655765 : Nat) : Int)) / 4) &&& Int.toNat 858993459 : Nat) : Int)) / 16)) &&& Int.toNat 252645135 : Nat) : Int) + (((Int.toNat ((((Int.toNat (a0 - ((Int.toNat (a0 / 2) &&& Int.toNat 1431655765 : Nat) : Int)) &&& Int.toNat 858993459 : Nat) : Int) + ((Int.toNat ((a0 - ((Int.toNat (a0 / 2) &&& Int.toNat 1431655765 : Nat) : Int)) / 4) &&& Int.toNat 858993459 : Nat) : Int)) + ((((Int.toNat (a0 - ((Int.toNat (a0 / 2) &&& Int.toNat 1431655765 : Nat) : Int)) &&& Int.toNat 858993459 : Nat) : Int) + ((Int.toNat ((a0 - ((Int.toNat (a0 / 2) &&& Int.toNat 1431655765 : Nat) : Int)) / 4) &&& Int.toNat 858993459 : Nat) : Int)) / 16)) &&& Int.toNat 252645135 : Nat) : Int) / 256)) + ((((Int.toNat ((((Int.toNat (a0 - ((Int.toNat (a0 / 2) &&& Int.toNat 1431655765 : Nat) : Int)) &&& Int.toNat 858993459 : Nat) : Int) + ((Int.toNat ((a0 - ((Int.toNat (a0 / 2) &&& Int.toNat 1431655765 : Nat) : Int)) / 4) &&& Int.toNat 858993459 : Nat) : Int)) + ((((Int.toNat (a0 - ((Int.toNat (a0 / 2) &&& Int.toNat 1431655765 : Nat) : Int)) &&& Int.toNat 858993459 : Nat) : Int) + ((Int.toNat ((a0 - ((Int.toNat (a0 / 2) &&& Int.toNat 1431655765 : Nat) : Int)) / 4) &&& Int.toNat 858993459 : Nat) : Int)) / 16)) &&& Int.toNat 252645135 : Nat) : Int) + (((Int.toNat ((((Int.toNat (a0 - ((Int.toNat (a0 / 2) &&& Int.toNat 1431655765 : Nat) : Int)) &&& Int.toNat 858993459 : Nat) : Int) + ((Int.toNat ((a0 - ((Int.toNat (a0 / 2) &&& Int.toNat 1431655765 : Nat) : Int)) / 4) &&& Int.toNat 858993459 : Nat) : Int)) + ((((Int.toNat (a0 - ((Int.toNat (a0 / 2) &&& Int.toNat 1431655765 : Nat) : Int)) &&& Int.toNat 858993459 : Nat) : Int) + ((Int.toNat ((a0 - ((Int.toNat (a0 / 2) &&& Int.toNat 1431655765 : Nat) : Int)) / 4) &&& Int.toNat 858993459 : Nat) : Int)) / 16)) &&& Int.toNat 252645135 : Nat) : Int) / 256)) / 65536)) &&& Int.toNat 63 : Nat) : Int))) V) :
    kGo xs Lx (d + 0) 218 0 [some (kI a0)] [] V Q := by
  refine g_iload_n 1 gq218 rfl rfl rfl ?_
  refine g_iload_n 2 gq218 rfl rfl rfl ?_
  refine g_iconst 3 gq218 rfl rfl ?_
  have c3 := h.1
  replace h := h.2
  refine g_iushr 4 gq218 rfl rfl c3 (by omega) ?_
  refine g_ldcw 7 (1431655765) gq218 rfl rfl rfl rfl ?_
  have c7 := h.1
  replace h := h.2
  refine g_iand 8 gq218 rfl rfl c7 (by omega) ?_
  refine g_isub 9 gq218 rfl rfl ?_
  refine g_istore_n 10 gq218 rfl rfl rfl ?_
  refine g_iload_n 11 gq218 rfl rfl rfl ?_
  refine g_ldcw 14 (858993459) gq218 rfl rfl rfl rfl ?_
  have c14 := h.1
  replace h := h.2
  refine g_iand 15 gq218 rfl rfl c14 (by omega) ?_
  refine g_iload_n 16 gq218 rfl rfl rfl ?_
  refine g_iconst 17 gq218 rfl rfl ?_
  have c19 := h.1
  replace h := h.2
  refine g_iushr 18 gq218 rfl rfl c19 (by omega) ?_
  refine g_ldcw 21 (858993459) gq218 rfl rfl rfl rfl ?_
  have c23 := h.1
  replace h := h.2
  refine g_iand 22 gq218 rfl rfl c23 (by omega) ?_
  refine g_iadd 23 gq218 rfl rfl ?_
  refine g_istore_n 24 gq218 rfl rfl rfl ?_
  refine g_iload_n 25 gq218 rfl rfl rfl ?_
  refine g_iload_n 26 gq218 rfl rfl rfl ?_
  refine g_iconst 27 gq218 rfl rfl ?_
  have c31 := h.1
  replace h := h.2
  refine g_iushr 28 gq218 rfl rfl c31 (by omega) ?_
  refine g_iadd 29 gq218 rfl rfl ?_
  refine g_ldcw 32 (252645135) gq218 rfl rfl rfl rfl ?_
  have c36 := h.1
  replace h := h.2
  refine g_iand 33 gq218 rfl rfl c36 (by omega) ?_
  refine g_istore_n 34 gq218 rfl rfl rfl ?_
  refine g_iload_n 35 gq218 rfl rfl rfl ?_
  refine g_iload_n 36 gq218 rfl rfl rfl ?_
  refine g_bipush 38 gq218 rfl rfl rfl ?_
  have c43 := h.1
  replace h := h.2
  refine g_iushr 39 gq218 rfl rfl c43 (by omega) ?_
  refine g_iadd 40 gq218 rfl rfl ?_
  refine g_istore_n 41 gq218 rfl rfl rfl ?_
  refine g_iload_n 42 gq218 rfl rfl rfl ?_
  refine g_iload_n 43 gq218 rfl rfl rfl ?_
  refine g_bipush 45 gq218 rfl rfl rfl ?_
  have c51 := h.1
  replace h := h.2
  refine g_iushr 46 gq218 rfl rfl c51 (by omega) ?_
  refine g_iadd 47 gq218 rfl rfl ?_
  refine g_istore_n 48 gq218 rfl rfl rfl ?_
  refine g_iload_n 49 gq218 rfl rfl rfl ?_
  refine g_bipush 51 gq218 rfl rfl rfl ?_
  have c58 := h.1
  replace h := h.2
  refine g_iand 52 gq218 rfl rfl c58 (by omega) ?_
  exact g_iret gq218 rfl rfl h
set_option maxRecDepth 10000 in
theorem b221_0 {xs : Nat → Int32} {Lx d : Nat} {V : km_V} {Q : Option Value → km_V → Prop} {a0 a1 : Int} 
    (h : (kR a0) ∧ (kR a1) ∧ ((a0 < a1 →
    Q (some (kI a1)) V) ∧
   (a1 ≤ a0 →
    Q (some (kI a0)) V))) :
    kGo xs Lx (d + 0) 221 0 [some (kI a0), some (kI a1)] [] V Q := by
  refine g_iload_n 1 gq221 rfl rfl rfl ?_
  refine g_iload_n 2 gq221 rfl rfl rfl ?_
  have c2 := h.1
  replace h := h.2
  have c4 := h.1
  replace h := h.2
  refine g_icmp_lt 9 5 gq221 rfl rfl rfl c2 c4 (fun c => ?_) (fun c => ?_)
  · replace h := h.1 c
    refine g_iload_n 10 gq221 rfl rfl rfl ?_
    exact g_iret gq221 rfl rfl h
  · replace h := h.2 c
    refine g_iload_n 6 gq221 rfl rfl rfl ?_
    refine g_goto 10 gq221 rfl rfl ?_
    exact g_iret gq221 rfl rfl h
set_option maxRecDepth 10000 in
theorem b222_0 {xs : Nat → Int32} {Lx d : Nat} {V : km_V} {Q : Option Value → km_V → Prop} {a0 a1 : Int} 
    (h : (kR a0) ∧ (kR a1) ∧ ((a1 < a0 →
    Q (some (kI a1)) V) ∧
   (a0 ≤ a1 →
    Q (some (kI a0)) V))) :
    kGo xs Lx (d + 0) 222 0 [some (kI a0), some (kI a1)] [] V Q := by
  refine g_iload_n 1 gq222 rfl rfl rfl ?_
  refine g_iload_n 2 gq222 rfl rfl rfl ?_
  have c2 := h.1
  replace h := h.2
  have c4 := h.1
  replace h := h.2
  refine g_icmp_gt 9 5 gq222 rfl rfl rfl c2 c4 (fun c => ?_) (fun c => ?_)
  · replace h := h.1 c
    refine g_iload_n 10 gq222 rfl rfl rfl ?_
    exact g_iret gq222 rfl rfl h
  · replace h := h.2 c
    refine g_iload_n 6 gq222 rfl rfl rfl ?_
    refine g_goto 10 gq222 rfl rfl ?_
    exact g_iret gq222 rfl rfl h
set_option maxRecDepth 10000 in
theorem b136_0 {xs : Nat → Int32} {Lx d : Nat} {V : km_V} {Q : Option Value → km_V → Prop} {a1 : Int} 
    (h : (kR (V 299 12)) ∧ (((V 299 12) ≠ 0 →
    Q (some (kI 0)) V) ∧
   ((V 299 12) = 0 →
    (0 ≤ (V 299 11) ∧ (V 299 11) < (403 : Nat)) ∧ (kR (V 302 (Int.toNat (V 299 11)))) ∧ (kR a1) ∧ (((V 302 (Int.toNat (V 299 11))) ≠ a1 →
      Q (some (kI 0)) V) ∧
     ((V 302 (Int.toNat (V 299 11))) = a1 →
      Q (some (kI 1)) V))))) :
    kGo xs Lx (d + 0) 136 0 [some (.ref 299), some (kI a1)] [] V Q := by
  refine g_aload_n 1 gq136 rfl rfl rfl ?_
  refine g_getI 4 gq136 rfl rfl rfl rfl rfl rfl ?_
  have c2 := h.1
  replace h := h.2
  refine g_if_ne 24 7 gq136 rfl rfl rfl c2 (fun c => ?_) (fun c => ?_)
  · replace h := h.1 c
    refine g_iconst 25 gq136 rfl rfl ?_
    exact g_zret gq136 rfl rfl (by omega) h
  · replace h := h.2 c
    refine g_aload_n 8 gq136 rfl rfl rfl ?_
    refine g_getA 11 302 gq136 rfl rfl rfl rfl rfl rfl rfl ?_
    refine g_aload_n 12 gq136 rfl rfl rfl ?_
    refine g_getI 15 gq136 rfl rfl rfl rfl rfl rfl ?_
    have c13 := h.1
    replace h := h.2
    refine g_iald 16 gq136 rfl rfl rfl c13 ?_
    refine g_iload_n 17 gq136 rfl rfl rfl ?_
    have c17 := h.1
    replace h := h.2
    have c19 := h.1
    replace h := h.2
    refine g_icmp_ne 24 20 gq136 rfl rfl rfl c17 c19 (fun c => ?_) (fun c => ?_)
    · replace h := h.1 c
      refine g_iconst 25 gq136 rfl rfl ?_
      exact g_zret gq136 rfl rfl (by omega) h
    · replace h := h.2 c
      refine g_iconst 21 gq136 rfl rfl ?_
      refine g_goto 25 gq136 rfl rfl ?_
      exact g_zret gq136 rfl rfl (by omega) h
set_option maxRecDepth 10000 in
theorem b158_0 {xs : Nat → Int32} {Lx d : Nat} {V : km_V} {Q : Option Value → km_V → Prop} {a2 : Int} {r1 : Nat} (hr1 : km_sh[r1]? = some (11, 78))
    (h : (0 ≤ a2 ∧ a2 < (16 : Nat)) ∧ (0 ≤ (V 313 (Int.toNat a2)) ∧ (V 313 (Int.toNat a2)) ≤ 2147483647) ∧ (kR ((V 313 (Int.toNat a2)) % 2)) ∧ ((((V 313 (Int.toNat a2)) % 2) ≠ 0 →
    (0 ≤ a2 ∧ a2 < (16 : Nat)) ∧ (0 ≤ (V 313 (Int.toNat a2)) ∧ (V 313 (Int.toNat a2)) ≤ 2147483647) ∧ (0 ≤ (70 + ((V 313 (Int.toNat a2)) / 2)) ∧ (70 + ((V 313 (Int.toNat a2)) / 2)) < (78 : Nat)) ∧ (kR (V r1 (Int.toNat (70 + ((V 313 (Int.toNat a2)) / 2))))) ∧ (((V r1 (Int.toNat (70 + ((V 313 (Int.toNat a2)) / 2)))) ≠ 1 →
      Q (some (kI 1)) V) ∧
     ((V r1 (Int.toNat (70 + ((V 313 (Int.toNat a2)) / 2)))) = 1 →
      Q (some (kI 3)) V))) ∧
   (((V 313 (Int.toNat a2)) % 2) = 0 →
    Q (some (kI 0)) V))) :
    kGo xs Lx (d + 0) 158 0 [some (.ref 299), some (.ref r1), some (kI a2)] [] V Q := by
  refine g_aload_n 1 gq158 rfl rfl rfl ?_
  refine g_getA 4 313 gq158 rfl rfl rfl rfl rfl rfl rfl ?_
  refine g_iload_n 5 gq158 rfl rfl rfl ?_
  have c3 := h.1
  replace h := h.2
  refine g_iald 6 gq158 rfl rfl rfl c3 ?_
  refine g_iconst 7 gq158 rfl rfl ?_
  have c7 := h.1
  replace h := h.2
  refine g_irem 8 gq158 rfl rfl c7 (by omega) ?_
  have c10 := h.1
  replace h := h.2
  refine g_if_ne 15 11 gq158 rfl rfl rfl c10 (fun c => ?_) (fun c => ?_)
  · replace h := h.1 c
    refine g_aload_n 16 gq158 rfl rfl rfl ?_
    refine g_bipush 18 gq158 rfl rfl rfl ?_
    refine g_aload_n 19 gq158 rfl rfl rfl ?_
    refine g_getA 22 313 gq158 rfl rfl rfl rfl rfl rfl rfl ?_
    refine g_iload_n 23 gq158 rfl rfl rfl ?_
    have c19 := h.1
    replace h := h.2
    refine g_iald 24 gq158 rfl rfl rfl c19 ?_
    refine g_iconst 25 gq158 rfl rfl ?_
    have c23 := h.1
    replace h := h.2
    refine g_idiv 26 gq158 rfl rfl c23 (by omega) ?_
    refine g_iadd 27 gq158 rfl rfl ?_
    have c27 := h.1
    replace h := h.2
    refine g_iald 28 gq158 rfl rfl hr1 c27 ?_
    refine g_iconst 29 gq158 rfl rfl ?_
    have c31 := h.1
    replace h := h.2
    refine g_icmp_ne 36 32 gq158 rfl rfl rfl c31 (by omega) (fun c => ?_) (fun c => ?_)
    · replace h := h.1 c
      refine g_iconst 37 gq158 rfl rfl ?_
      exact g_iret gq158 rfl rfl h
    · replace h := h.2 c
      refine g_iconst 33 gq158 rfl rfl ?_
      refine g_goto 37 gq158 rfl rfl ?_
      exact g_iret gq158 rfl rfl h
  · replace h := h.2 c
    refine g_iconst 12 gq158 rfl rfl ?_
    refine g_goto 37 gq158 rfl rfl ?_
    exact g_iret gq158 rfl rfl h
set_option maxRecDepth 10000 in
theorem b160_0 {xs : Nat → Int32} {Lx d : Nat} {V : km_V} {Q : Option Value → km_V → Prop} {a1 : Int} 
    (h : (0 ≤ a1 ∧ a1 ≤ 2147483647) ∧ (kR (a1 % 2)) ∧ (((a1 % 2) ≠ 0 →
    (0 ≤ a1 ∧ a1 ≤ 2147483647) ∧ (0 ≤ (a1 / 2) ∧ (a1 / 2) < (16 : Nat)) ∧ (0 ≤ (V 313 (Int.toNat (a1 / 2))) ∧ (V 313 (Int.toNat (a1 / 2))) ≤ 2147483647) ∧ Q (some (kI ((V 313 (Int.toNat (a1 / 2))) / 2))) V) ∧
   ((a1 % 2) = 0 →
    (0 ≤ a1 ∧ a1 ≤ 2147483647) ∧ (0 ≤ (a1 / 2) ∧ (a1 / 2) < (16 : Nat)) ∧ (0 ≤ (V 315 (Int.toNat (a1 / 2))) ∧ (V 315 (Int.toNat (a1 / 2))) < (16 : Nat)) ∧ (0 ≤ (V 313 (Int.toNat (V 315 (Int.toNat (a1 / 2))))) ∧ (V 313 (Int.toNat (V 315 (Int.toNat (a1 / 2))))) ≤ 2147483647) ∧ Q (some (kI ((V 313 (Int.toNat (V 315 (Int.toNat (a1 / 2))))) / 2))) V))) :
    kGo xs Lx (d + 0) 160 0 [some (.ref 299), some (kI a1)] [] V Q := by
  refine g_aload_n 1 gq160 rfl rfl rfl ?_
  refine g_getA 4 313 gq160 rfl rfl rfl rfl rfl rfl rfl ?_
  refine g_iload_n 5 gq160 rfl rfl rfl ?_
  refine g_iconst 6 gq160 rfl rfl ?_
  have c4 := h.1
  replace h := h.2
  refine g_irem 7 gq160 rfl rfl c4 (by omega) ?_
  have c7 := h.1
  replace h := h.2
  refine g_if_ne 21 10 gq160 rfl rfl rfl c7 (fun c => ?_) (fun c => ?_)
  · replace h := h.1 c
    refine g_iload_n 22 gq160 rfl rfl rfl ?_
    refine g_iconst 23 gq160 rfl rfl ?_
    have c13 := h.1
    replace h := h.2
    refine g_idiv 24 gq160 rfl rfl c13 (by omega) ?_
    have c16 := h.1
    replace h := h.2
    refine g_iald 25 gq160 rfl rfl rfl c16 ?_
    refine g_iconst 26 gq160 rfl rfl ?_
    have c20 := h.1
    replace h := h.2
    refine g_idiv 27 gq160 rfl rfl c20 (by omega) ?_
    exact g_iret gq160 rfl rfl h
  · replace h := h.2 c
    refine g_aload_n 11 gq160 rfl rfl rfl ?_
    refine g_getA 14 315 gq160 rfl rfl rfl rfl rfl rfl rfl ?_
    refine g_iload_n 15 gq160 rfl rfl rfl ?_
    refine g_iconst 16 gq160 rfl rfl ?_
    have c29 := h.1
    replace h := h.2
    refine g_idiv 17 gq160 rfl rfl c29 (by omega) ?_
    have c32 := h.1
    replace h := h.2
    refine g_iald 18 gq160 rfl rfl rfl c32 ?_
    refine g_goto 24 gq160 rfl rfl ?_
    have c36 := h.1
    replace h := h.2
    refine g_iald 25 gq160 rfl rfl rfl c36 ?_
    refine g_iconst 26 gq160 rfl rfl ?_
    have c40 := h.1
    replace h := h.2
    refine g_idiv 27 gq160 rfl rfl c40 (by omega) ?_
    exact g_iret gq160 rfl rfl h
set_option maxRecDepth 10000 in
theorem b165_0 {xs : Nat → Int32} {Lx d : Nat} {V : km_V} {Q : Option Value → km_V → Prop} {a1 : Int} 
    (h : (0 ≤ a1 ∧ a1 < (16 : Nat)) ∧ (0 ≤ (V 313 (Int.toNat a1)) ∧ (V 313 (Int.toNat a1)) ≤ 2147483647) ∧ (0 ≤ a1 ∧ a1 < (16 : Nat)) ∧ (0 ≤ (V 315 (Int.toNat a1)) ∧ (V 315 (Int.toNat a1)) < (16 : Nat)) ∧ (0 ≤ (V 313 (Int.toNat (V 315 (Int.toNat a1)))) ∧ (V 313 (Int.toNat (V 315 (Int.toNat a1)))) ≤ 2147483647) ∧ Q (some (kI (((V 313 (Int.toNat a1)) % 2) + ((V 313 (Int.toNat (V 315 (Int.toNat a1)))) % 2)))) V) :
    kGo xs Lx (d + 0) 165 0 [some (.ref 299), some (kI a1)] [] V Q := by
  refine g_aload_n 1 gq165 rfl rfl rfl ?_
  refine g_getA 4 313 gq165 rfl rfl rfl rfl rfl rfl rfl ?_
  refine g_iload_n 5 gq165 rfl rfl rfl ?_
  have c3 := h.1
  replace h := h.2
  refine g_iald 6 gq165 rfl rfl rfl c3 ?_
  refine g_iconst 7 gq165 rfl rfl ?_
  have c7 := h.1
  replace h := h.2
  refine g_irem 8 gq165 rfl rfl c7 (by omega) ?_
  refine g_aload_n 9 gq165 rfl rfl rfl ?_
  refine g_getA 12 313 gq165 rfl rfl rfl rfl rfl rfl rfl ?_
  refine g_aload_n 13 gq165 rfl rfl rfl ?_
  refine g_getA 16 315 gq165 rfl rfl rfl rfl rfl rfl rfl ?_
  refine g_iload_n 17 gq165 rfl rfl rfl ?_
  have c15 := h.1
  replace h := h.2
  refine g_iald 18 gq165 rfl rfl rfl c15 ?_
  have c18 := h.1
  replace h := h.2
  refine g_iald 19 gq165 rfl rfl rfl c18 ?_
  refine g_iconst 20 gq165 rfl rfl ?_
  have c22 := h.1
  replace h := h.2
  refine g_irem 21 gq165 rfl rfl c22 (by omega) ?_
  refine g_iadd 22 gq165 rfl rfl ?_
  exact g_iret gq165 rfl rfl h
set_option maxRecDepth 10000 in
theorem b128_0 {xs : Nat → Int32} {Lx d : Nat} {V : km_V} {Q : Option Value → km_V → Prop} {a1 : Int} 
    (h : (kR a1) ∧ (kR (V 299 4)) ∧ (((V 299 4) ≤ a1 →
    Q (some (kI 0)) V) ∧
   (a1 < (V 299 4) →
    (0 ≤ a1 ∧ a1 < (2000 : Nat)) ∧ Q (some (kI ((V 301 (Int.toNat a1)) % 256))) V))) :
    kGo xs Lx (d + 0) 128 0 [some (.ref 299), some (kI a1)] [] V Q := by
  refine g_iload_n 1 gq128 rfl rfl rfl ?_
  refine g_aload_n 2 gq128 rfl rfl rfl ?_
  refine g_getI 5 gq128 rfl rfl rfl rfl rfl rfl ?_
  have c3 := h.1
  replace h := h.2
  have c5 := h.1
  replace h := h.2
  refine g_icmp_ge 21 8 gq128 rfl rfl rfl c3 c5 (fun c => ?_) (fun c => ?_)
  · replace h := h.1 c
    refine g_iconst 22 gq128 rfl rfl ?_
    exact g_iret gq128 rfl rfl h
  · replace h := h.2 c
    refine g_aload_n 9 gq128 rfl rfl rfl ?_
    refine g_getA 12 301 gq128 rfl rfl rfl rfl rfl rfl rfl ?_
    refine g_iload_n 13 gq128 rfl rfl rfl ?_
    have c15 := h.1
    replace h := h.2
    refine g_bald 14 gq128 rfl rfl rfl c15 ?_
    refine g_sipush 17 gq128 rfl rfl rfl ?_
    refine g_iandM 18 8 gq128 rfl rfl (by decide) rfl ?_
    refine g_goto 22 gq128 rfl rfl ?_
    exact g_iret gq128 rfl rfl h
set_option maxRecDepth 10000 in
theorem b86_0 {xs : Nat → Int32} {Lx d : Nat} {V : km_V} {Q : Option Value → km_V → Prop} {a1 : Int} 
    (h : (kR a1) ∧ ((a1 < 0 →
    Q (some (kI (-1))) V) ∧
   (0 ≤ a1 →
    (kR a1) ∧ (kR (V 1 0)) ∧ (((V 1 0) ≤ a1 →
      Q (some (kI (-1))) V) ∧
     (a1 < (V 1 0) →
      (0 ≤ a1 ∧ a1 < (2000 : Nat)) ∧ Q (some (kI ((V 2 (Int.toNat a1)) % 256))) V))))) :
    kGo xs Lx (d + 0) 86 0 [some (.ref 1), some (kI a1)] [] V Q := by
  refine g_iload_n 1 gq86 rfl rfl rfl ?_
  have c1 := h.1
  replace h := h.2
  refine g_if_lt 25 4 gq86 rfl rfl rfl c1 (fun c => ?_) (fun c => ?_)
  · replace h := h.1 c
    refine g_iconst 26 gq86 rfl rfl ?_
    exact g_iret gq86 rfl rfl h
  · replace h := h.2 c
    refine g_iload_n 5 gq86 rfl rfl rfl ?_
    refine g_aload_n 6 gq86 rfl rfl rfl ?_
    refine g_getI 9 gq86 rfl rfl rfl rfl rfl rfl ?_
    have c11 := h.1
    replace h := h.2
    have c13 := h.1
    replace h := h.2
    refine g_icmp_ge 25 12 gq86 rfl rfl rfl c11 c13 (fun c => ?_) (fun c => ?_)
    · replace h := h.1 c
      refine g_iconst 26 gq86 rfl rfl ?_
      exact g_iret gq86 rfl rfl h
    · replace h := h.2 c
      refine g_aload_n 13 gq86 rfl rfl rfl ?_
      refine g_getA 16 2 gq86 rfl rfl rfl rfl rfl rfl rfl ?_
      refine g_iload_n 17 gq86 rfl rfl rfl ?_
      have c23 := h.1
      replace h := h.2
      refine g_bald 18 gq86 rfl rfl rfl c23 ?_
      refine g_sipush 21 gq86 rfl rfl rfl ?_
      refine g_iandM 22 8 gq86 rfl rfl (by decide) rfl ?_
      refine g_goto 26 gq86 rfl rfl ?_
      exact g_iret gq86 rfl rfl h

/-! steps over longs that wrap round; blocks of a few methods anew -/
def w64 (x : Int) : Int := (Int64.ofInt x).toInt
def xor64 (x y : Int) : Int := (Int64.ofInt x ^^^ Int64.ofInt y).toInt
theorem w64_r (x : Int) : kR64 (w64 x) := by
  have h1 := Int64.le_toInt (Int64.ofInt x)
  have h2 := Int64.toInt_lt (Int64.ofInt x)
  unfold w64
  omega
theorem w64_id {x : Int} (h : kR64 x) : w64 x = x := k64 h
section WX
variable {xs : Nat → Int32} {Lx d m pc : Nat} {ls : km_L} {st : List Value} {V : km_V} {Q : Option Value → km_V → Prop} {q : km_Q}
theorem g_wrapJ {x : Int} (k : kGo xs Lx d m pc ls (kJ (w64 x) :: st) V Q) : kGo xs Lx d m pc ls (kJ x :: st) V Q := by
  have e : kJ (w64 x) = kJ x := by
    unfold w64 kJ
    rw [Int64.ofInt_toInt]
  rwa [e] at k
theorem g_lxor64 (pc' : Nat) {x y : Int} (hq : km_T[m]? = some q) (hi : km_at q.2.2.2.2.2.2.2 pc = some .lxor) (e : pc + 1 = pc') (k : kGo xs Lx d m pc' ls (kJ (xor64 x y) :: st) V Q) : kGo xs Lx d m pc ls (kJ y :: kJ x :: st) V Q := by
  subst e; exact g_pure hq hi (by simp only [km_pure, km_ll, kJ, xor64, Int64.ofInt_toInt]) k
end WX
theorem xor64_r (x y : Int) : kR64 (xor64 x y) := by
  have h1 := Int64.le_toInt (Int64.ofInt x ^^^ Int64.ofInt y)
  have h2 := Int64.toInt_lt (Int64.ofInt x ^^^ Int64.ofInt y)
  unfold xor64
  omega
theorem xor64_neg {x y : Int} (hx : kR64 x) (hy : kR64 y) : xor64 x y < 0 ↔ ((x < 0) ↔ ¬ (y < 0)) := by
  have e : ∀ z : Int64, (z.toInt < 0) ↔ z.toBitVec.msb = true := by
    intro z
    rw [BitVec.msb_eq_toInt, decide_eq_true_iff]
    exact Iff.rfl
  unfold xor64
  rw [e, Int64.toBitVec_xor, BitVec.msb_xor]
  have e1 := e (Int64.ofInt x)
  have e2 := e (Int64.ofInt y)
  rw [k64 hx] at e1
  rw [k64 hy] at e2
  cases h1 : (Int64.ofInt x).toBitVec.msb <;> cases h2 : (Int64.ofInt y).toBitVec.msb <;> rw [h1] at e1 <;> rw [h2] at e2 <;> simp at e1 e2 ⊢ <;> omega

set_option maxRecDepth 10000 in
theorem b219_0 {xs : Nat → Int32} {Lx d : Nat} {V : km_V} {Q : Option Value → km_V → Prop} {a0 a2 : Int} 
    (h : (kR64 a0) ∧ (kR64 a2 ∧ a2 ≠ 0) ∧ (∀ z1 : Int, z1 = (Int.tmod a0 a2) → (kR64 (xor64 a0 a2)) ∧ (kR (kcmp (xor64 a0 a2) 0)) ∧ ((0 ≤ (kcmp (xor64 a0 a2) 0) →
    Q (some (kJ z1)) V) ∧
   ((kcmp (xor64 a0 a2) 0) < 0 →
    (kR64 z1) ∧ (kR (kcmp z1 0)) ∧ (((kcmp z1 0) = 0 →
      Q (some (kJ z1)) V) ∧
     ((kcmp z1 0) ≠ 0 →
      Q (some (kJ (z1 + a2))) V)))))) :
    kGo xs Lx (d + 0) 219 0 [some (kJ a0), none, some (kJ a2), none, none, none] [] V Q := by
  refine g_lload_n 1 gq219 rfl rfl rfl ?_
  refine g_lload_n 2 gq219 rfl rfl rfl ?_
  have c2 := h.1
  replace h := h.2
  have c4 := h.1
  replace h := h.2
  refine g_lremT 3 gq219 rfl rfl c2 c4 ?_
  refine g_lstore 5 gq219 rfl rfl rfl ?_
  replace h := h _ rfl
  refine g_lload_n 6 gq219 rfl rfl rfl ?_
  refine g_lload_n 7 gq219 rfl rfl rfl ?_
  refine g_lxor64 8 gq219 rfl rfl ?_
  refine g_lconst 9 0 gq219 rfl rfl rfl ?_
  have c13 := h.1
  replace h := h.2
  refine g_lcmp 10 gq219 rfl rfl c13 (by omega) ?_
  have c16 := h.1
  replace h := h.2
  refine g_if_ge 25 13 gq219 rfl rfl rfl c16 (fun c => ?_) (fun c => ?_)
  · replace h := h.1 c
    refine g_lload 27 gq219 rfl rfl rfl ?_
    exact g_lret gq219 rfl rfl h
  · replace h := h.2 c
    refine g_lload 15 gq219 rfl rfl rfl ?_
    refine g_lconst 16 0 gq219 rfl rfl rfl ?_
    have c25 := h.1
    replace h := h.2
    refine g_lcmp 17 gq219 rfl rfl c25 (by omega) ?_
    have c28 := h.1
    replace h := h.2
    refine g_if_eq 25 20 gq219 rfl rfl rfl c28 (fun c => ?_) (fun c => ?_)
    · replace h := h.1 c
      refine g_lload 27 gq219 rfl rfl rfl ?_
      exact g_lret gq219 rfl rfl h
    · replace h := h.2 c
      refine g_lload 22 gq219 rfl rfl rfl ?_
      refine g_lload_n 23 gq219 rfl rfl rfl ?_
      refine g_ladd 24 gq219 rfl rfl ?_
      exact g_lret gq219 rfl rfl h
set_option maxRecDepth 10000 in
theorem b220_0 {xs : Nat → Int32} {Lx d : Nat} {V : km_V} {Q : Option Value → km_V → Prop} {a0 : Int} 
    (h : (kR64 a0) ∧ (kR (kcmp a0 0)) ∧ ((0 ≤ (kcmp a0 0) →
    Q (some (kJ a0)) V) ∧
   ((kcmp a0 0) < 0 →
    Q (some (kJ (w64 (-a0)))) V))) :
    kGo xs Lx (d + 0) 220 0 [some (kJ a0), none] [] V Q := by
  refine g_lload_n 1 gq220 rfl rfl rfl ?_
  refine g_lconst 2 0 gq220 rfl rfl rfl ?_
  have c2 := h.1
  replace h := h.2
  refine g_lcmp 3 gq220 rfl rfl c2 (by omega) ?_
  have c5 := h.1
  replace h := h.2
  refine g_if_ge 11 6 gq220 rfl rfl rfl c5 (fun c => ?_) (fun c => ?_)
  · replace h := h.1 c
    refine g_lload_n 12 gq220 rfl rfl rfl ?_
    exact g_lret gq220 rfl rfl h
  · replace h := h.2 c
    refine g_lload_n 7 gq220 rfl rfl rfl ?_
    refine g_lneg 8 gq220 rfl rfl ?_
    refine g_wrapJ ?_
    refine g_goto 12 gq220 rfl rfl ?_
    exact g_lret gq220 rfl rfl h
set_option maxRecDepth 10000 in
theorem c6_0 {xs : Nat → Int32} {Lx d : Nat} {V : km_V} {Q : Option Value → km_V → Prop} {a1 : Int} 
    (h : kGo xs Lx (d + 1) 6 8 [some (.ref 28), some (kI a1), some (kJ 1), none, some (kJ 1), none, some (kI 0), none, none, none, none, none] [] V Q) :
    kGo xs Lx (d + 1) 6 0 [some (.ref 28), some (kI a1), none, none, none, none, none, none, none, none, none, none] [] V Q := by
  refine g_lconst 1 1 gq6 rfl rfl rfl ?_
  refine g_lstore_n 2 gq6 rfl rfl rfl ?_
  refine g_lconst 3 1 gq6 rfl rfl rfl ?_
  refine g_lstore 5 gq6 rfl rfl rfl ?_
  refine g_iconst 6 gq6 rfl rfl ?_
  refine g_istore 8 gq6 rfl rfl rfl ?_
  exact kGo.weak (km_Le.s (km_Le.s (km_Le.s (km_Le.n (km_Le.s (km_Le.n (km_Le.s (km_Le.n (km_Le.n (km_Le.n (km_Le.n (km_Le.n km_Le.nil)))))))))))) h
set_option maxRecDepth 10000 in
theorem c6_8 {xs : Nat → Int32} {Lx d : Nat} {V : km_V} {Q : Option Value → km_V → Prop} {x1 x2 x4 x6 : Int} 
    (h : (kR x6) ∧ (kR x1) ∧ ((x1 ≤ x6 →
    Q (some (kJ (w64 (x4 * x2)))) V) ∧
   (x6 < x1 →
    kCI xs Lx (d + 0) 7 5 [.ref 28, kI x6, kI x6, kI x1] V (fun y1 W1 =>
    (kR y1) ∧ ((y1 ≠ (-1) →
      ((y1 = x6 →
        kGo xs Lx (d + 1) 6 59 [some (.ref 28), some (kI x1), some (kJ x2), none, some (kJ x4), none, some (kI x6), none, some (kI (x6 + 1)), none, none, none] [] W1 Q) ∧
       (y1 ≠ x6 →
        kCV xs Lx (d + 0) 8 6 [.ref 28, kI y1, kI x6] W1 (fun W2 =>
        kGo xs Lx (d + 1) 6 59 [some (.ref 28), some (kI x1), some (kJ x2), none, some (kJ (w64 (-x4))), none, some (kI x6), none, some (kI (x6 + 1)), none, none, none] [] W2 Q)))) ∧
     (y1 = (-1) →
      Q (some (kJ 0)) W1)))))) :
    kGo xs Lx (d + 1) 6 8 [some (.ref 28), some (kI x1), some (kJ x2), none, some (kJ x4), none, some (kI x6), none, none, none, none, none] [] V Q := by
  refine g_iload 10 gq6 rfl rfl rfl ?_
  refine g_iload_n 11 gq6 rfl rfl rfl ?_
  have c2 := h.1
  replace h := h.2
  have c4 := h.1
  replace h := h.2
  refine g_icmp_ge 175 14 gq6 rfl rfl rfl c2 c4 (fun c => ?_) (fun c => ?_)
  · replace h := h.1 c
    refine g_lload 177 gq6 rfl rfl rfl ?_
    refine g_lload_n 178 gq6 rfl rfl rfl ?_
    refine g_lmul 179 gq6 rfl rfl ?_
    refine g_wrapJ ?_
    exact g_lret gq6 rfl rfl h
  · replace h := h.2 c
    refine g_aload_n 15 gq6 rfl rfl rfl ?_
    refine g_iload 17 gq6 rfl rfl rfl ?_
    refine g_iload 19 gq6 rfl rfl rfl ?_
    refine g_iload_n 20 gq6 rfl rfl rfl ?_
    refine g_virt 7 _ (i := 74) gq6 rfl rfl gq7 rfl rfl rfl rfl rfl rfl ?_
    refine kGo.mono h (fun r W1 hr => ?_)
    obtain ⟨y1, rfl, h⟩ := hr
    refine g_istore 25 gq6 rfl rfl rfl ?_
    refine g_iload 27 gq6 rfl rfl rfl ?_
    refine g_iconst 28 gq6 rfl rfl ?_
    have c24 := h.1
    replace h := h.2
    refine g_icmp_ne 33 31 gq6 rfl rfl rfl c24 (by omega) (fun c => ?_) (fun c => ?_)
    · replace h := h.1 c
      refine g_iload 35 gq6 rfl rfl rfl ?_
      refine g_iload 37 gq6 rfl rfl rfl ?_
      refine g_icmp_eq 53 40 gq6 rfl rfl rfl c24 c2 (fun c => ?_) (fun c => ?_)
      · replace h := h.1 c
        refine g_iload 55 gq6 rfl rfl rfl ?_
        refine g_iconst 56 gq6 rfl rfl ?_
        refine g_iadd 57 gq6 rfl rfl ?_
        refine g_istore 59 gq6 rfl rfl rfl ?_
        exact kGo.weak (km_Le.s (km_Le.s (km_Le.s (km_Le.n (km_Le.s (km_Le.n (km_Le.s (km_Le.n (km_Le.s (km_Le.n (km_Le.n (km_Le.n km_Le.nil)))))))))))) h
      · replace h := h.2 c
        refine g_aload_n 41 gq6 rfl rfl rfl ?_
        refine g_iload 43 gq6 rfl rfl rfl ?_
        refine g_iload 45 gq6 rfl rfl rfl ?_
        refine g_virt 8 _ (i := 78) gq6 rfl rfl gq8 rfl rfl rfl rfl rfl rfl ?_
        refine kGo.mono h (fun r W2 hr => ?_)
        obtain ⟨rfl, h⟩ := hr
        refine g_lload 50 gq6 rfl rfl rfl ?_
        refine g_lneg 51 gq6 rfl rfl ?_
        refine g_wrapJ ?_
        refine g_lstore 53 gq6 rfl rfl rfl ?_
        refine g_iload 55 gq6 rfl rfl rfl ?_
        refine g_iconst 56 gq6 rfl rfl ?_
        refine g_iadd 57 gq6 rfl rfl ?_
        refine g_istore 59 gq6 rfl rfl rfl ?_
        exact kGo.weak (km_Le.s (km_Le.s (km_Le.s (km_Le.n (km_Le.s (km_Le.n (km_Le.s (km_Le.n (km_Le.s (km_Le.n (km_Le.n (km_Le.n km_Le.nil)))))))))))) h
    · replace h := h.2 c
      refine g_lconst 32 0 gq6 rfl rfl rfl ?_
      exact g_lret gq6 rfl rfl h
set_option maxRecDepth 10000 in
theorem c6_59 {xs : Nat → Int32} {Lx d : Nat} {V : km_V} {Q : Option Value → km_V → Prop} {x1 x2 x4 x6 x8 : Int} 
    (h : (kR x8) ∧ (kR x1) ∧ ((x1 ≤ x8 →
    (0 ≤ x6 ∧ x6 < (8 : Nat)) ∧ (0 ≤ x6 ∧ x6 < (12 : Nat)) ∧ (∀ z1 : Int, z1 = (V (31 + 1 * Int.toNat x6) (Int.toNat x6)) → kGo xs Lx (d + 1) 6 8 [some (.ref 28), some (kI x1), some (kJ z1), none, some (kJ x4), none, some (kI (x6 + 1)), none, none, none, none, none] [] V Q)) ∧
   (x8 < x1 →
    kGo xs Lx (d + 1) 6 71 [some (.ref 28), some (kI x1), some (kJ x2), none, some (kJ x4), none, some (kI x6), none, some (kI x8), some (kI (x6 + 1)), none, none] [] V Q))) :
    kGo xs Lx (d + 1) 6 59 [some (.ref 28), some (kI x1), some (kJ x2), none, some (kJ x4), none, some (kI x6), none, some (kI x8), none, none, none] [] V Q := by
  refine g_iload 61 gq6 rfl rfl rfl ?_
  refine g_iload_n 62 gq6 rfl rfl rfl ?_
  have c2 := h.1
  replace h := h.2
  have c4 := h.1
  replace h := h.2
  refine g_icmp_ge 158 65 gq6 rfl rfl rfl c2 c4 (fun c => ?_) (fun c => ?_)
  · replace h := h.1 c
    refine g_aload_n 159 gq6 rfl rfl rfl ?_
    refine g_getA 162 30 gq6 rfl rfl rfl rfl rfl rfl rfl ?_
    refine g_iload 164 gq6 rfl rfl rfl ?_
    have c11 := h.1
    replace h := h.2
    refine g_aald 165 (31 + 1 * Int.toNat _) gq6 rfl rfl (by decide) rfl c11 (by rw [Nat.one_mul]; rfl) ?_
    refine g_iload 167 gq6 rfl rfl rfl ?_
    have c15 := h.1
    replace h := h.2
    refine g_lald 168 gq6 rfl rfl (shXA c11) c15 ?_
    refine g_lstore_n 169 gq6 rfl rfl rfl ?_
    replace h := h _ rfl
    refine g_iinc 172 gq6 rfl rfl rfl rfl ?_
    refine g_goto 8 gq6 rfl rfl ?_
    exact kGo.weak (km_Le.s (km_Le.s (km_Le.s (km_Le.n (km_Le.s (km_Le.n (km_Le.s (km_Le.n (km_Le.n (km_Le.n (km_Le.n (km_Le.n km_Le.nil)))))))))))) h
  · replace h := h.2 c
    refine g_iload 67 gq6 rfl rfl rfl ?_
    refine g_iconst 68 gq6 rfl rfl ?_
    refine g_iadd 69 gq6 rfl rfl ?_
    refine g_istore 71 gq6 rfl rfl rfl ?_
    exact kGo.weak (km_Le.s (km_Le.s (km_Le.s (km_Le.n (km_Le.s (km_Le.n (km_Le.s (km_Le.n (km_Le.s (km_Le.s (km_Le.n (km_Le.n km_Le.nil)))))))))))) h
set_option maxRecDepth 10000 in
theorem c6_71 {xs : Nat → Int32} {Lx d : Nat} {V : km_V} {Q : Option Value → km_V → Prop} {x1 x2 x4 x6 x8 x9 : Int} 
    (h : (kR x9) ∧ (kR x1) ∧ ((x1 ≤ x9 →
    kGo xs Lx (d + 1) 6 59 [some (.ref 28), some (kI x1), some (kJ x2), none, some (kJ x4), none, some (kI x6), none, some (kI (x8 + 1)), none, none, none] [] V Q) ∧
   (x9 < x1 →
    (0 ≤ x8 ∧ x8 < (8 : Nat)) ∧ (0 ≤ x9 ∧ x9 < (12 : Nat)) ∧ (0 ≤ x6 ∧ x6 < (8 : Nat)) ∧ (0 ≤ x6 ∧ x6 < (12 : Nat)) ∧ (∀ z1 : Int, z1 = (w64 ((w64 ((V (31 + 1 * Int.toNat x8) (Int.toNat x9)) * (V (31 + 1 * Int.toNat x6) (Int.toNat x6)))) - (w64 ((V (31 + 1 * Int.toNat x8) (Int.toNat x6)) * (V (31 + 1 * Int.toNat x6) (Int.toNat x9)))))) → (kR64 x2) ∧ (kR (kcmp x2 0)) ∧ (((kcmp x2 0) ≠ 0 →
      (kR64 z1) ∧ (kR64 x2 ∧ x2 ≠ 0) ∧ kGo xs Lx (d + 1) 6 71 [some (.ref 28), some (kI x1), some (kJ x2), none, some (kJ x4), none, some (kI x6), none, some (kI x8), some (kI (x9 + 1)), none, none] [] (up V (31 + 1 * Int.toNat x8) (Int.toNat x9) (w64 (Int.tdiv z1 x2))) Q) ∧
     ((kcmp x2 0) = 0 →
      kGo xs Lx (d + 1) 6 71 [some (.ref 28), some (kI x1), some (kJ x2), none, some (kJ x4), none, some (kI x6), none, some (kI x8), some (kI (x9 + 1)), none, none] [] (up V (31 + 1 * Int.toNat x8) (Int.toNat x9) 0) Q)))))) :
    kGo xs Lx (d + 1) 6 71 [some (.ref 28), some (kI x1), some (kJ x2), none, some (kJ x4), none, some (kI x6), none, some (kI x8), some (kI x9), none, none] [] V Q := by
  refine g_iload 73 gq6 rfl rfl rfl ?_
  refine g_iload_n 74 gq6 rfl rfl rfl ?_
  have c2 := h.1
  replace h := h.2
  have c4 := h.1
  replace h := h.2
  refine g_icmp_ge 152 77 gq6 rfl rfl rfl c2 c4 (fun c => ?_) (fun c => ?_)
  · replace h := h.1 c
    refine g_iinc 155 gq6 rfl rfl rfl rfl ?_
    refine g_goto 59 gq6 rfl rfl ?_
    exact kGo.weak (km_Le.s (km_Le.s (km_Le.s (km_Le.n (km_Le.s (km_Le.n (km_Le.s (km_Le.n (km_Le.s (km_Le.n (km_Le.n (km_Le.n km_Le.nil)))))))))))) h
  · replace h := h.2 c
    refine g_aload_n 78 gq6 rfl rfl rfl ?_
    refine g_getA 81 30 gq6 rfl rfl rfl rfl rfl rfl rfl ?_
    refine g_iload 83 gq6 rfl rfl rfl ?_
    have c15 := h.1
    replace h := h.2
    refine g_aald 84 (31 + 1 * Int.toNat _) gq6 rfl rfl (by decide) rfl c15 (by rw [Nat.one_mul]; rfl) ?_
    refine g_iload 86 gq6 rfl rfl rfl ?_
    have c19 := h.1
    replace h := h.2
    refine g_lald 87 gq6 rfl rfl (shXA c15) c19 ?_
    refine g_aload_n 88 gq6 rfl rfl rfl ?_
    refine g_getA 91 30 gq6 rfl rfl rfl rfl rfl rfl rfl ?_
    refine g_iload 93 gq6 rfl rfl rfl ?_
    have c25 := h.1
    replace h := h.2
    refine g_aald 94 (31 + 1 * Int.toNat _) gq6 rfl rfl (by decide) rfl c25 (by rw [Nat.one_mul]; rfl) ?_
    refine g_iload 96 gq6 rfl rfl rfl ?_
    have c29 := h.1
    replace h := h.2
    refine g_lald 97 gq6 rfl rfl (shXA c25) c29 ?_
    refine g_lmul 98 gq6 rfl rfl ?_
    refine g_wrapJ ?_
    refine g_aload_n 99 gq6 rfl rfl rfl ?_
    refine g_getA 102 30 gq6 rfl rfl rfl rfl rfl rfl rfl ?_
    refine g_iload 104 gq6 rfl rfl rfl ?_
    refine g_aald 105 (31 + 1 * Int.toNat _) gq6 rfl rfl (by decide) rfl c15 (by rw [Nat.one_mul]; rfl) ?_
    refine g_iload 107 gq6 rfl rfl rfl ?_
    refine g_lald 108 gq6 rfl rfl (shXA c15) c29 ?_
    refine g_aload_n 109 gq6 rfl rfl rfl ?_
    refine g_getA 112 30 gq6 rfl rfl rfl rfl rfl rfl rfl ?_
    refine g_iload 114 gq6 rfl rfl rfl ?_
    refine g_aald 115 (31 + 1 * Int.toNat _) gq6 rfl rfl (by decide) rfl c25 (by rw [Nat.one_mul]; rfl) ?_
    refine g_iload 117 gq6 rfl rfl rfl ?_
    refine g_lald 118 gq6 rfl rfl (shXA c25) c19 ?_
    refine g_lmul 119 gq6 rfl rfl ?_
    refine g_wrapJ ?_
    refine g_lsub 120 gq6 rfl rfl ?_
    refine g_wrapJ ?_
    refine g_lstore 122 gq6 rfl rfl rfl ?_
    replace h := h _ rfl
    refine g_aload_n 123 gq6 rfl rfl rfl ?_
    refine g_getA 126 30 gq6 rfl rfl rfl rfl rfl rfl rfl ?_
    refine g_iload 128 gq6 rfl rfl rfl ?_
    refine g_aald 129 (31 + 1 * Int.toNat _) gq6 rfl rfl (by decide) rfl c15 (by rw [Nat.one_mul]; rfl) ?_
    refine g_iload 131 gq6 rfl rfl rfl ?_
    refine g_lload_n 132 gq6 rfl rfl rfl ?_
    refine g_lconst 133 0 gq6 rfl rfl rfl ?_
    have c59 := h.1
    replace h := h.2
    refine g_lcmp 134 gq6 rfl rfl c59 (by omega) ?_
    have c62 := h.1
    replace h := h.2
    refine g_if_ne 141 137 gq6 rfl rfl rfl c62 (fun c => ?_) (fun c => ?_)
    · replace h := h.1 c
      refine g_lload 143 gq6 rfl rfl rfl ?_
      refine g_lload_n 144 gq6 rfl rfl rfl ?_
      have c68 := h.1
      replace h := h.2
      have c70 := h.1
      replace h := h.2
      refine g_ldivT 145 gq6 rfl rfl c68 c70 ?_
      refine g_wrapJ ?_
      refine g_last 146 gq6 rfl rfl (shXA c15) c19 ?_
      refine g_iinc 149 gq6 rfl rfl rfl rfl ?_
      refine g_goto 71 gq6 rfl rfl ?_
      exact kGo.weak (km_Le.s (km_Le.s (km_Le.s (km_Le.n (km_Le.s (km_Le.n (km_Le.s (km_Le.n (km_Le.s (km_Le.s (km_Le.n (km_Le.n km_Le.nil)))))))))))) h
    · replace h := h.2 c
      refine g_lconst 138 0 gq6 rfl rfl rfl ?_
      refine g_goto 145 gq6 rfl rfl ?_
      refine g_last 146 gq6 rfl rfl (shXA c15) c19 ?_
      refine g_iinc 149 gq6 rfl rfl rfl rfl ?_
      refine g_goto 71 gq6 rfl rfl ?_
      exact kGo.weak (km_Le.s (km_Le.s (km_Le.s (km_Le.n (km_Le.s (km_Le.n (km_Le.s (km_Le.n (km_Le.s (km_Le.s (km_Le.n (km_Le.n km_Le.nil)))))))))))) h
set_option maxRecDepth 10000 in
theorem c4_0 {xs : Nat → Int32} {Lx d : Nat} {V : km_V} {Q : Option Value → km_V → Prop} {r1 : Nat} (hr1 : km_sh[r1]? = some (5, 5)) {r2 : Nat} (hr2 : km_sh[r2]? = some (2, 11))
    (h : kGo xs Lx (d + 0) 4 2 [some (.ref 28), some (.ref r1), some (.ref r2), some (kI 0), none] [] V Q) :
    kGo xs Lx (d + 0) 4 0 [some (.ref 28), some (.ref r1), some (.ref r2), none, none] [] V Q := by
  refine g_iconst 1 gq4 rfl rfl ?_
  refine g_istore_n 2 gq4 rfl rfl rfl ?_
  exact kGo.weak (km_Le.s (km_Le.s (km_Le.s (km_Le.s (km_Le.n km_Le.nil))))) h
set_option maxRecDepth 10000 in
theorem c4_2 {xs : Nat → Int32} {Lx d : Nat} {V : km_V} {Q : Option Value → km_V → Prop} {x3 : Int} {q1 : Nat} (hq1 : km_sh[q1]? = some (5, 5)) {q2 : Nat} (hq2 : km_sh[q2]? = some (2, 11))
    (h : (kR x3) ∧ (kR (V q1 1)) ∧ (((V q1 1) ≤ x3 →
    Q none V) ∧
   (x3 < (V q1 1) →
    kGo xs Lx (d + 0) 4 13 [some (.ref 28), some (.ref q1), some (.ref q2), some (kI x3), some (kI 0)] [] V Q))) :
    kGo xs Lx (d + 0) 4 2 [some (.ref 28), some (.ref q1), some (.ref q2), some (kI x3), none] [] V Q := by
  refine g_iload_n 3 gq4 rfl rfl rfl ?_
  refine g_aload_n 4 gq4 rfl rfl rfl ?_
  refine g_getI 7 gq4 rfl rfl rfl hq1 rfl rfl ?_
  have c3 := h.1
  replace h := h.2
  have c5 := h.1
  replace h := h.2
  refine g_icmp_ge 115 10 gq4 rfl rfl rfl c3 c5 (fun c => ?_) (fun c => ?_)
  · replace h := h.1 c
    exact g_vret gq4 rfl rfl h
  · replace h := h.2 c
    refine g_iconst 11 gq4 rfl rfl ?_
    refine g_istore 13 gq4 rfl rfl rfl ?_
    exact kGo.weak (km_Le.s (km_Le.s (km_Le.s (km_Le.s (km_Le.s km_Le.nil))))) h
set_option maxRecDepth 10000 in
theorem c4_13 {xs : Nat → Int32} {Lx d : Nat} {V : km_V} {Q : Option Value → km_V → Prop} {x3 x4 : Int} {q1 : Nat} (hq1 : km_sh[q1]? = some (5, 5)) {q2 : Nat} (hq2 : km_sh[q2]? = some (2, 11))
    (h : (kR x4) ∧ ((12 ≤ x4 →
    (0 ≤ x3 ∧ x3 < (8 : Nat)) ∧ (∀ z1 : Int, z1 = (V (q2 + 5) (Int.toNat x3)) → kGo xs Lx (d + 0) 4 44 [some (.ref 28), some (.ref q1), some (.ref q2), some (kI x3), some (kI z1)] [] V Q)) ∧
   (x4 < 12 →
    (0 ≤ x3 ∧ x3 < (8 : Nat)) ∧ (0 ≤ x4 ∧ x4 < (12 : Nat)) ∧ kGo xs Lx (d + 0) 4 13 [some (.ref 28), some (.ref q1), some (.ref q2), some (kI x3), some (kI (x4 + 1))] [] (up V (31 + 1 * Int.toNat x3) (Int.toNat x4) 0) Q))) :
    kGo xs Lx (d + 0) 4 13 [some (.ref 28), some (.ref q1), some (.ref q2), some (kI x3), some (kI x4)] [] V Q := by
  refine g_iload 15 gq4 rfl rfl rfl ?_
  refine g_bipush 17 gq4 rfl rfl rfl ?_
  have c2 := h.1
  replace h := h.2
  refine g_icmp_ge 36 20 gq4 rfl rfl rfl c2 (by omega) (fun c => ?_) (fun c => ?_)
  · replace h := h.1 c
    refine g_aload_n 37 gq4 rfl rfl rfl ?_
    refine g_getA 40 (q2 + 5) gq4 rfl rfl rfl hq2 rfl rfl (rfD4 hq2) ?_
    refine g_iload_n 41 gq4 rfl rfl rfl ?_
    have c9 := h.1
    replace h := h.2
    refine g_iald 42 gq4 rfl rfl (shD4 hq2) c9 ?_
    refine g_istore 44 gq4 rfl rfl rfl ?_
    replace h := h _ rfl
    exact kGo.weak (km_Le.s (km_Le.s (km_Le.s (km_Le.s (km_Le.s km_Le.nil))))) h
  · replace h := h.2 c
    refine g_aload_n 21 gq4 rfl rfl rfl ?_
    refine g_getA 24 30 gq4 rfl rfl rfl rfl rfl rfl rfl ?_
    refine g_iload_n 25 gq4 rfl rfl rfl ?_
    have c19 := h.1
    replace h := h.2
    refine g_aald 26 (31 + 1 * Int.toNat _) gq4 rfl rfl (by decide) rfl c19 (by rw [Nat.one_mul]; rfl) ?_
    refine g_iload 28 gq4 rfl rfl rfl ?_
    refine g_lconst 29 0 gq4 rfl rfl rfl ?_
    have c24 := h.1
    replace h := h.2
    refine g_last 30 gq4 rfl rfl (shXA c19) c24 ?_
    refine g_iinc 33 gq4 rfl rfl rfl rfl ?_
    refine g_goto 13 gq4 rfl rfl ?_
    exact kGo.weak (km_Le.s (km_Le.s (km_Le.s (km_Le.s (km_Le.s km_Le.nil))))) h
set_option maxRecDepth 10000 in
theorem c4_44 {xs : Nat → Int32} {Lx d : Nat} {V : km_V} {Q : Option Value → km_V → Prop} {x3 x4 : Int} {q1 : Nat} (hq1 : km_sh[q1]? = some (5, 5)) {q2 : Nat} (hq2 : km_sh[q2]? = some (2, 11))
    (h : (0 ≤ x3 ∧ x3 < (8 : Nat)) ∧ (0 ≤ (V (q2 + 4) (Int.toNat x3)) ∧ (V (q2 + 4) (Int.toNat x3)) < (16 : Nat)) ∧ (0 ≤ (V 29 (Int.toNat (V (q2 + 4) (Int.toNat x3)))) ∧ (V 29 (Int.toNat (V (q2 + 4) (Int.toNat x3)))) < (12 : Nat)) ∧ kGo xs Lx (d + 0) 4 68 [some (.ref 28), some (.ref q1), some (.ref q2), some (kI x3), some (kI x4)] [] (up V (31 + 1 * Int.toNat x3) (Int.toNat (V 29 (Int.toNat (V (q2 + 4) (Int.toNat x3))))) ((V (31 + 1 * Int.toNat x3) (Int.toNat (V 29 (Int.toNat (V (q2 + 4) (Int.toNat x3)))))) + 2)) Q) :
    kGo xs Lx (d + 0) 4 44 [some (.ref 28), some (.ref q1), some (.ref q2), some (kI x3), some (kI x4)] [] V Q := by
  refine g_aload_n 45 gq4 rfl rfl rfl ?_
  refine g_getA 48 30 gq4 rfl rfl rfl rfl rfl rfl rfl ?_
  refine g_iload_n 49 gq4 rfl rfl rfl ?_
  have c3 := h.1
  replace h := h.2
  refine g_aald 50 (31 + 1 * Int.toNat _) gq4 rfl rfl (by decide) rfl c3 (by rw [Nat.one_mul]; rfl) ?_
  refine g_aload_n 51 gq4 rfl rfl rfl ?_
  refine g_getA 54 29 gq4 rfl rfl rfl rfl rfl rfl rfl ?_
  refine g_aload_n 55 gq4 rfl rfl rfl ?_
  refine g_getA 58 (q2 + 4) gq4 rfl rfl rfl hq2 rfl rfl (rfD3 hq2) ?_
  refine g_iload_n 59 gq4 rfl rfl rfl ?_
  refine g_iald 60 gq4 rfl rfl (shD3 hq2) c3 ?_
  have c12 := h.1
  replace h := h.2
  refine g_iald 61 gq4 rfl rfl rfl c12 ?_
  refine g_dup2 62 gq4 rfl rfl rfl rfl ?_
  have c16 := h.1
  replace h := h.2
  refine g_lald 63 gq4 rfl rfl (shXA c3) c16 ?_
  refine g_ldc2 66 (2) gq4 rfl rfl rfl rfl ?_
  refine g_ladd 67 gq4 rfl rfl ?_
  refine g_last 68 gq4 rfl rfl (shXA c3) c16 ?_
  exact kGo.weak (km_Le.s (km_Le.s (km_Le.s (km_Le.s (km_Le.s km_Le.nil))))) h
set_option maxRecDepth 10000 in
theorem c4_68 {xs : Nat → Int32} {Lx d : Nat} {V : km_V} {Q : Option Value → km_V → Prop} {x3 x4 : Int} {q1 : Nat} (hq1 : km_sh[q1]? = some (5, 5)) {q2 : Nat} (hq2 : km_sh[q2]? = some (2, 11))
    (h : (0 ≤ x3 ∧ x3 < (8 : Nat)) ∧ (0 ≤ x4 ∧ x4 < (16 : Nat)) ∧ (0 ≤ (V 29 (Int.toNat x4)) ∧ (V 29 (Int.toNat x4)) < (12 : Nat)) ∧ kGo xs Lx (d + 0) 4 86 [some (.ref 28), some (.ref q1), some (.ref q2), some (kI x3), some (kI x4)] [] (up V (31 + 1 * Int.toNat x3) (Int.toNat (V 29 (Int.toNat x4))) ((V (31 + 1 * Int.toNat x3) (Int.toNat (V 29 (Int.toNat x4)))) - 1)) Q) :
    kGo xs Lx (d + 0) 4 68 [some (.ref 28), some (.ref q1), some (.ref q2), some (kI x3), some (kI x4)] [] V Q := by
  refine g_aload_n 69 gq4 rfl rfl rfl ?_
  refine g_getA 72 30 gq4 rfl rfl rfl rfl rfl rfl rfl ?_
  refine g_iload_n 73 gq4 rfl rfl rfl ?_
  have c3 := h.1
  replace h := h.2
  refine g_aald 74 (31 + 1 * Int.toNat _) gq4 rfl rfl (by decide) rfl c3 (by rw [Nat.one_mul]; rfl) ?_
  refine g_aload_n 75 gq4 rfl rfl rfl ?_
  refine g_getA 78 29 gq4 rfl rfl rfl rfl rfl rfl rfl ?_
  refine g_iload 80 gq4 rfl rfl rfl ?_
  have c9 := h.1
  replace h := h.2
  refine g_iald 81 gq4 rfl rfl rfl c9 ?_
  refine g_dup2 82 gq4 rfl rfl rfl rfl ?_
  have c13 := h.1
  replace h := h.2
  refine g_lald 83 gq4 rfl rfl (shXA c3) c13 ?_
  refine g_lconst 84 1 gq4 rfl rfl rfl ?_
  refine g_lsub 85 gq4 rfl rfl ?_
  refine g_last 86 gq4 rfl rfl (shXA c3) c13 ?_
  exact kGo.weak (km_Le.s (km_Le.s (km_Le.s (km_Le.s (km_Le.s km_Le.nil))))) h
set_option maxRecDepth 10000 in
theorem c4_86 {xs : Nat → Int32} {Lx d : Nat} {V : km_V} {Q : Option Value → km_V → Prop} {x3 x4 : Int} {q1 : Nat} (hq1 : km_sh[q1]? = some (5, 5)) {q2 : Nat} (hq2 : km_sh[q2]? = some (2, 11))
    (h : (0 ≤ x3 ∧ x3 < (8 : Nat)) ∧ (0 ≤ x4 ∧ x4 < (16 : Nat)) ∧ (0 ≤ (V (q2 + 2) (Int.toNat x4)) ∧ (V (q2 + 2) (Int.toNat x4)) < (16 : Nat)) ∧ (0 ≤ (V 29 (Int.toNat (V (q2 + 2) (Int.toNat x4)))) ∧ (V 29 (Int.toNat (V (q2 + 2) (Int.toNat x4)))) < (12 : Nat)) ∧ kGo xs Lx (d + 0) 4 2 [some (.ref 28), some (.ref q1), some (.ref q2), some (kI (x3 + 1)), none] [] (up V (31 + 1 * Int.toNat x3) (Int.toNat (V 29 (Int.toNat (V (q2 + 2) (Int.toNat x4))))) ((V (31 + 1 * Int.toNat x3) (Int.toNat (V 29 (Int.toNat (V (q2 + 2) (Int.toNat x4)))))) - 1)) Q) :
    kGo xs Lx (d + 0) 4 86 [some (.ref 28), some (.ref q1), some (.ref q2), some (kI x3), some (kI x4)] [] V Q := by
  refine g_aload_n 87 gq4 rfl rfl rfl ?_
  refine g_getA 90 30 gq4 rfl rfl rfl rfl rfl rfl rfl ?_
  refine g_iload_n 91 gq4 rfl rfl rfl ?_
  have c3 := h.1
  replace h := h.2
  refine g_aald 92 (31 + 1 * Int.toNat _) gq4 rfl rfl (by decide) rfl c3 (by rw [Nat.one_mul]; rfl) ?_
  refine g_aload_n 93 gq4 rfl rfl rfl ?_
  refine g_getA 96 29 gq4 rfl rfl rfl rfl rfl rfl rfl ?_
  refine g_aload_n 97 gq4 rfl rfl rfl ?_
  refine g_getA 100 (q2 + 2) gq4 rfl rfl rfl hq2 rfl rfl (rfD1 hq2) ?_
  refine g_iload 102 gq4 rfl rfl rfl ?_
  have c11 := h.1
  replace h := h.2
  refine g_iald 103 gq4 rfl rfl (shD1 hq2) c11 ?_
  have c14 := h.1
  replace h := h.2
  refine g_iald 104 gq4 rfl rfl rfl c14 ?_
  refine g_dup2 105 gq4 rfl rfl rfl rfl ?_
  have c18 := h.1
  replace h := h.2
  refine g_lald 106 gq4 rfl rfl (shXA c3) c18 ?_
  refine g_lconst 107 1 gq4 rfl rfl rfl ?_
  refine g_lsub 108 gq4 rfl rfl ?_
  refine g_last 109 gq4 rfl rfl (shXA c3) c18 ?_
  refine g_iinc 112 gq4 rfl rfl rfl rfl ?_
  refine g_goto 2 gq4 rfl rfl ?_
  exact kGo.weak (km_Le.s (km_Le.s (km_Le.s (km_Le.s (km_Le.n km_Le.nil))))) h
set_option maxRecDepth 10000 in
theorem c204_0 {xs : Nat → Int32} {Lx d : Nat} {V : km_V} {Q : Option Value → km_V → Prop} 
    (h : kCI xs Lx (d + 2) 203 6 [.ref 299, .ref 307] V (fun y1 W1 =>
  kGo xs Lx (d + 3) 204 11 [some (.ref 299), some (kI y1), some (kI 0), none] [] W1 Q)) :
    kGo xs Lx (d + 3) 204 0 [some (.ref 299), none, none, none] [] V Q := by
  refine g_aload_n 1 gq204 rfl rfl rfl ?_
  refine g_aload_n 2 gq204 rfl rfl rfl ?_
  refine g_getA 5 307 gq204 rfl rfl rfl rfl rfl rfl rfl ?_
  refine g_virt 203 _ (i := 328) gq204 rfl rfl gq203 rfl rfl rfl rfl rfl rfl ?_
  refine kGo.mono h (fun r W1 hr => ?_)
  obtain ⟨y1, rfl, h⟩ := hr
  refine g_istore_n 9 gq204 rfl rfl rfl ?_
  refine g_iconst 10 gq204 rfl rfl ?_
  refine g_istore_n 11 gq204 rfl rfl rfl ?_
  exact kGo.weak (km_Le.s (km_Le.s (km_Le.s (km_Le.n km_Le.nil)))) h
set_option maxRecDepth 10000 in
theorem c204_11 {xs : Nat → Int32} {Lx d : Nat} {V : km_V} {Q : Option Value → km_V → Prop} {x1 x2 : Int} 
    (h : (kR x2) ∧ ((96 ≤ x2 →
    kGo xs Lx (d + 3) 204 32 [some (.ref 299), some (kI x1), some (kI 0), none] [] V Q) ∧
   (x2 < 96 →
    (0 ≤ x2 ∧ x2 < (96 : Nat)) ∧ kGo xs Lx (d + 3) 204 11 [some (.ref 299), some (kI x1), some (kI (x2 + 1)), none] [] (up V 332 (Int.toNat x2) 0) Q))) :
    kGo xs Lx (d + 3) 204 11 [some (.ref 299), some (kI x1), some (kI x2), none] [] V Q := by
  refine g_iload_n 12 gq204 rfl rfl rfl ?_
  refine g_bipush 14 gq204 rfl rfl rfl ?_
  have c2 := h.1
  replace h := h.2
  refine g_icmp_ge 30 17 gq204 rfl rfl rfl c2 (by omega) (fun c => ?_) (fun c => ?_)
  · replace h := h.1 c
    refine g_iconst 31 gq204 rfl rfl ?_
    refine g_istore_n 32 gq204 rfl rfl rfl ?_
    exact kGo.weak (km_Le.s (km_Le.s (km_Le.s (km_Le.n km_Le.nil)))) h
  · replace h := h.2 c
    refine g_aload_n 18 gq204 rfl rfl rfl ?_
    refine g_getA 21 332 gq204 rfl rfl rfl rfl rfl rfl rfl ?_
    refine g_iload_n 22 gq204 rfl rfl rfl ?_
    refine g_lconst 23 0 gq204 rfl rfl rfl ?_
    have c14 := h.1
    replace h := h.2
    refine g_last 24 gq204 rfl rfl rfl c14 ?_
    refine g_iinc 27 gq204 rfl rfl rfl rfl ?_
    refine g_goto 11 gq204 rfl rfl ?_
    exact kGo.weak (km_Le.s (km_Le.s (km_Le.s (km_Le.n km_Le.nil)))) h
set_option maxRecDepth 10000 in
theorem c204_32 {xs : Nat → Int32} {Lx d : Nat} {V : km_V} {Q : Option Value → km_V → Prop} {x1 x2 : Int} 
    (h : (kR x2) ∧ (kR (V 307 (Int.toNat 1))) ∧ (((V 307 (Int.toNat 1)) ≤ x2 →
    Q (some (kI x1)) V) ∧
   (x2 < (V 307 (Int.toNat 1)) →
    kCI xs Lx (d + 2) 190 4 [.ref 299, kI x2, kI 0] V (fun y1 W1 =>
    kGo xs Lx (d + 3) 204 49 [some (.ref 299), some (kI x1), some (kI x2), some (kI y1)] [] W1 Q)))) :
    kGo xs Lx (d + 3) 204 32 [some (.ref 299), some (kI x1), some (kI x2), none] [] V Q := by
  refine g_iload_n 33 gq204 rfl rfl rfl ?_
  refine g_aload_n 34 gq204 rfl rfl rfl ?_
  refine g_getA 37 307 gq204 rfl rfl rfl rfl rfl rfl rfl ?_
  refine g_iconst 38 gq204 rfl rfl ?_
  refine g_iald 39 gq204 rfl rfl rfl (by omega) ?_
  have c5 := h.1
  replace h := h.2
  have c7 := h.1
  replace h := h.2
  refine g_icmp_ge 127 42 gq204 rfl rfl rfl c5 c7 (fun c => ?_) (fun c => ?_)
  · replace h := h.1 c
    refine g_iload_n 128 gq204 rfl rfl rfl ?_
    exact g_iret gq204 rfl rfl h
  · replace h := h.2 c
    refine g_aload_n 43 gq204 rfl rfl rfl ?_
    refine g_iload_n 44 gq204 rfl rfl rfl ?_
    refine g_iconst 45 gq204 rfl rfl ?_
    refine g_virt 190 _ (i := 331) gq204 rfl rfl gq190 rfl rfl rfl rfl rfl rfl ?_
    refine kGo.mono h (fun r W1 hr => ?_)
    obtain ⟨y1, rfl, h⟩ := hr
    refine g_istore_n 49 gq204 rfl rfl rfl ?_
    exact kGo.weak (km_Le.s (km_Le.s (km_Le.s (km_Le.s km_Le.nil)))) h
set_option maxRecDepth 10000 in
theorem c204_49 {xs : Nat → Int32} {Lx d : Nat} {V : km_V} {Q : Option Value → km_V → Prop} {x1 x2 x3 : Int} 
    (h : kCI xs Lx (d + 2) 190 4 [.ref 299, kI x2, kI 1] V (fun y1 W1 =>
  (0 ≤ y1 ∧ y1 < (16 : Nat)) ∧ (0 ≤ ((12 * x2) + (W1 331 (Int.toNat y1))) ∧ ((12 * x2) + (W1 331 (Int.toNat y1))) < (96 : Nat)) ∧ kGo xs Lx (d + 3) 204 76 [some (.ref 299), some (kI x1), some (kI x2), some (kI x3)] [] (up W1 332 (Int.toNat ((12 * x2) + (W1 331 (Int.toNat y1)))) ((W1 332 (Int.toNat ((12 * x2) + (W1 331 (Int.toNat y1))))) + 2)) Q)) :
    kGo xs Lx (d + 3) 204 49 [some (.ref 299), some (kI x1), some (kI x2), some (kI x3)] [] V Q := by
  refine g_aload_n 50 gq204 rfl rfl rfl ?_
  refine g_getA 53 332 gq204 rfl rfl rfl rfl rfl rfl rfl ?_
  refine g_bipush 55 gq204 rfl rfl rfl ?_
  refine g_iload_n 56 gq204 rfl rfl rfl ?_
  refine g_imul 57 gq204 rfl rfl ?_
  refine g_aload_n 58 gq204 rfl rfl rfl ?_
  refine g_getA 61 331 gq204 rfl rfl rfl rfl rfl rfl rfl ?_
  refine g_aload_n 62 gq204 rfl rfl rfl ?_
  refine g_iload_n 63 gq204 rfl rfl rfl ?_
  refine g_iconst 64 gq204 rfl rfl ?_
  refine g_virt 190 _ (i := 331) gq204 rfl rfl gq190 rfl rfl rfl rfl rfl rfl ?_
  refine kGo.mono h (fun r W1 hr => ?_)
  obtain ⟨y1, rfl, h⟩ := hr
  have c13 := h.1
  replace h := h.2
  refine g_iald 68 gq204 rfl rfl rfl c13 ?_
  refine g_iadd 69 gq204 rfl rfl ?_
  refine g_dup2 70 gq204 rfl rfl rfl rfl ?_
  have c18 := h.1
  replace h := h.2
  refine g_lald 71 gq204 rfl rfl rfl c18 ?_
  refine g_ldc2 74 (2) gq204 rfl rfl rfl rfl ?_
  refine g_ladd 75 gq204 rfl rfl ?_
  refine g_last 76 gq204 rfl rfl rfl c18 ?_
  exact kGo.weak (km_Le.s (km_Le.s (km_Le.s (km_Le.s km_Le.nil)))) h
set_option maxRecDepth 10000 in
theorem c204_76 {xs : Nat → Int32} {Lx d : Nat} {V : km_V} {Q : Option Value → km_V → Prop} {x1 x2 x3 : Int} 
    (h : (0 ≤ x3 ∧ x3 < (16 : Nat)) ∧ (0 ≤ ((12 * x2) + (V 331 (Int.toNat x3))) ∧ ((12 * x2) + (V 331 (Int.toNat x3))) < (96 : Nat)) ∧ kGo xs Lx (d + 3) 204 96 [some (.ref 299), some (kI x1), some (kI x2), some (kI x3)] [] (up V 332 (Int.toNat ((12 * x2) + (V 331 (Int.toNat x3)))) ((V 332 (Int.toNat ((12 * x2) + (V 331 (Int.toNat x3))))) - 1)) Q) :
    kGo xs Lx (d + 3) 204 76 [some (.ref 299), some (kI x1), some (kI x2), some (kI x3)] [] V Q := by
  refine g_aload_n 77 gq204 rfl rfl rfl ?_
  refine g_getA 80 332 gq204 rfl rfl rfl rfl rfl rfl rfl ?_
  refine g_bipush 82 gq204 rfl rfl rfl ?_
  refine g_iload_n 83 gq204 rfl rfl rfl ?_
  refine g_imul 84 gq204 rfl rfl ?_
  refine g_aload_n 85 gq204 rfl rfl rfl ?_
  refine g_getA 88 331 gq204 rfl rfl rfl rfl rfl rfl rfl ?_
  refine g_iload_n 89 gq204 rfl rfl rfl ?_
  have c8 := h.1
  replace h := h.2
  refine g_iald 90 gq204 rfl rfl rfl c8 ?_
  refine g_iadd 91 gq204 rfl rfl ?_
  refine g_dup2 92 gq204 rfl rfl rfl rfl ?_
  have c13 := h.1
  replace h := h.2
  refine g_lald 93 gq204 rfl rfl rfl c13 ?_
  refine g_lconst 94 1 gq204 rfl rfl rfl ?_
  refine g_lsub 95 gq204 rfl rfl ?_
  refine g_last 96 gq204 rfl rfl rfl c13 ?_
  exact kGo.weak (km_Le.s (km_Le.s (km_Le.s (km_Le.s km_Le.nil)))) h
set_option maxRecDepth 10000 in
theorem c204_96 {xs : Nat → Int32} {Lx d : Nat} {V : km_V} {Q : Option Value → km_V → Prop} {x1 x2 x3 : Int} 
    (h : (0 ≤ x3 ∧ x3 < (16 : Nat)) ∧ (0 ≤ (V 316 (Int.toNat x3)) ∧ (V 316 (Int.toNat x3)) < (16 : Nat)) ∧ (0 ≤ ((12 * x2) + (V 331 (Int.toNat (V 316 (Int.toNat x3))))) ∧ ((12 * x2) + (V 331 (Int.toNat (V 316 (Int.toNat x3))))) < (96 : Nat)) ∧ kGo xs Lx (d + 3) 204 32 [some (.ref 299), some (kI x1), some (kI (x2 + 1)), none] [] (up V 332 (Int.toNat ((12 * x2) + (V 331 (Int.toNat (V 316 (Int.toNat x3)))))) ((V 332 (Int.toNat ((12 * x2) + (V 331 (Int.toNat (V 316 (Int.toNat x3))))))) - 1)) Q) :
    kGo xs Lx (d + 3) 204 96 [some (.ref 299), some (kI x1), some (kI x2), some (kI x3)] [] V Q := by
  refine g_aload_n 97 gq204 rfl rfl rfl ?_
  refine g_getA 100 332 gq204 rfl rfl rfl rfl rfl rfl rfl ?_
  refine g_bipush 102 gq204 rfl rfl rfl ?_
  refine g_iload_n 103 gq204 rfl rfl rfl ?_
  refine g_imul 104 gq204 rfl rfl ?_
  refine g_aload_n 105 gq204 rfl rfl rfl ?_
  refine g_getA 108 331 gq204 rfl rfl rfl rfl rfl rfl rfl ?_
  refine g_aload_n 109 gq204 rfl rfl rfl ?_
  refine g_getA 112 316 gq204 rfl rfl rfl rfl rfl rfl rfl ?_
  refine g_iload_n 113 gq204 rfl rfl rfl ?_
  have c10 := h.1
  replace h := h.2
  refine g_iald 114 gq204 rfl rfl rfl c10 ?_
  have c13 := h.1
  replace h := h.2
  refine g_iald 115 gq204 rfl rfl rfl c13 ?_
  refine g_iadd 116 gq204 rfl rfl ?_
  refine g_dup2 117 gq204 rfl rfl rfl rfl ?_
  have c18 := h.1
  replace h := h.2
  refine g_lald 118 gq204 rfl rfl rfl c18 ?_
  refine g_lconst 119 1 gq204 rfl rfl rfl ?_
  refine g_lsub 120 gq204 rfl rfl ?_
  refine g_last 121 gq204 rfl rfl rfl c18 ?_
  refine g_iinc 124 gq204 rfl rfl rfl rfl ?_
  refine g_goto 32 gq204 rfl rfl ?_
  exact kGo.weak (km_Le.s (km_Le.s (km_Le.s (km_Le.n km_Le.nil)))) h
set_option maxRecDepth 10000 in
theorem c209_0 {xs : Nat → Int32} {Lx d : Nat} {V : km_V} {Q : Option Value → km_V → Prop} 
    (h : (kR (V 307 (Int.toNat 0))) ∧ (((V 307 (Int.toNat 0)) ≠ 0 →
    (∀ z1 : Int, z1 = (V 307 (Int.toNat 1)) → (kR z1) ∧ ((z1 ≠ 0 →
      kCI xs Lx (d + 3) 204 4 [.ref 299] V (fun y2 W2 =>
      (kR y2) ∧ ((y2 ≤ z1 →
        kGo xs Lx (d + 4) 209 53 [some (.ref 299), some (kI z1), some (kJ 1), none, some (kI 0), none, none, none] [] W2 Q) ∧
       (z1 < y2 →
        Q (some (kJ 0)) W2)))) ∧
     (z1 = 0 →
      (((V 307 (Int.toNat 0)) ≠ 1 →
        Q (some (kJ 0)) V) ∧
       ((V 307 (Int.toNat 0)) = 1 →
        Q (some (kJ 1)) V)))))) ∧
   ((V 307 (Int.toNat 0)) = 0 →
    Q (some (kJ 0)) V))) :
    kGo xs Lx (d + 4) 209 0 [some (.ref 299), none, none, none, none, none, none, none] [] V Q := by
  refine g_aload_n 1 gq209 rfl rfl rfl ?_
  refine g_getA 4 307 gq209 rfl rfl rfl rfl rfl rfl rfl ?_
  refine g_iconst 5 gq209 rfl rfl ?_
  refine g_iald 6 gq209 rfl rfl rfl (by omega) ?_
  have c4 := h.1
  replace h := h.2
  refine g_if_ne 11 9 gq209 rfl rfl rfl c4 (fun c => ?_) (fun c => ?_)
  · replace h := h.1 c
    refine g_aload_n 12 gq209 rfl rfl rfl ?_
    refine g_getA 15 307 gq209 rfl rfl rfl rfl rfl rfl rfl ?_
    refine g_iconst 16 gq209 rfl rfl ?_
    refine g_iald 17 gq209 rfl rfl rfl (by omega) ?_
    refine g_istore_n 18 gq209 rfl rfl rfl ?_
    replace h := h _ rfl
    refine g_iload_n 19 gq209 rfl rfl rfl ?_
    have c15 := h.1
    replace h := h.2
    refine g_if_ne 38 22 gq209 rfl rfl rfl c15 (fun c => ?_) (fun c => ?_)
    · replace h := h.1 c
      refine g_aload_n 39 gq209 rfl rfl rfl ?_
      refine g_virt 204 _ (i := 359) gq209 rfl rfl gq204 rfl rfl rfl rfl rfl rfl ?_
      refine kGo.mono h (fun r W2 hr => ?_)
      obtain ⟨y2, rfl, h⟩ := hr
      refine g_iload_n 43 gq209 rfl rfl rfl ?_
      have c24 := h.1
      replace h := h.2
      refine g_icmp_le 48 46 gq209 rfl rfl rfl c24 c15 (fun c => ?_) (fun c => ?_)
      · replace h := h.1 c
        refine g_lconst 49 1 gq209 rfl rfl rfl ?_
        refine g_lstore_n 50 gq209 rfl rfl rfl ?_
        refine g_iconst 51 gq209 rfl rfl ?_
        refine g_istore 53 gq209 rfl rfl rfl ?_
        exact kGo.weak (km_Le.s (km_Le.s (km_Le.s (km_Le.n (km_Le.s (km_Le.n (km_Le.n (km_Le.n km_Le.nil)))))))) h
      · replace h := h.2 c
        refine g_lconst 47 0 gq209 rfl rfl rfl ?_
        exact g_lret gq209 rfl rfl h
    · replace h := h.2 c
      refine g_aload_n 23 gq209 rfl rfl rfl ?_
      refine g_getA 26 307 gq209 rfl rfl rfl rfl rfl rfl rfl ?_
      refine g_iconst 27 gq209 rfl rfl ?_
      refine g_iald 28 gq209 rfl rfl rfl (by omega) ?_
      refine g_iconst 29 gq209 rfl rfl ?_
      refine g_icmp_ne 36 32 gq209 rfl rfl rfl c4 (by omega) (fun c => ?_) (fun c => ?_)
      · replace h := h.1 c
        refine g_lconst 37 0 gq209 rfl rfl rfl ?_
        exact g_lret gq209 rfl rfl h
      · replace h := h.2 c
        refine g_lconst 33 1 gq209 rfl rfl rfl ?_
        refine g_goto 37 gq209 rfl rfl ?_
        exact g_lret gq209 rfl rfl h
  · replace h := h.2 c
    refine g_lconst 10 0 gq209 rfl rfl rfl ?_
    exact g_lret gq209 rfl rfl h
set_option maxRecDepth 10000 in
theorem c209_53 {xs : Nat → Int32} {Lx d : Nat} {V : km_V} {Q : Option Value → km_V → Prop} {x1 x2 x4 : Int} 
    (h : (kR x4) ∧ (kR (x1 - 1)) ∧ (((x1 - 1) ≤ x4 →
    (kR64 x2) ∧ (kR (kcmp x2 0)) ∧ ((0 ≤ (kcmp x2 0) →
      Q (some (kJ x2)) V) ∧
     ((kcmp x2 0) < 0 →
      Q (some (kJ (w64 (-x2)))) V))) ∧
   (x4 < (x1 - 1) →
    kGo xs Lx (d + 4) 209 65 [some (.ref 299), some (kI x1), some (kJ x2), none, some (kI x4), some (kI x4), none, none] [] V Q))) :
    kGo xs Lx (d + 4) 209 53 [some (.ref 299), some (kI x1), some (kJ x2), none, some (kI x4), none, none, none] [] V Q := by
  refine g_iload 55 gq209 rfl rfl rfl ?_
  refine g_iload_n 56 gq209 rfl rfl rfl ?_
  refine g_iconst 57 gq209 rfl rfl ?_
  refine g_isub 58 gq209 rfl rfl ?_
  have c4 := h.1
  replace h := h.2
  have c6 := h.1
  replace h := h.2
  refine g_icmp_ge 243 61 gq209 rfl rfl rfl c4 c6 (fun c => ?_) (fun c => ?_)
  · replace h := h.1 c
    refine g_lload_n 244 gq209 rfl rfl rfl ?_
    refine g_lconst 245 0 gq209 rfl rfl rfl ?_
    have c12 := h.1
    replace h := h.2
    refine g_lcmp 246 gq209 rfl rfl c12 (by omega) ?_
    have c15 := h.1
    replace h := h.2
    refine g_if_ge 254 249 gq209 rfl rfl rfl c15 (fun c => ?_) (fun c => ?_)
    · replace h := h.1 c
      refine g_lload_n 255 gq209 rfl rfl rfl ?_
      exact g_lret gq209 rfl rfl h
    · replace h := h.2 c
      refine g_lload_n 250 gq209 rfl rfl rfl ?_
      refine g_lneg 251 gq209 rfl rfl ?_
      refine g_wrapJ ?_
      refine g_goto 255 gq209 rfl rfl ?_
      exact g_lret gq209 rfl rfl h
  · replace h := h.2 c
    refine g_iload 63 gq209 rfl rfl rfl ?_
    refine g_istore 65 gq209 rfl rfl rfl ?_
    exact kGo.weak (km_Le.s (km_Le.s (km_Le.s (km_Le.n (km_Le.s (km_Le.s (km_Le.n (km_Le.n km_Le.nil)))))))) h
set_option maxRecDepth 10000 in
theorem c209_65 {xs : Nat → Int32} {Lx d : Nat} {V : km_V} {Q : Option Value → km_V → Prop} {x1 x2 x4 x5 : Int} 
    (h : (kR x5) ∧ (kR (x1 - 1)) ∧ (((x1 - 1) ≤ x5 →
    ((x5 ≠ (x1 - 1) →
      kCV xs Lx (d + 3) 207 6 [.ref 299, kI x5, kI x4] V (fun W1 =>
      kGo xs Lx (d + 4) 209 121 [some (.ref 299), some (kI x1), some (kJ x2), none, some (kI x4), none, some (kI (x4 + 1)), none] [] W1 Q)) ∧
     (x5 = (x1 - 1) →
      Q (some (kJ 0)) V))) ∧
   (x5 < (x1 - 1) →
    (0 ≤ ((12 * x5) + x4) ∧ ((12 * x5) + x4) < (96 : Nat)) ∧ (kR64 (V 332 (Int.toNat ((12 * x5) + x4)))) ∧ (kR (kcmp (V 332 (Int.toNat ((12 * x5) + x4))) 0)) ∧ (((kcmp (V 332 (Int.toNat ((12 * x5) + x4))) 0) ≠ 0 →
      ((x5 ≠ (x1 - 1) →
        kCV xs Lx (d + 3) 207 6 [.ref 299, kI x5, kI x4] V (fun W2 =>
        kGo xs Lx (d + 4) 209 121 [some (.ref 299), some (kI x1), some (kJ x2), none, some (kI x4), none, some (kI (x4 + 1)), none] [] W2 Q)) ∧
       (x5 = (x1 - 1) →
        Q (some (kJ 0)) V))) ∧
     ((kcmp (V 332 (Int.toNat ((12 * x5) + x4))) 0) = 0 →
      kGo xs Lx (d + 4) 209 65 [some (.ref 299), some (kI x1), some (kJ x2), none, some (kI x4), some (kI (x5 + 1)), none, none] [] V Q))))) :
    kGo xs Lx (d + 4) 209 65 [some (.ref 299), some (kI x1), some (kJ x2), none, some (kI x4), some (kI x5), none, none] [] V Q := by
  refine g_iload 67 gq209 rfl rfl rfl ?_
  refine g_iload_n 68 gq209 rfl rfl rfl ?_
  refine g_iconst 69 gq209 rfl rfl ?_
  refine g_isub 70 gq209 rfl rfl ?_
  have c4 := h.1
  replace h := h.2
  have c6 := h.1
  replace h := h.2
  refine g_icmp_ge 97 73 gq209 rfl rfl rfl c4 c6 (fun c => ?_) (fun c => ?_)
  · replace h := h.1 c
    refine g_iload 99 gq209 rfl rfl rfl ?_
    refine g_iload_n 100 gq209 rfl rfl rfl ?_
    refine g_iconst 101 gq209 rfl rfl ?_
    refine g_isub 102 gq209 rfl rfl ?_
    refine g_icmp_ne 107 105 gq209 rfl rfl rfl c4 c6 (fun c => ?_) (fun c => ?_)
    · replace h := h.1 c
      refine g_aload_n 108 gq209 rfl rfl rfl ?_
      refine g_iload 110 gq209 rfl rfl rfl ?_
      refine g_iload 112 gq209 rfl rfl rfl ?_
      refine g_virt 207 _ (i := 366) gq209 rfl rfl gq207 rfl rfl rfl rfl rfl rfl ?_
      refine kGo.mono h (fun r W1 hr => ?_)
      obtain ⟨rfl, h⟩ := hr
      refine g_iload 117 gq209 rfl rfl rfl ?_
      refine g_iconst 118 gq209 rfl rfl ?_
      refine g_iadd 119 gq209 rfl rfl ?_
      refine g_istore 121 gq209 rfl rfl rfl ?_
      exact kGo.weak (km_Le.s (km_Le.s (km_Le.s (km_Le.n (km_Le.s (km_Le.n (km_Le.s (km_Le.n km_Le.nil)))))))) h
    · replace h := h.2 c
      refine g_lconst 106 0 gq209 rfl rfl rfl ?_
      exact g_lret gq209 rfl rfl h
  · replace h := h.2 c
    refine g_aload_n 74 gq209 rfl rfl rfl ?_
    refine g_getA 77 332 gq209 rfl rfl rfl rfl rfl rfl rfl ?_
    refine g_bipush 79 gq209 rfl rfl rfl ?_
    refine g_iload 81 gq209 rfl rfl rfl ?_
    refine g_imul 82 gq209 rfl rfl ?_
    refine g_iload 84 gq209 rfl rfl rfl ?_
    refine g_iadd 85 gq209 rfl rfl ?_
    have c38 := h.1
    replace h := h.2
    refine g_lald 86 gq209 rfl rfl rfl c38 ?_
    refine g_lconst 87 0 gq209 rfl rfl rfl ?_
    have c42 := h.1
    replace h := h.2
    refine g_lcmp 88 gq209 rfl rfl c42 (by omega) ?_
    have c45 := h.1
    replace h := h.2
    refine g_if_ne 97 91 gq209 rfl rfl rfl c45 (fun c => ?_) (fun c => ?_)
    · replace h := h.1 c
      refine g_iload 99 gq209 rfl rfl rfl ?_
      refine g_iload_n 100 gq209 rfl rfl rfl ?_
      refine g_iconst 101 gq209 rfl rfl ?_
      refine g_isub 102 gq209 rfl rfl ?_
      refine g_icmp_ne 107 105 gq209 rfl rfl rfl c4 c6 (fun c => ?_) (fun c => ?_)
      · replace h := h.1 c
        refine g_aload_n 108 gq209 rfl rfl rfl ?_
        refine g_iload 110 gq209 rfl rfl rfl ?_
        refine g_iload 112 gq209 rfl rfl rfl ?_
        refine g_virt 207 _ (i := 366) gq209 rfl rfl gq207 rfl rfl rfl rfl rfl rfl ?_
        refine kGo.mono h (fun r W2 hr => ?_)
        obtain ⟨rfl, h⟩ := hr
        refine g_iload 117 gq209 rfl rfl rfl ?_
        refine g_iconst 118 gq209 rfl rfl ?_
        refine g_iadd 119 gq209 rfl rfl ?_
        refine g_istore 121 gq209 rfl rfl rfl ?_
        exact kGo.weak (km_Le.s (km_Le.s (km_Le.s (km_Le.n (km_Le.s (km_Le.n (km_Le.s (km_Le.n km_Le.nil)))))))) h
      · replace h := h.2 c
        refine g_lconst 106 0 gq209 rfl rfl rfl ?_
        exact g_lret gq209 rfl rfl h
    · replace h := h.2 c
      refine g_iinc 94 gq209 rfl rfl rfl rfl ?_
      refine g_goto 65 gq209 rfl rfl ?_
      exact kGo.weak (km_Le.s (km_Le.s (km_Le.s (km_Le.n (km_Le.s (km_Le.s (km_Le.n (km_Le.n km_Le.nil)))))))) h
set_option maxRecDepth 10000 in
theorem c209_121 {xs : Nat → Int32} {Lx d : Nat} {V : km_V} {Q : Option Value → km_V → Prop} {x1 x2 x4 x6 : Int} 
    (h : (kR x6) ∧ (kR (x1 - 1)) ∧ (((x1 - 1) ≤ x6 →
    (0 ≤ ((12 * x4) + x4) ∧ ((12 * x4) + x4) < (96 : Nat)) ∧ (∀ z1 : Int, z1 = (V 332 (Int.toNat ((12 * x4) + x4))) → kGo xs Lx (d + 4) 209 53 [some (.ref 299), some (kI x1), some (kJ z1), none, some (kI (x4 + 1)), none, none, none] [] V Q)) ∧
   (x6 < (x1 - 1) →
    kGo xs Lx (d + 4) 209 134 [some (.ref 299), some (kI x1), some (kJ x2), none, some (kI x4), none, some (kI x6), some (kI (x1 - 2))] [] V Q))) :
    kGo xs Lx (d + 4) 209 121 [some (.ref 299), some (kI x1), some (kJ x2), none, some (kI x4), none, some (kI x6), none] [] V Q := by
  refine g_iload 123 gq209 rfl rfl rfl ?_
  refine g_iload_n 124 gq209 rfl rfl rfl ?_
  refine g_iconst 125 gq209 rfl rfl ?_
  refine g_isub 126 gq209 rfl rfl ?_
  have c4 := h.1
  replace h := h.2
  have c6 := h.1
  replace h := h.2
  refine g_icmp_ge 223 129 gq209 rfl rfl rfl c4 c6 (fun c => ?_) (fun c => ?_)
  · replace h := h.1 c
    refine g_aload_n 224 gq209 rfl rfl rfl ?_
    refine g_getA 227 332 gq209 rfl rfl rfl rfl rfl rfl rfl ?_
    refine g_bipush 229 gq209 rfl rfl rfl ?_
    refine g_iload 231 gq209 rfl rfl rfl ?_
    refine g_imul 232 gq209 rfl rfl ?_
    refine g_iload 234 gq209 rfl rfl rfl ?_
    refine g_iadd 235 gq209 rfl rfl ?_
    have c17 := h.1
    replace h := h.2
    refine g_lald 236 gq209 rfl rfl rfl c17 ?_
    refine g_lstore_n 237 gq209 rfl rfl rfl ?_
    replace h := h _ rfl
    refine g_iinc 240 gq209 rfl rfl rfl rfl ?_
    refine g_goto 53 gq209 rfl rfl ?_
    exact kGo.weak (km_Le.s (km_Le.s (km_Le.s (km_Le.n (km_Le.s (km_Le.n (km_Le.n (km_Le.n km_Le.nil)))))))) h
  · replace h := h.2 c
    refine g_iload_n 130 gq209 rfl rfl rfl ?_
    refine g_iconst 131 gq209 rfl rfl ?_
    refine g_isub 132 gq209 rfl rfl ?_
    refine g_istore 134 gq209 rfl rfl rfl ?_
    exact kGo.weak (km_Le.s (km_Le.s (km_Le.s (km_Le.n (km_Le.s (km_Le.n (km_Le.s (km_Le.s km_Le.nil)))))))) h
set_option maxRecDepth 10000 in
theorem c209_134 {xs : Nat → Int32} {Lx d : Nat} {V : km_V} {Q : Option Value → km_V → Prop} {x1 x2 x4 x6 x7 : Int} 
    (h : (kR x7) ∧ (kR x4) ∧ ((x7 ≤ x4 →
    kGo xs Lx (d + 4) 209 121 [some (.ref 299), some (kI x1), some (kJ x2), none, some (kI x4), none, some (kI (x6 + 1)), none] [] V Q) ∧
   (x4 < x7 →
    (0 ≤ ((12 * x6) + x7) ∧ ((12 * x6) + x7) < (96 : Nat)) ∧ (0 ≤ ((12 * x4) + x4) ∧ ((12 * x4) + x4) < (96 : Nat)) ∧ (0 ≤ ((12 * x6) + x4) ∧ ((12 * x6) + x4) < (96 : Nat)) ∧ (0 ≤ ((12 * x4) + x7) ∧ ((12 * x4) + x7) < (96 : Nat)) ∧ (kR64 (w64 ((w64 ((V 332 (Int.toNat ((12 * x6) + x7))) * (V 332 (Int.toNat ((12 * x4) + x4))))) - (w64 ((V 332 (Int.toNat ((12 * x6) + x4))) * (V 332 (Int.toNat ((12 * x4) + x7)))))))) ∧ (kR64 x2 ∧ x2 ≠ 0) ∧ kGo xs Lx (d + 4) 209 134 [some (.ref 299), some (kI x1), some (kJ x2), none, some (kI x4), none, some (kI x6), some (kI (x7 + (-1)))] [] (up V 332 (Int.toNat ((12 * x6) + x7)) (w64 (Int.tdiv (w64 ((w64 ((V 332 (Int.toNat ((12 * x6) + x7))) * (V 332 (Int.toNat ((12 * x4) + x4))))) - (w64 ((V 332 (Int.toNat ((12 * x6) + x4))) * (V 332 (Int.toNat ((12 * x4) + x7))))))) x2))) Q))) :
    kGo xs Lx (d + 4) 209 134 [some (.ref 299), some (kI x1), some (kJ x2), none, some (kI x4), none, some (kI x6), some (kI x7)] [] V Q := by
  refine g_iload 136 gq209 rfl rfl rfl ?_
  refine g_iload 138 gq209 rfl rfl rfl ?_
  have c2 := h.1
  replace h := h.2
  have c4 := h.1
  replace h := h.2
  refine g_icmp_le 217 141 gq209 rfl rfl rfl c2 c4 (fun c => ?_) (fun c => ?_)
  · replace h := h.1 c
    refine g_iinc 220 gq209 rfl rfl rfl rfl ?_
    refine g_goto 121 gq209 rfl rfl ?_
    exact kGo.weak (km_Le.s (km_Le.s (km_Le.s (km_Le.n (km_Le.s (km_Le.n (km_Le.s (km_Le.n km_Le.nil)))))))) h
  · replace h := h.2 c
    refine g_aload_n 142 gq209 rfl rfl rfl ?_
    refine g_getA 145 332 gq209 rfl rfl rfl rfl rfl rfl rfl ?_
    refine g_bipush 147 gq209 rfl rfl rfl ?_
    refine g_iload 149 gq209 rfl rfl rfl ?_
    refine g_imul 150 gq209 rfl rfl ?_
    refine g_iload 152 gq209 rfl rfl rfl ?_
    refine g_iadd 153 gq209 rfl rfl ?_
    refine g_aload_n 154 gq209 rfl rfl rfl ?_
    refine g_getA 157 332 gq209 rfl rfl rfl rfl rfl rfl rfl ?_
    refine g_bipush 159 gq209 rfl rfl rfl ?_
    refine g_iload 161 gq209 rfl rfl rfl ?_
    refine g_imul 162 gq209 rfl rfl ?_
    refine g_iload 164 gq209 rfl rfl rfl ?_
    refine g_iadd 165 gq209 rfl rfl ?_
    have c26 := h.1
    replace h := h.2
    refine g_lald 166 gq209 rfl rfl rfl c26 ?_
    refine g_aload_n 167 gq209 rfl rfl rfl ?_
    refine g_getA 170 332 gq209 rfl rfl rfl rfl rfl rfl rfl ?_
    refine g_bipush 172 gq209 rfl rfl rfl ?_
    refine g_iload 174 gq209 rfl rfl rfl ?_
    refine g_imul 175 gq209 rfl rfl ?_
    refine g_iload 177 gq209 rfl rfl rfl ?_
    refine g_iadd 178 gq209 rfl rfl ?_
    have c36 := h.1
    replace h := h.2
    refine g_lald 179 gq209 rfl rfl rfl c36 ?_
    refine g_lmul 180 gq209 rfl rfl ?_
    refine g_wrapJ ?_
    refine g_aload_n 181 gq209 rfl rfl rfl ?_
    refine g_getA 184 332 gq209 rfl rfl rfl rfl rfl rfl rfl ?_
    refine g_bipush 186 gq209 rfl rfl rfl ?_
    refine g_iload 188 gq209 rfl rfl rfl ?_
    refine g_imul 189 gq209 rfl rfl ?_
    refine g_iload 191 gq209 rfl rfl rfl ?_
    refine g_iadd 192 gq209 rfl rfl ?_
    have c48 := h.1
    replace h := h.2
    refine g_lald 193 gq209 rfl rfl rfl c48 ?_
    refine g_aload_n 194 gq209 rfl rfl rfl ?_
    refine g_getA 197 332 gq209 rfl rfl rfl rfl rfl rfl rfl ?_
    refine g_bipush 199 gq209 rfl rfl rfl ?_
    refine g_iload 201 gq209 rfl rfl rfl ?_
    refine g_imul 202 gq209 rfl rfl ?_
    refine g_iload 204 gq209 rfl rfl rfl ?_
    refine g_iadd 205 gq209 rfl rfl ?_
    have c58 := h.1
    replace h := h.2
    refine g_lald 206 gq209 rfl rfl rfl c58 ?_
    refine g_lmul 207 gq209 rfl rfl ?_
    refine g_wrapJ ?_
    refine g_lsub 208 gq209 rfl rfl ?_
    refine g_wrapJ ?_
    refine g_lload_n 209 gq209 rfl rfl rfl ?_
    have c66 := h.1
    replace h := h.2
    have c68 := h.1
    replace h := h.2
    refine g_ldivT 210 gq209 rfl rfl c66 c68 ?_
    refine g_wrapJ ?_
    refine g_last 211 gq209 rfl rfl rfl c26 ?_
    refine g_iinc 214 gq209 rfl rfl rfl rfl ?_
    refine g_goto 134 gq209 rfl rfl ?_
    exact kGo.weak (km_Le.s (km_Le.s (km_Le.s (km_Le.n (km_Le.s (km_Le.n (km_Le.s (km_Le.s km_Le.nil)))))))) h

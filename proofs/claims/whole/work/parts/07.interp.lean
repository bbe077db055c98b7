/-! AN INTERPRETER of the methods' bytecode over a plain memory, and (behind it) the proof that the machine follows it.
A cell: its kind (0 .. 9 a class's object, 10 .. 16 an array of byte, int, long, boolean, Drawing, Rows, long[]), how many places, what they hold. -/
abbrev km_C : Type := Nat × Nat × (Nat → Value)
abbrev km_M : Type := List km_C
abbrev km_L : Type := List (Option Value)
abbrev KI : Type := Jvm.ClassFile.Instr
def km_at : List (Nat × KI) → Nat → Option KI
  | [], _ => none
  | e :: t, pc => cond (Nat.beq e.1 pc) (some e.2) (km_at t pc)
theorem km_at_mem {l : List (Nat × KI)} {pc : Nat} {i : KI} (h : km_at l pc = some i) : (pc, i) ∈ l := by
  induction l with
  | nil => cases h
  | cons e t ih =>
    unfold km_at at h
    cases hb : Nat.beq e.1 pc with
    | false => rw [hb] at h; exact List.mem_cons_of_mem _ (ih h)
    | true =>
      rw [hb] at h
      have h1 : e.1 = pc := Nat.eq_of_beq_eq_true hb
      have h2 : e.2 = i := Option.some.inj h
      subst h1; subst h2
      exact List.mem_cons_self
def km_fF : List (Nat × Nat × Nat × Nat × Nat) → Nat → Nat → Option (Nat × Nat × Nat)
  | [], _, _ => none
  | e :: t, c, i => cond (Nat.beq e.1 c && Nat.beq e.2.1 i) (some e.2.2) (km_fF t c i)
theorem km_fF_mem {l : List (Nat × Nat × Nat × Nat × Nat)} {c i : Nat} {r : Nat × Nat × Nat} (h : km_fF l c i = some r) : (c, i, r) ∈ l := by
  induction l with
  | nil => cases h
  | cons e t ih =>
    unfold km_fF at h
    cases hb : (Nat.beq e.1 c && Nat.beq e.2.1 i) with
    | false => rw [hb] at h; exact List.mem_cons_of_mem _ (ih h)
    | true =>
      rw [hb] at h
      rw [Bool.and_eq_true] at hb
      have h1 : e.1 = c := Nat.eq_of_beq_eq_true hb.1
      have h3 : e.2.1 = i := Nat.eq_of_beq_eq_true hb.2
      have h2 : e.2.2 = r := Option.some.inj h
      subst h1; subst h2; subst h3
      exact List.mem_cons_self
def km_scr : Nat := 1000000
/-- constants of the pools: ints, longs, texts -/
def km_kc (c i : Nat) : Option Value :=
  match c with
  | 0 => cond (Nat.beq i 55) (some (.long 2)) none
  | 7 => cond (Nat.beq i 48) (some (.ref 1000001)) (cond (Nat.beq i 54) (some (.ref 1000002)) (cond (Nat.beq i 56) (some (.ref 1000003)) (cond (Nat.beq i 58) (some (.ref 1000004)) none)))
  | 8 => cond (Nat.beq i 185) (some (.int (-100000))) (cond (Nat.beq i 231) (some (.long (-1))) none)
  | 9 => cond (Nat.beq i 139) (some (.long 27)) (cond (Nat.beq i 327) (some (.int (-100000))) (cond (Nat.beq i 355) (some (.long 2)) (cond (Nat.beq i 357) (some (.long (-1))) none)))
  | 10 => cond (Nat.beq i 265) (some (.int 1431655765)) (cond (Nat.beq i 266) (some (.int 858993459)) (cond (Nat.beq i 267) (some (.int 252645135)) none))
  | _ => none
def km_i1 (f : Int32 → Value) : List Value → Option (List Value)
  | .int x :: r => some (f x :: r)
  | _ => none
def km_l1 (f : Int64 → Value) : List Value → Option (List Value)
  | .long x :: r => some (f x :: r)
  | _ => none
def km_ii (f : Int32 → Int32 → Option Value) : List Value → Option (List Value)
  | .int y :: .int x :: r => match f x y with | some v => some (v :: r) | none => none
  | _ => none
def km_ll (f : Int64 → Int64 → Option Value) : List Value → Option (List Value)
  | .long y :: .long x :: r => match f x y with | some v => some (v :: r) | none => none
  | _ => none
def km_li (f : Int64 → Int32 → Option Value) : List Value → Option (List Value)
  | .int y :: .long x :: r => match f x y with | some v => some (v :: r) | none => none
  | _ => none
theorem km_i1_s {f : Int32 → Value} {st st' : List Value} (h : km_i1 f st = some st') : ∃ x r, st = .int x :: r ∧ st' = f x :: r := by
  unfold km_i1 at h
  split at h
  · exact ⟨_, _, rfl, (Option.some.inj h).symm⟩
  · cases h
theorem km_l1_s {f : Int64 → Value} {st st' : List Value} (h : km_l1 f st = some st') : ∃ x r, st = .long x :: r ∧ st' = f x :: r := by
  unfold km_l1 at h
  split at h
  · exact ⟨_, _, rfl, (Option.some.inj h).symm⟩
  · cases h
theorem km_ii_s {f : Int32 → Int32 → Option Value} {st st' : List Value} (h : km_ii f st = some st') : ∃ x y v r, st = .int y :: .int x :: r ∧ f x y = some v ∧ st' = v :: r := by
  unfold km_ii at h
  split at h
  · split at h
    · exact ⟨_, _, _, _, rfl, by assumption, (Option.some.inj h).symm⟩
    · cases h
  · cases h
theorem km_ll_s {f : Int64 → Int64 → Option Value} {st st' : List Value} (h : km_ll f st = some st') : ∃ x y v r, st = .long y :: .long x :: r ∧ f x y = some v ∧ st' = v :: r := by
  unfold km_ll at h
  split at h
  · split at h
    · exact ⟨_, _, _, _, rfl, by assumption, (Option.some.inj h).symm⟩
    · cases h
  · cases h
theorem km_li_s {f : Int64 → Int32 → Option Value} {st st' : List Value} (h : km_li f st = some st') : ∃ x y v r, st = .int y :: .long x :: r ∧ f x y = some v ∧ st' = v :: r := by
  unfold km_li at h
  split at h
  · split at h
    · exact ⟨_, _, _, _, rfl, by assumption, (Option.some.inj h).symm⟩
    · cases h
  · cases h
def km_dup : List Value → Option (List Value)
  | v :: r => if v.category = 1 then some (v :: v :: r) else none
  | _ => none
def km_dup2 : List Value → Option (List Value)
  | v :: w :: r => if v.category = 1 ∧ w.category = 1 then some (v :: w :: v :: w :: r) else none
  | _ => none
def km_pop : List Value → Option (List Value)
  | v :: r => if v.category = 1 then some r else none
  | _ => none
def km_psh1 (st : List Value) : Option Value → Option (List Value)
  | some (.int x) => some (.int x :: st)
  | some (.ref x) => some (.ref x :: st)
  | _ => none
def km_psh3 (st : List Value) : Option Value → Option (List Value)
  | some (.int x) => some (.int x :: st)
  | _ => none
def km_psh2 (st : List Value) : Option Value → Option (List Value)
  | some (.long x) => some (.long x :: st)
  | _ => none
/-- what touches the stack alone -/
def km_pure (c : Nat) (ins : KI) (st : List Value) : Option (List Value) :=
  match ins with
  | .iconst n => some (.int (Int32.ofInt n) :: st)
  | .bipush n => some (.int (Int8.ofInt n).toInt32 :: st)
  | .sipush n => some (.int (Int16.ofInt n).toInt32 :: st)
  | .lconst n => some (.long (Int64.ofNat (n : Nat)) :: st)
  | .ldc i => km_psh1 st (km_kc c i)
  | .ldc_w i => km_psh3 st (km_kc c i)
  | .ldc2_w i => km_psh2 st (km_kc c i)
  | .iadd => km_ii (fun x y => some (.int (x + y))) st
  | .isub => km_ii (fun x y => some (.int (x - y))) st
  | .imul => km_ii (fun x y => some (.int (x * y))) st
  | .iand => km_ii (fun x y => some (.int (x &&& y))) st
  | .ior => km_ii (fun x y => some (.int (x ||| y))) st
  | .ixor => km_ii (fun x y => some (.int (x ^^^ y))) st
  | .idiv => km_ii (fun x y => if y = 0 then none else some (.int (x / y))) st
  | .irem => km_ii (fun x y => if y = 0 then none else some (.int (x - x / y * y))) st
  | .ishl => km_ii (fun x y => some (.int (x <<< (y &&& 31)))) st
  | .ishr => km_ii (fun x y => some (.int (x >>> (y &&& 31)))) st
  | .iushr => km_ii (fun x y => some (.int (x.toUInt32 >>> (y.toUInt32 &&& Int32.toUInt32 31)).toInt32)) st
  | .ineg => km_i1 (fun x => .int (-x)) st
  | .i2l => km_i1 (fun x => .long x.toInt64) st
  | .i2b => km_i1 (fun x => .int x.toInt8.toInt32) st
  | .l2i => km_l1 (fun x => .int x.toInt32) st
  | .lneg => km_l1 (fun x => .long (-x)) st
  | .ladd => km_ll (fun x y => some (.long (x + y))) st
  | .lsub => km_ll (fun x y => some (.long (x - y))) st
  | .lmul => km_ll (fun x y => some (.long (x * y))) st
  | .land => km_ll (fun x y => some (.long (x &&& y))) st
  | .lor => km_ll (fun x y => some (.long (x ||| y))) st
  | .lxor => km_ll (fun x y => some (.long (x ^^^ y))) st
  | .ldiv => km_ll (fun x y => if y = 0 then none else some (.long (x / y))) st
  | .lrem => km_ll (fun x y => if y = 0 then none else some (.long (x - x / y * y))) st
  | .lcmp => km_ll (fun x y => some (.int (lg_cmp x y))) st
  | .lshl => km_li (fun x y => some (.long (x <<< (y.toInt64 &&& 63)))) st
  | .lshr => km_li (fun x y => some (.long (x >>> (y.toInt64 &&& 63)))) st
  | .dup => km_dup st
  | .dup2 => km_dup2 st
  | .pop => km_pop st
  | _ => none
def km_tg (pc : Nat) (off : Int) : Option Nat := if 0 ≤ (pc : Int) + off then some ((pc : Int) + off).toNat else none
theorem km_tg_s {pc tgt : Nat} {off : Int} (h : km_tg pc off = some tgt) : (pc : Int) + off = (tgt : Int) := by
  unfold km_tg at h
  split at h
  · have := Option.some.inj h; omega
  · cases h
def km_cmp : Jvm.ClassFile.Cond → Int32 → Int32 → Bool
  | .eq, x, y => decide (x = y)
  | .ne, x, y => decide (¬ x = y)
  | .lt, x, y => decide (x < y)
  | .ge, x, y => decide (y ≤ x)
  | .gt, x, y => decide (y < x)
  | .le, x, y => decide (x ≤ y)
/-- where it goes on -/
def km_jmp (pc : Nat) (ins : KI) (st : List Value) : Option (Nat × List Value) :=
  match ins with
  | .goto off => match km_tg pc off with | some t => some (t, st) | none => none
  | .ifCond c off => match km_tg pc off, st with
    | some t, .int x :: r => some (cond (km_cmp c x 0) t (pc + 3), r)
    | _, _ => none
  | .if_icmp c off => match km_tg pc off, st with
    | some t, .int y :: .int x :: r => some (cond (km_cmp c x y) t (pc + 3), r)
    | _, _ => none
  | .tableswitch dflt lo hi offs => match st with
    | .int x :: r => if x.toInt < lo ∨ hi < x.toInt then (match km_tg pc dflt with | some t => some (t, r) | none => none)
      else (match offs[(x.toInt - lo).toNat]? with | some off => (match km_tg pc off with | some t => some (t, r) | none => none) | none => none)
    | _ => none
  | _ => none
/-- what stands ahead of i, without a long that reaches into i -/
def km_clrk (ls : km_L) (k : Nat) : km_L := match ls[k]? with
  | some (some w) => cond (Nat.beq w.category 2) (ls.set k none) ls
  | _ => ls
def km_clr (ls : km_L) : Nat → km_L
  | 0 => ls
  | k + 1 => km_clrk ls k
def km_st1 (ls : km_L) (i : Nat) (v : Value) : Option km_L := cond (Nat.blt i ls.length) (some ((km_clr ls i).set i (some v))) none
def km_st2 (ls : km_L) (i : Nat) (v : Value) : Option km_L := cond (Nat.blt (i + 1) ls.length) (some (((km_clr ls i).set i (some v)).set (i + 1) none)) none
theorem km_clr_len (ls : km_L) (i : Nat) : (km_clr ls i).length = ls.length := by
  cases i with
  | zero => rfl
  | succ k =>
    show (km_clrk ls k).length = _
    unfold km_clrk
    split
    · rename_i w hw
      cases Nat.beq w.category 2
      · rfl
      · show (ls.set k none).length = _
        exact List.length_set
    · rfl
theorem km_clr_s {ls : km_L} {i j : Nat} {w : Value} (h : (km_clr ls i)[j]? = some (some w)) : ls[j]? = some (some w) ∧ ¬ (j + 1 = i ∧ w.category = 2) := by
  cases i with
  | zero => exact ⟨h, fun z => by omega⟩
  | succ k =>
    have h1 : (km_clrk ls k)[j]? = some (some w) := h
    clear h
    unfold km_clrk at h1
    split at h1
    · rename_i v hv
      cases hb : Nat.beq v.category 2 with
      | true =>
        rw [hb] at h1
        have h2 : (ls.set k none)[j]? = some (some w) := h1
        by_cases hj : k = j
        · subst hj
          exfalso
          have hl : k < ls.length := (List.getElem?_eq_some_iff.mp hv).1
          rw [List.getElem?_set_self hl] at h2
          cases Option.some.inj h2
        · rw [List.getElem?_set_ne hj] at h2
          exact ⟨h2, fun z => hj (by omega)⟩
      | false =>
        rw [hb] at h1
        have h2 : ls[j]? = some (some w) := h1
        refine ⟨h2, fun z => ?_⟩
        have e : j = k := by omega
        subst e
        rw [hv] at h2
        obtain rfl := Option.some.inj (Option.some.inj h2)
        rw [z.2] at hb
        cases hb
    · rename_i hv
      refine ⟨h1, fun z => ?_⟩
      have e : j = k := by omega
      subst e
      exact hv _ h1
def km_ldI (ls : km_L) (i : Nat) (st : List Value) : Option (km_L × List Value) := match ls[i]? with
  | some (some (.int x)) => some (ls, .int x :: st)
  | _ => none
def km_ldJ (ls : km_L) (i : Nat) (st : List Value) : Option (km_L × List Value) := match ls[i]? with
  | some (some (.long x)) => some (ls, .long x :: st)
  | _ => none
def km_ldA (ls : km_L) (i : Nat) (st : List Value) : Option (km_L × List Value) := match ls[i]? with
  | some (some (.ref x)) => some (ls, .ref x :: st)
  | _ => none
def km_stI (ls : km_L) (i : Nat) (st : List Value) : Option (km_L × List Value) := match st with
  | .int x :: r => (match km_st1 ls i (.int x) with | some ls' => some (ls', r) | none => none)
  | _ => none
def km_stA (ls : km_L) (i : Nat) (st : List Value) : Option (km_L × List Value) := match st with
  | .ref x :: r => (match km_st1 ls i (.ref x) with | some ls' => some (ls', r) | none => none)
  | _ => none
def km_stJ (ls : km_L) (i : Nat) (st : List Value) : Option (km_L × List Value) := match st with
  | .long x :: r => (match km_st2 ls i (.long x) with | some ls' => some (ls', r) | none => none)
  | _ => none
/-- loads and stores of locals -/
def km_loc (ins : KI) (ls : km_L) (st : List Value) : Option (km_L × List Value) :=
  match ins with
  | .iload i => km_ldI ls i st
  | .iload_n i => km_ldI ls (i : Nat) st
  | .lload i => km_ldJ ls i st
  | .lload_n i => km_ldJ ls (i : Nat) st
  | .aload i => km_ldA ls i st
  | .aload_n i => km_ldA ls (i : Nat) st
  | .istore i => km_stI ls i st
  | .istore_n i => km_stI ls (i : Nat) st
  | .lstore i => km_stJ ls i st
  | .lstore_n i => km_stJ ls (i : Nat) st
  | .astore i => km_stA ls i st
  | .astore_n i => km_stA ls (i : Nat) st
  | .iinc i n => match ls[i]? with
    | some (some (.int x)) => (match km_st1 ls i (.int (x + Int32.ofInt n)) with | some ls' => some (ls', st) | none => none)
    | _ => none
  | _ => none
def km_rd (L : km_M) (a kd i : Nat) : Option Value := match L[a]? with
  | some q => cond (Nat.beq q.1 kd && Nat.blt i q.2.1) (some (q.2.2 i)) none
  | none => none
def km_wr (L : km_M) (a kd i : Nat) (v : Value) : Option km_M := match L[a]? with
  | some q => cond (Nat.beq q.1 kd && Nat.blt i q.2.1) (some (L.set a (q.1, q.2.1, updV q.2.2 i v))) none
  | none => none
def km_Ty : Nat → Nat → FieldType
  | 0 => tyX0 | 1 => tyX1 | 2 => tyX2 | 3 => tyX3 | 4 => tyX4 | 5 => tyX5 | 6 => tyX6 | 7 => tyX7 | 8 => tyX8 | _ => tyX9
/-- what a field of a type may take -/
def km_fit : FieldType → Value → Bool
  | .int, .int _ => true
  | .boolean, .int x => decide (x = 0 ∨ x = 1)
  | .array _, .ref _ => true
  | .object _, .ref _ => true
  | _, _ => false
def km_aty : Nat → FieldType
  | 10 => .byte | 11 => .int | 12 => .long | 13 => .boolean | 14 => .object RX2 | 15 => .object RX5 | _ => .array .long
def km_or {α : Type} (a b : Option α) : Option α := match a with
  | some x => some x
  | none => b
def km_ar (L : km_M) (a kd : Nat) (i : Int32) : Option Value := if i < 0 then none else km_rd L a kd i.toNatClampNeg
def km_aw (L : km_M) (a kd : Nat) (i : Int32) (v : Value) : Option km_M := if i < 0 then none else km_wr L a kd i.toNatClampNeg v
def km_kd (L : km_M) (a k : Nat) : Bool := match L[a]? with
  | some q => Nat.beq q.1 k
  | none => false
def km_new (L : km_M) (r : List Value) (k n : Nat) (v : Nat → Value) : Option (List Value × km_M) :=
  cond (Nat.blt (L.length + 100) km_scr) (some (.ref L.length :: r, L ++ [(k, n, v)])) none
def km_cpy (f g : Nat → Value) (sp dp n : Nat) : Nat → Value := fun k => if dp ≤ k ∧ k < dp + n then f (sp + (k - dp)) else g k
def km_isI : Value → Bool
  | .int _ => true
  | _ => false
/-- the four texts: their bytes -/
def km_tx : Nat → List Nat
  | 0 => [114, 105, 110, 103] | 1 => [98, 114, 97, 105, 100] | 2 => [111, 118, 101, 114] | _ => [117, 110, 100, 101, 114]
/-- what reads and writes the memory; c: the class whose pool it is, it: whether it is a constructor; xs, Lx: the script -/
def km_mem (xs : Nat → Int32) (Lx : Nat) (c : Nat) (it : Bool) (ins : KI) (st : List Value) (L : km_M) : Option (List Value × km_M) :=
  match ins with
  | .getfield i => match st, km_fF km_F c i with
    | .ref a :: r, some (k, j, _) => (match km_rd L a k j with | some v => some (v :: r, L) | none => none)
    | _, _ => none
  | .putfield i => match st, km_fF km_F c i with
    | v :: .ref a :: r, some (k, j, _) => cond (km_fit (km_Ty k j) v && (!(km_X k j).2.2.2 || (it && Nat.beq k c))) (match km_wr L a k j v with | some L' => some (r, L') | none => none) none
    | _, _ => none
  | .iaload => match st with
    | .int i :: .ref a :: r => cond (Nat.beq a km_scr) (if i < 0 ∨ Lx ≤ i.toNatClampNeg then none else some (.int (xs i.toNatClampNeg) :: r, L))
        (match km_ar L a 11 i with | some v => some (v :: r, L) | none => none)
    | _ => none
  | .baload => match st with
    | .int i :: .ref a :: r => (match km_or (km_ar L a 10 i) (km_ar L a 13 i) with | some v => some (v :: r, L) | none => none)
    | _ => none
  | .laload => match st with
    | .int i :: .ref a :: r => (match km_ar L a 12 i with | some v => some (v :: r, L) | none => none)
    | _ => none
  | .aaload => match st with
    | .int i :: .ref a :: r => (match km_or (km_ar L a 14 i) (km_or (km_ar L a 15 i) (km_ar L a 16 i)) with | some v => some (v :: r, L) | none => none)
    | _ => none
  | .iastore => match st with
    | .int x :: .int i :: .ref a :: r => (match km_aw L a 11 i (.int x) with | some L' => some (r, L') | none => none)
    | _ => none
  | .bastore => match st with
    | .int x :: .int i :: .ref a :: r => (match km_or (km_aw L a 10 i (.int x.toInt8.toInt32)) (km_aw L a 13 i (.int (x &&& 1))) with | some L' => some (r, L') | none => none)
    | _ => none
  | .lastore => match st with
    | .long x :: .int i :: .ref a :: r => (match km_aw L a 12 i (.long x) with | some L' => some (r, L') | none => none)
    | _ => none
  | .aastore => match st with
    | .ref x :: .int i :: .ref a :: r => (match km_or (cond (km_kd L x 2) (km_aw L a 14 i (.ref x)) none) (cond (km_kd L x 5) (km_aw L a 15 i (.ref x)) none) with | some L' => some (r, L') | none => none)
    | _ => none
  | .arraylength => match st with
    | .ref a :: r => cond (Nat.beq a km_scr) (some (.int (Int32.ofNat Lx) :: r, L)) (match L[a]? with | some q => cond (Nat.blt 9 q.1 && Nat.blt q.1 17) (some (.int (Int32.ofNat q.2.1) :: r, L)) none | none => none)
    | _ => none
  | .new i => match km_fF km_W5 c i with
    | some (k, _, _) => cond (Nat.blt k 10) (km_new L st k (km_N k) (fun j => defaultValue (km_Ty k j))) none
    | none => none
  | .newarray t => match st with
    | .int n :: r => if n < 0 ∨ 60000000 < n.toNatClampNeg then none else
      match t with
      | .byte => km_new L r 10 n.toNatClampNeg (fun _ => .int 0)
      | .int => km_new L r 11 n.toNatClampNeg (fun _ => .int 0)
      | .long => km_new L r 12 n.toNatClampNeg (fun _ => .long 0)
      | .boolean => km_new L r 13 n.toNatClampNeg (fun _ => .int 0)
      | _ => none
    | _ => none
  | .anewarray i => match st, km_fF km_W5 c i with
    | .int n :: r, some (k, _, _) => if n < 0 ∨ 60000000 < n.toNatClampNeg then none else
      cond (Nat.beq k 2) (km_new L r 14 n.toNatClampNeg (fun _ => .null)) (cond (Nat.beq k 5) (km_new L r 15 n.toNatClampNeg (fun _ => .null)) none)
    | _, _ => none
  | .multianewarray i d => match st, km_fF km_W5 c i with
    | .int y :: .int x :: r, some (k, _, _) => if x < 0 ∨ 60 < x.toNatClampNeg ∨ y < 0 ∨ 60000000 < y.toNatClampNeg then none else
      cond (Nat.beq d 2 && Nat.beq k 16 && Nat.blt (L.length + 100) km_scr) (some (.ref L.length :: r, (L ++ ([(16, x.toNatClampNeg, fun j => Value.ref (L.length + 1 + j))] : km_M)) ++ (List.replicate x.toNatClampNeg (12, y.toNatClampNeg, fun _ => Value.long 0) : km_M))) none
    | _, _ => none
  | .invokespecial i => match st, km_fF km_I c i with
    | .ref _ :: r, some (4, _, _) => cond (Nat.ble ((r.map fun v => v.category).sum) 8) (some (r, L)) none
    | _, _ => none
  | .invokestatic i => match st, km_fF km_I c i with
    | .int n :: .int dp :: .ref b :: .int sp :: .ref a :: r, some (5, _, _) =>
      (match L[a]?, L[b]? with
       | some f, some g => if Nat.beq f.1 11 = true ∧ Nat.beq g.1 11 = true ∧ ¬ sp < 0 ∧ ¬ dp < 0 ∧ ¬ n < 0 ∧ sp.toNatClampNeg + n.toNatClampNeg ≤ f.2.1 ∧ dp.toNatClampNeg + n.toNatClampNeg ≤ g.2.1 ∧ ((r.map fun v => v.category).sum ≤ 8) ∧ ((List.range n.toNatClampNeg).all (fun i => km_isI (f.2.2 (sp.toNatClampNeg + i))) = true)
           then some (r, L.set b (11, g.2.1, km_cpy f.2.2 g.2.2 sp.toNatClampNeg dp.toNatClampNeg n.toNatClampNeg)) else none
       | _, _ => none)
    | _, _ => none
  | .invokevirtual i => match st, km_fF km_I c i with
    | .ref a :: r, some (6, _, _) => cond (Nat.blt km_scr a && Nat.blt a 1000005 && Nat.ble ((r.map fun v => v.category).sum) 8) (some (.int (Int32.ofNat (km_tx (a - 1000001)).length) :: r, L)) none
    | .int x :: .ref a :: r, some (7, _, _) => cond (Nat.blt km_scr a && Nat.blt a 1000005 && Nat.ble ((r.map fun v => v.category).sum) 8)
        (if x < 0 then none else match (km_tx (a - 1000001))[x.toNatClampNeg]? with | some b => some (.int (Int32.ofNat b) :: r, L) | none => none) none
    | _, _ => none
  | _ => none
/-- a return: what it answers -/
def km_ret (rt : Option FieldType) (ins : KI) (st : List Value) : Option (Option Value) :=
  match ins with
  | .ireturn => match st, rt with
    | [.int v], some .int => some (some (.int v))
    | [.int v], some .boolean => cond (decide (v = 0 ∨ v = 1)) (some (some (.int v))) none
    | _, _ => none
  | .lreturn => match st, rt with
    | [.long v], some .long => some (some (.long v))
    | _, _ => none
  | .areturn => match st, rt with
    | [.ref a], some (.object _) => some (some (.ref a))
    | _, _ => none
  | .return_ => match st, rt with
    | [], none => some none
    | _, _ => none
  | _ => none
def km_po (m : Nat) : Nat := match km_T[m]? with
  | some q => q.2.2.2.2.1
  | none => 99
def km_na (m : Nat) : Nat := match km_T[m]? with
  | some q => q.2.2.2.2.2.1
  | none => 0
def km_lay : List Value → km_L
  | [] => []
  | v :: t => if v.category = 2 then some v :: none :: km_lay t else some v :: km_lay t
def km_ent (mx : Nat) (as : List Value) : km_L := km_lay as ++ List.replicate (mx - (km_lay as).length) none
/-- a call: which method, with what, what stays on the stack -/
def km_inv (c : Nat) (ins : KI) (st : List Value) (L : km_M) : Option (Nat × List Value × List Value) :=
  match ins with
  | .invokestatic i => match km_fF km_I c i with
    | some (0, j, _) => cond (Nat.ble (km_na j) st.length && Nat.ble (((st.drop (km_na j)).map fun v => v.category).sum) 8) (some (j, (st.take (km_na j)).reverse, st.drop (km_na j))) none
    | _ => none
  | .invokevirtual i => match km_fF km_I c i with
    | some (1, j, _) => (match (st.take (km_na j)).reverse with
      | .ref a :: _ => cond (Nat.ble (km_na j) st.length && Nat.ble (((st.drop (km_na j)).map fun v => v.category).sum) 8 && km_kd L a (km_po j)) (some (j, (st.take (km_na j)).reverse, st.drop (km_na j))) none
      | _ => none)
    | _ => none
  | .invokespecial i => match km_fF km_I c i with
    | some (k, j, _) => cond (Nat.beq k 2 || Nat.beq k 3) (match (st.take (km_na j)).reverse with
      | .ref a :: _ => cond (Nat.ble (km_na j) st.length && Nat.ble (((st.drop (km_na j)).map fun v => v.category).sum) 8 && km_kd L a (km_po j)) (some (j, (st.take (km_na j)).reverse, st.drop (km_na j))) none
      | _ => none) none
    | _ => none
  | _ => none
def km_init (m : Nat) : Bool := match km_T[m]? with
  | some q => q.1.name == "<init>"
  | none => false
/-- THE RUN: fuel, how deep calls may go yet, method, place, locals, stack, memory -/
def km_run (xs : Nat → Int32) (Lx : Nat) : Nat → Nat → Nat → Nat → km_L → List Value → km_M → Option (Option Value × km_M)
  | 0, _, _, _, _, _, _ => none
  | f + 1, d, m, pc, ls, st, L =>
    match km_T[m]? with
    | none => none
    | some q =>
    match km_at q.2.2.2.2.2.2.2 pc with
    | none => none
    | some ins =>
    match km_pure q.2.2.2.2.1 ins st with
    | some st' => km_run xs Lx f d m (pc + km_len ins) ls st' L
    | none =>
    match km_loc ins ls st with
    | some (ls', st') => km_run xs Lx f d m (pc + km_len ins) ls' st' L
    | none =>
    match km_jmp pc ins st with
    | some (pc', st') => km_run xs Lx f d m pc' ls st' L
    | none =>
    match km_mem xs Lx q.2.2.2.2.1 (km_init m) ins st L with
    | some (st', L') => km_run xs Lx f d m (pc + km_len ins) ls st' L'
    | none =>
    match km_ret q.2.2.2.1 ins st with
    | some r => some (r, L)
    | none =>
    match km_inv q.2.2.2.2.1 ins st L with
    | none => none
    | some (j, as, rest) =>
    match d with
    | 0 => none
    | d' + 1 =>
    match km_T[j]? with
    | none => none
    | some qj =>
    match cond (Nat.ble (km_lay as).length qj.2.2.1) (km_run xs Lx f d' j 0 (km_ent qj.2.2.1 as) [] L) none with
    | none => none
    | some (r, L') => km_run xs Lx f d m (pc + 3) ls (r.toList ++ rest) L'

def km_AOA (U : State) : Prop := (Cond.arrayOver (.array .long)).before #[] U = true
def km_sl (L : km_M) : Nat := (L.map fun q => q.2.1).sum
/-- what a state's tables say -/
def km_K (D : km_D) (U : State) : Prop :=
  (∀ k, k < 10 → u_Kn U (km_R k) (km_X k) (km_N k) (km_dC D k) (km_dI D k)) ∧ (∀ j, j < 4 → vk_R RX7 (km_si j) (km_st j) (km_ad D (1000001 + j)) U) ∧
  (∀ w ∈ km_Nw, va_Nw w U) ∧ va_AO RX2 U ∧ va_AO RX5 U ∧ km_AOA U
def km_txB : List (List Int32) := [[114, 105, 110, 103], [98, 114, 97, 105, 100], [111, 118, 101, 114], [117, 110, 100, 101, 114]]
/-- the four texts, and what their methods read -/
def km_Str (D : km_D) (U : State) (H : Heap) : Prop := (∃ adV : Nat → Nat, vk_S 4 [4, 5, 4, 5] km_txB (fun i => km_ad D (1000001 + i)) adV (fun q => km_bs D ≤ q) U H) ∧
  va_Z "java/lang/String" "COMPACT_STRINGS" "Z" (.int 1) (fun q => km_bs D ≤ q) U H ∧ va_Zq "jdk/internal/util/Preconditions" "SIOOBE_FORMATTER" "Ljava/util/function/BiFunction;" (fun q => km_bs D ≤ q) U H
theorem km_Str.kept {D : km_D} {U : State} {H H1 : Heap} (h : km_Str D U H) (hq : ∀ a : Nat, a < H.size → ¬ km_bs D ≤ a → H1[a]? = H[a]?) : km_Str D U H1 := by
  obtain ⟨⟨adV, h1⟩, h2, h3⟩ := h
  exact ⟨⟨adV, h1.kept hq⟩, h2.kept hq, h3.kept hq⟩
theorem km_Str.moved {D : km_D} {u U : State} {H : Heap} (hv : u.vm.Alike U.vm) (h : km_Str D u H) : km_Str D U H := by
  obtain ⟨⟨adV, h1⟩, h2, h3⟩ := h
  exact ⟨⟨adV, h1.moved hv⟩, h2.moved hv, h3.moved hv⟩
/-- the heap -/
def km_Wd (D : km_D) (s : State) (H0 H : Heap) (L : km_M) (locs : List Loc) : Prop :=
  km_P D s L H ∧ H.size = km_bs D + L.length ∧ L.length ≤ km_scr ∧ va_X (km_b D) (km_Lx D) (km_xs D) s H ∧ km_Str D s H ∧ (∀ q : Nat, q < km_bs D → H[q]? = H0[q]?) ∧ ∀ x ∈ locs, km_bs D ≤ x.base
theorem km_Wd.wr {D : km_D} {s : State} {H0 H H1 : Heap} {L : km_M} {locs : List Loc} {a x : Nat} {q : km_C} (w : km_Wd D s H0 H L locs) (hq : km_cell D s q (km_bs D + a) H1) (hz : H1.size = H.size) (ho : ∀ x : Nat, x ≠ km_bs D + a → H1[x]? = H[x]?) (hb : km_b D < km_bs D) : km_Wd D s H0 H1 (L.set a q) (locs ++ [⟨km_bs D + a, x⟩]) := by
  obtain ⟨w1, w2, w3, w4, w5, w6, w7⟩ := w
  have hk : ∀ y : Nat, y < km_bs D → H1[y]? = H[y]? := fun y hy => ho y (by omega)
  refine ⟨w1.set hq ho, by rw [hz, w2, List.length_set], by rw [List.length_set]; exact w3, w4.kept (hk _ hb), w5.kept (fun y _ h2 => hk y (by omega)), fun y hy => (hk y hy).trans (w6 y hy), fun y hy => ?_⟩
  rcases List.mem_append.mp hy with h | h
  · exact w7 y h
  · rw [List.mem_singleton.mp h]
    exact Nat.le_add_right _ _
theorem km_Wd.push {D : km_D} {s : State} {H0 H H1 : Heap} {L : km_M} {locs : List Loc} {q : km_C} (w : km_Wd D s H0 H L locs) (hl : L.length < km_scr) (hq : km_cell D s q H.size H1) (hz : H1.size = H.size + 1) (ho : ∀ x : Nat, x < H.size → H1[x]? = H[x]?) (hb : km_b D < km_bs D) : km_Wd D s H0 H1 (L ++ [q]) locs := by
  obtain ⟨w1, w2, w3, w4, w5, w6, w7⟩ := w
  refine ⟨w1.push w2 hq ho, by rw [hz, w2, List.length_append]; rfl, by rw [List.length_append]; exact hl, w4.kept (ho _ (by omega)), w5.kept (fun y h1 _ => ho y h1), fun y hy => (ho y (by omega)).trans (w6 y hy), w7⟩
theorem km_updV {ad : Nat → Nat} (f : Nat → Value) (i : Nat) (v : Value) : (fun j => km_cv ad (updV f i v j)) = updV (fun j => km_cv ad (f j)) i (km_cv ad v) := by
  funext j
  unfold updV
  by_cases h : j = i
  · rw [if_pos h, if_pos h]
  · rw [if_neg h, if_neg h]
theorem km_rd_s {L : km_M} {a kd i : Nat} {v : Value} (h : km_rd L a kd i = some v) : ∃ n f, L[a]? = some (kd, n, f) ∧ i < n ∧ v = f i := by
  unfold km_rd at h
  split at h
  · rename_i q hq
    rcases km_cb h with ⟨hb, h2⟩ | ⟨-, h2⟩
    · clear h
      rw [Bool.and_eq_true] at hb
      have e := km_beq hb.1
      subst e
      exact ⟨q.2.1, q.2.2, hq, Nat.le_of_ble_eq_true hb.2, (Option.some.inj h2).symm⟩
    · cases h2
  · cases h
theorem km_wr_s {L L' : km_M} {a kd i : Nat} {v : Value} (h : km_wr L a kd i v = some L') : ∃ n f, L[a]? = some (kd, n, f) ∧ i < n ∧ L' = L.set a (kd, n, updV f i v) := by
  unfold km_wr at h
  split at h
  · rename_i q hq
    rcases km_cb h with ⟨hb, h2⟩ | ⟨-, h2⟩
    · clear h
      rw [Bool.and_eq_true] at hb
      have e := km_beq hb.1
      subst e
      exact ⟨q.2.1, q.2.2, hq, Nat.le_of_ble_eq_true hb.2, (Option.some.inj h2).symm⟩
    · cases h2
  · cases h
theorem km_ar_s {L : km_M} {a kd : Nat} {i : Int32} {v : Value} (h : km_ar L a kd i = some v) : ¬ i < 0 ∧ ∃ n f, L[a]? = some (kd, n, f) ∧ i.toNatClampNeg < n ∧ v = f i.toNatClampNeg := by
  unfold km_ar at h
  split at h
  · cases h
  · exact ⟨by assumption, km_rd_s h⟩
theorem km_aw_s {L L' : km_M} {a kd : Nat} {i : Int32} {v : Value} (h : km_aw L a kd i v = some L') : ¬ i < 0 ∧ ∃ n f, L[a]? = some (kd, n, f) ∧ i.toNatClampNeg < n ∧ L' = L.set a (kd, n, updV f i.toNatClampNeg v) := by
  unfold km_aw at h
  split at h
  · cases h
  · exact ⟨by assumption, km_wr_s h⟩
theorem km_or_s {α : Type} {a b : Option α} {v : α} (h : km_or a b = some v) : a = some v ∨ b = some v := by
  unfold km_or at h
  cases a with
  | none => exact Or.inr h
  | some x => exact Or.inl h
theorem km_sl_set {L : km_M} {a : Nat} {k n : Nat} {f g : Nat → Value} (h : L[a]? = some (k, n, f)) : km_sl (L.set a (k, n, g)) = km_sl L := by
  unfold km_sl
  rw [List.map_set]
  have : (L.map fun q => q.2.1).set a n = L.map fun q => q.2.1 := by
    apply List.ext_getElem?
    intro j
    by_cases hj : a = j
    · subst hj
      rw [List.getElem?_set_self (by rw [List.length_map]; exact km_lt h), List.getElem?_map, h]
      rfl
    · rw [List.getElem?_set_ne hj]
  exact congrArg List.sum this
section KM4
variable {p : Program} {l : Launch} {e : Env} {R : Room} {s : State} {m : MethodId} {args : Array Value} {below : List Frame} {meth : Method} {c : Code} {H : Heap} {locs : List Loc} {cells slots : Nat} {Q : State → Prop}
variable {cc : ByteArray} {pc nL : Nat} {LS : Array Slot} {po : Nat} {D : km_D}
/-- what holds all through a method -/
def km_Cx (D : km_D) (p : Program) (s : State) (m : MethodId) (args : Array Value) (c : Code) (cc : ByteArray) (nL po : Nat) : Prop :=
  p.tables.exec = Jvm.exec ∧ c.code = cc ∧ c.maxLocals = nL ∧ s.vm.findClass (km_R po) = some m.cls ∧ (∀ w ∈ km_G, w.before args s = true) ∧ km_K D s ∧ km_Dok D
abbrev km_Go (p : Program) (l : Launch) (e : Env) (R : Room) (s : State) (m : MethodId) (args : Array Value) (below : List Frame) (meth : Method) (c : Code) (D : km_D) (H : Heap) (locs : List Loc) (L : km_M) (c0 s0 : Nat) (Q : State → Prop) (pc : Nat) (LS : Array Slot) (st : List Value) : Prop :=
  W p l e R s m args below meth c H locs (L.length - c0) (km_sl L - s0) Q (F0 m pc LS (st.map (km_cv (km_ad D))))
theorem km_adr (hD : km_Dok D) {H0 : Heap} {L : km_M} (w : km_Wd D s H0 H L locs) {a : Nat} {q : km_C} (h : L[a]? = some q) : km_ad D a = km_bs D + a := hD.1 a (Nat.lt_of_lt_of_le (km_lt h) w.2.2.1)
theorem km_arr {H0 : Heap} {L : km_M} (w : km_Wd D s H0 H L locs) {a k n : Nat} {f : Nat → Value} (h : L[a]? = some (k, n, f)) (hk : 10 ≤ k) : n < 2 ^ 31 ∧ ∃ cA : ClassId, ArrOfT s cA (km_aty k) ∧ va_RA s cA (km_aty k) ∧ H[km_bs D + a]? = some (arrV cA n (fun j => km_cv (km_ad D) (f j))) :=
  ((w.1 a _ h).2 (Nat.not_lt.mpr hk)).2
theorem km_inn {i : Int32} {n : Nat} (h0 : ¬ i < 0) (h : i.toNatClampNeg < n) : ¬ (i < 0 ∨ n ≤ i.toNatClampNeg) := fun z => z.elim h0 (fun z => absurd z (Nat.not_le.mpr h))
theorem km_cellA {k n : Nat} {f : Nat → Value} {a : Nat} {cA : ClassId} {H1 : Heap} {v : Value} {j : Nat} (hk : ¬ k < 10) (hk2 : k < 17) (hn : n < 2 ^ 31) (h1 : ArrOfT s cA (km_aty k)) (h2 : va_RA s cA (km_aty k)) (h3 : H1[a]? = some ((arrV cA n (fun j => km_cv (km_ad D) (f j))).setSlot j (km_cv (km_ad D) v))) : km_cell D s (k, n, updV f j v) a H1 := by
  refine ⟨fun z => absurd z hk, fun _ => ⟨hk2, hn, cA, h1, h2, ?_⟩⟩
  rw [h3, arrV_store]
  show _ = some (arrV cA n (fun i => km_cv (km_ad D) (updV f j v i)))
  rw [km_updV]
set_option maxHeartbeats 4000000 in
/-- reads and writes of arrays, fields -/
theorem km_mem_sim1 (X : km_Cx D p s m args c cc nL po) {it : Bool} (hit : it = true → meth.name = "<init>") {L L' : km_M} {H0 : Heap} {c0 s0 : Nat} (w : km_Wd D s H0 H L locs)
    {ins : KI} {st st' : List Value} (hi : ins = .iaload ∨ ins = .baload ∨ ins = .laload ∨ ins = .aaload ∨ ins = .iastore ∨ ins = .bastore ∨ ins = .lastore ∨ ins = .arraylength ∨ (∃ i, ins = .getfield i) ∨ (∃ i, ins = .putfield i)) (h : km_mem (km_xs D) (km_Lx D) po it ins st L = some (st', L')) (hd : decode cc pc = .ok (ins, km_len ins))
    (k : ∀ (H' : Heap) (locs' : List Loc), km_Wd D s H0 H' L' locs' → km_Go p l e R s m args below meth c D H' locs' L' c0 s0 Q (pc + km_len ins) LS st') : km_Go p l e R s m args below meth c D H locs L c0 s0 Q pc LS st := by
  obtain ⟨hx, hb, hml, hown, hG, hK, hD⟩ := X
  rcases hi with rfl | rfl | rfl | rfl | rfl | rfl | rfl | rfl | ⟨i, rfl⟩ | ⟨i, rfl⟩ <;> simp only [km_mem] at h
  · -- iaload
    split at h
    · rename_i i a r
      rcases km_cb h with ⟨hbq, h2⟩ | ⟨-, h2⟩
      · clear h
        split at h2
        · cases h2
        · rename_i hin
          have e := km_beq hbq
          subst e
          cases h2
          obtain ⟨scr, q1, q2, q3, q4, q5⟩ := w.2.2.2.1
          have hlt : i.toNatClampNeg < km_Lx D := Nat.not_le.mp fun z => hin (Or.inr z)
          have k0 := k H locs w
          have ea : km_cv (km_ad D) (.ref km_scr) = .ref (km_b D) := by show Value.ref _ = _; rw [hD.2.1]
          unfold km_Go at k0 ⊢
          simp only [List.map_cons, ea] at k0 ⊢
          exact W.iald (v := .int (km_xs D i.toNatClampNeg)) hx hb q1 q2 q3 (by rw [q4]; exact hin) (q5 _ hlt) rfl rfl hd k0
      · clear h
        split at h2
        · rename_i v hv
          cases h2
          obtain ⟨h0, n, f, hL, hn, rfl⟩ := km_ar_s hv
          obtain ⟨hn2, cA, a1, a2, a3⟩ := km_arr w hL (by decide)
          have k0 := k H locs w
          have ea : km_cv (km_ad D) (.ref a) = .ref (km_bs D + a) := by show Value.ref _ = _; rw [km_adr hD w hL]
          unfold km_Go at k0 ⊢
          simp only [List.map_cons, ea] at k0 ⊢
          exact W.iald hx hb a3 (a1 _ _) (fun z => by cases z) (by rw [arrV_size]; exact km_inn h0 hn) (arrV_read _ _ hn) rfl rfl hd k0
        · cases h2
    · cases h
  · -- baload
    split at h
    · rename_i i a r
      split at h
      · rename_i v hv
        cases h
        rcases km_or_s hv with hv | hv
        · obtain ⟨h0, n, f, hL, hn, rfl⟩ := km_ar_s hv
          obtain ⟨hn2, cA, a1, a2, a3⟩ := km_arr w hL (by decide)
          have k0 := k H locs w
          have ea : km_cv (km_ad D) (.ref a) = .ref (km_bs D + a) := by show Value.ref _ = _; rw [km_adr hD w hL]
          unfold km_Go at k0 ⊢
          simp only [List.map_cons, ea] at k0 ⊢
          exact W.bald hx hb a3 (a1 _ _) (fun z => by cases z) (by rw [arrV_size]; exact km_inn h0 hn) (arrV_read _ _ hn) rfl rfl hd k0
        · obtain ⟨h0, n, f, hL, hn, rfl⟩ := km_ar_s hv
          obtain ⟨hn2, cA, a1, a2, a3⟩ := km_arr w hL (by decide)
          have k0 := k H locs w
          have ea : km_cv (km_ad D) (.ref a) = .ref (km_bs D + a) := by show Value.ref _ = _; rw [km_adr hD w hL]
          unfold km_Go at k0 ⊢
          simp only [List.map_cons, ea] at k0 ⊢
          exact W.zald hx hb a3 (a1 _ _) (fun z => by cases z) (by rw [arrV_size]; exact km_inn h0 hn) (arrV_read _ _ hn) rfl rfl hd k0
      · cases h
    · cases h
  · -- laload
    split at h
    · rename_i i a r
      split at h
      · rename_i v hv
        cases h
        obtain ⟨h0, n, f, hL, hn, rfl⟩ := km_ar_s hv
        obtain ⟨hn2, cA, a1, a2, a3⟩ := km_arr w hL (by decide)
        have k0 := k H locs w
        have ea : km_cv (km_ad D) (.ref a) = .ref (km_bs D + a) := by show Value.ref _ = _; rw [km_adr hD w hL]
        unfold km_Go at k0 ⊢
        simp only [List.map_cons, ea] at k0 ⊢
        exact W.lald hx hb a3 (a1 _ _) (fun z => by cases z) (by rw [arrV_size]; exact km_inn h0 hn) (arrV_read _ _ hn) rfl rfl hd k0
      · cases h
    · cases h
  · -- aaload
    split at h
    · rename_i i a r
      split at h
      · rename_i v hv
        cases h
        have hv2 : ∃ kd, (kd = 14 ∨ kd = 15 ∨ kd = 16) ∧ km_ar L a kd i = some v := by
          rcases km_or_s hv with hv | hv
          · exact ⟨14, Or.inl rfl, hv⟩
          · rcases km_or_s hv with hv | hv
            · exact ⟨15, Or.inr (Or.inl rfl), hv⟩
            · exact ⟨16, Or.inr (Or.inr rfl), hv⟩
        obtain ⟨kd, hkd, hv⟩ := hv2
        have hr : (km_aty kd).isReference = true := by rcases hkd with rfl | rfl | rfl <;> rfl
        obtain ⟨h0, n, f, hL, hn, rfl⟩ := km_ar_s hv
        obtain ⟨hn2, cA, a1, a2, a3⟩ := km_arr w hL (by omega)
        have k0 := k H locs w
        have ea : km_cv (km_ad D) (.ref a) = .ref (km_bs D + a) := by show Value.ref _ = _; rw [km_adr hD w hL]
        unfold km_Go at k0 ⊢
        simp only [List.map_cons, ea] at k0 ⊢
        exact W.aald hx hb a3 (a1 _ _) hr (fun z => by cases z) (by rw [arrV_size]; exact km_inn h0 hn) (arrV_read _ _ hn) rfl rfl hd k0
      · cases h
    · cases h
  · -- iastore
    split at h
    · rename_i x i a r
      split at h
      · rename_i L2 hv
        cases h
        obtain ⟨h0, n, f, hL, hn, rfl⟩ := km_aw_s hv
        obtain ⟨hn2, cA, a1, a2, a3⟩ := km_arr w hL (by decide)
        have ea : km_cv (km_ad D) (.ref a) = .ref (km_bs D + a) := by show Value.ref _ = _; rw [km_adr hD w hL]
        unfold km_Go at k ⊢
        simp only [List.map_cons, ea, List.length_set, km_sl_set hL] at k ⊢
        exact W.iast hx hb a3 (a1 _ _) (fun z => by cases z) (by rw [arrV_size]; exact km_inn h0 hn) rfl rfl hd (fun H' e1 e2 e3 => k H' _ (w.wr (km_cellA (by decide) (by decide) hn2 a1 a2 e1) e2 e3 hD.2.2.1))
      · cases h
    · cases h
  · -- bastore
    split at h
    · rename_i x i a r
      split at h
      · rename_i L2 hv
        cases h
        rcases km_or_s hv with hv | hv
        · obtain ⟨h0, n, f, hL, hn, rfl⟩ := km_aw_s hv
          obtain ⟨hn2, cA, a1, a2, a3⟩ := km_arr w hL (by decide)
          have ea : km_cv (km_ad D) (.ref a) = .ref (km_bs D + a) := by show Value.ref _ = _; rw [km_adr hD w hL]
          unfold km_Go at k ⊢
          simp only [List.map_cons, ea, List.length_set, km_sl_set hL] at k ⊢
          exact W.bast hx hb a3 (a1 _ _) (fun z => by cases z) (by rw [arrV_size]; exact km_inn h0 hn) rfl rfl hd (fun H' e1 e2 e3 => k H' _ (w.wr (km_cellA (by decide) (by decide) hn2 a1 a2 e1) e2 e3 hD.2.2.1))
        · obtain ⟨h0, n, f, hL, hn, rfl⟩ := km_aw_s hv
          obtain ⟨hn2, cA, a1, a2, a3⟩ := km_arr w hL (by decide)
          have ea : km_cv (km_ad D) (.ref a) = .ref (km_bs D + a) := by show Value.ref _ = _; rw [km_adr hD w hL]
          unfold km_Go at k ⊢
          simp only [List.map_cons, ea, List.length_set, km_sl_set hL] at k ⊢
          exact W.zast hx hb a3 (a1 _ _) (fun z => by cases z) (by rw [arrV_size]; exact km_inn h0 hn) rfl rfl hd (fun H' e1 e2 e3 => k H' _ (w.wr (km_cellA (by decide) (by decide) hn2 a1 a2 e1) e2 e3 hD.2.2.1))
      · cases h
    · cases h
  · -- lastore
    split at h
    · rename_i x i a r
      split at h
      · rename_i L2 hv
        cases h
        obtain ⟨h0, n, f, hL, hn, rfl⟩ := km_aw_s hv
        obtain ⟨hn2, cA, a1, a2, a3⟩ := km_arr w hL (by decide)
        have ea : km_cv (km_ad D) (.ref a) = .ref (km_bs D + a) := by show Value.ref _ = _; rw [km_adr hD w hL]
        unfold km_Go at k ⊢
        simp only [List.map_cons, ea, List.length_set, km_sl_set hL] at k ⊢
        exact W.last hx hb a3 (a1 _ _) (fun z => by cases z) (by rw [arrV_size]; exact km_inn h0 hn) rfl rfl hd (fun H' e1 e2 e3 => k H' _ (w.wr (km_cellA (by decide) (by decide) hn2 a1 a2 e1) e2 e3 hD.2.2.1))
      · cases h
    · cases h
  · -- arraylength
    split at h
    · rename_i a r
      rcases km_cb h with ⟨hbq, h⟩ | ⟨-, h⟩
      · have e := km_beq hbq
        subst e
        cases h
        obtain ⟨scr, q1, q2, q3, q4, q5⟩ := w.2.2.2.1
        have k0 := k H locs w
        have ea : km_cv (km_ad D) (.ref km_scr) = .ref (km_b D) := by show Value.ref _ = _; rw [hD.2.1]
        unfold km_Go at k0 ⊢
        simp only [List.map_cons, ea] at k0 ⊢
        exact W.alen (n := Int32.ofNat (km_Lx D)) hx hb q1 q2 (by rw [q4] <;> rfl) rfl rfl hd k0
      · split at h
        · rename_i q hL
          rcases km_cb h with ⟨hbq, h⟩ | ⟨-, h⟩
          · cases h
            rw [Bool.and_eq_true] at hbq
            have hk1 : 10 ≤ q.1 := Nat.le_of_ble_eq_true hbq.1
            obtain ⟨hn2, cA, a1, a2, a3⟩ := km_arr (k := q.1) (n := q.2.1) (f := q.2.2) w hL hk1
            have k0 := k H locs w
            have ea : km_cv (km_ad D) (.ref a) = .ref (km_bs D + a) := by show Value.ref _ = _; rw [km_adr hD w hL]
            unfold km_Go at k0 ⊢
            simp only [List.map_cons, ea] at k0 ⊢
            exact W.alen (n := Int32.ofNat q.2.1) hx hb a3 (a1 _ _) (by rw [arrV_size] <;> rfl) rfl rfl hd k0
          · cases h
        · cases h
    · cases h
  · -- getfield
    split at h
    · rename_i a r kk jj pl hf
      split at h
      · rename_i v hv
        cases h
        obtain ⟨n, f, hL, hn, rfl⟩ := km_rd_s hv
        have hk := (km_fld hf).1
        obtain ⟨hc1, hc2⟩ := (w.1 a _ hL).1 hk
        have k0 := k H locs w
        have ea : km_cv (km_ad D) (.ref a) = .ref (km_bs D + a) := by show Value.ref _ = _; rw [km_adr hD w hL]
        unfold km_Go at k0 ⊢
        simp only [List.map_cons, ea] at k0 ⊢
        exact km_get hx hb hown hG hf (hK.1 _ hk) hc2 hd k0
      · cases h
    · cases h
  · -- putfield
    split at h
    · rename_i v a r kk jj pl hf
      rcases km_cb h with ⟨hbq, h⟩ | ⟨-, h⟩
      · split at h
        · rename_i L2 hv
          cases h
          rw [Bool.and_eq_true] at hbq
          obtain ⟨n, f, hL, hn, rfl⟩ := km_wr_s hv
          have hk := (km_fld hf).1
          obtain ⟨hc1, hc2⟩ := (w.1 a _ hL).1 hk
          have ea : km_cv (km_ad D) (.ref a) = .ref (km_bs D + a) := by show Value.ref _ = _; rw [km_adr hD w hL]
          have hfn : (km_X kk jj).2.2.2 = false ∨ (meth.name = "<init>" ∧ kk = po) := by
            have h2 := hbq.2
            rw [Bool.or_eq_true, Bool.and_eq_true] at h2
            rcases h2 with h2 | h2
            · exact Or.inl (by simpa using h2)
            · exact Or.inr ⟨hit h2.1, km_beq h2.2⟩
          unfold km_Go at k ⊢
          simp only [List.map_cons, ea, List.length_set, km_sl_set hL] at k ⊢
          exact km_put hx hb hown hG hf (hK.1 _ hk) hc2 hfn (km_fit_s (km_ad D) hbq.1) hd (fun H' x e1 e2 e3 => k H' _ (w.wr ⟨fun _ => ⟨hc1, by rw [km_updV]; exact e1⟩, fun z => absurd hk z⟩ e2 e3 hD.2.2.1))
        · cases h
      · cases h
    · cases h
end KM4

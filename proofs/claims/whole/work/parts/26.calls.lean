/-! the steps: returns, calls, copies, texts, the script -/
section TC
variable {xs : Nat → Int32} {Lx d m pc : Nat} {ls : km_L} {st : List Value} {V : km_V} {Q : Option Value → km_V → Prop} {q : km_Q}
theorem g_iret {x : Int} (hq : km_T[m]? = some q) (hi : km_at q.2.2.2.2.2.2.2 pc = some .ireturn) (hr : q.2.2.2.1 = some .int) (k : Q (some (kI x)) V) : kGo xs Lx d m pc ls [kI x] V Q :=
  g_ret hq hi rfl rfl rfl (fun _ => rfl) (by simp only [km_ret, hr, kI]) k
theorem g_zret {x : Int} (hq : km_T[m]? = some q) (hi : km_at q.2.2.2.2.2.2.2 pc = some .ireturn) (hr : q.2.2.2.1 = some .boolean) (hx : x = 0 ∨ x = 1) (k : Q (some (kI x)) V) : kGo xs Lx d m pc ls [kI x] V Q := by
  refine g_ret hq hi rfl rfl rfl (fun _ => rfl) ?_ k
  rcases hx with rfl | rfl <;> simp only [km_ret, hr, kI] <;> rfl
theorem g_lret {x : Int} (hq : km_T[m]? = some q) (hi : km_at q.2.2.2.2.2.2.2 pc = some .lreturn) (hr : q.2.2.2.1 = some .long) (k : Q (some (kJ x)) V) : kGo xs Lx d m pc ls [kJ x] V Q :=
  g_ret hq hi rfl rfl rfl (fun _ => rfl) (by simp only [km_ret, hr, kJ]) k
theorem g_aret {x : Nat} {nm : String} (hq : km_T[m]? = some q) (hi : km_at q.2.2.2.2.2.2.2 pc = some .areturn) (hr : q.2.2.2.1 = some (.object nm)) (k : Q (some (.ref x)) V) : kGo xs Lx d m pc ls [.ref x] V Q :=
  g_ret hq hi rfl rfl rfl (fun _ => rfl) (by simp only [km_ret, hr]) k
theorem g_vret (hq : km_T[m]? = some q) (hi : km_at q.2.2.2.2.2.2.2 pc = some .return_) (hr : q.2.2.2.1 = none) (k : Q none V) : kGo xs Lx d m pc ls [] V Q :=
  g_ret hq hi rfl rfl rfl (fun _ => rfl) (by simp only [km_ret, hr]) k
theorem g_static (j : Nat) (rest : List Value) {i pl : Nat} {as : List Value} {qj : km_Q} (hq : km_T[m]? = some q) (hi : km_at q.2.2.2.2.2.2.2 pc = some (.invokestatic i)) (hf : km_fF km_I q.2.2.2.2.1 i = some (0, j, pl)) (hqj : km_T[j]? = some qj)
    (h1 : (st.take qj.2.2.2.2.2.1).reverse = as) (h2 : st.drop qj.2.2.2.2.2.1 = rest) (h3 : (Nat.ble qj.2.2.2.2.2.1 st.length && Nat.ble ((rest.map fun v => v.category).sum) 8) = true) (hle : Nat.ble (km_lay as).length qj.2.2.1 = true)
    (k : kGo xs Lx d j 0 (km_ent qj.2.2.1 as) [] V (fun r V' => kGo xs Lx (d + 1) m (pc + 3) ls (r.toList ++ rest) V' Q)) : kGo xs Lx (d + 1) m pc ls st V Q := by
  have ena := (km_po_at hqj).2
  refine g_inv hq hi rfl rfl rfl (fun L => ?_) rfl (fun L _ => ?_) hqj hle k
  · simp only [km_mem, hf]
  · simp only [km_inv, hf, ena, h1, h2, h3, cond_true]
theorem g_virt (j : Nat) (rest : List Value) {i pl a na : Nat} {as As : List Value} {qj : km_Q} (hq : km_T[m]? = some q) (hi : km_at q.2.2.2.2.2.2.2 pc = some (.invokevirtual i)) (hf : km_fF km_I q.2.2.2.2.1 i = some (1, j, pl)) (hqj : km_T[j]? = some qj) (hs : km_sh[a]? = some (qj.2.2.2.2.1, na))
    (h1 : (st.take qj.2.2.2.2.2.1).reverse = as) (h1' : as = .ref a :: As) (h2 : st.drop qj.2.2.2.2.2.1 = rest) (h3 : (Nat.ble qj.2.2.2.2.2.1 st.length && Nat.ble ((rest.map fun v => v.category).sum) 8) = true) (hle : Nat.ble (km_lay as).length qj.2.2.1 = true)
    (k : kGo xs Lx d j 0 (km_ent qj.2.2.1 as) [] V (fun r V' => kGo xs Lx (d + 1) m (pc + 3) ls (r.toList ++ rest) V' Q)) : kGo xs Lx (d + 1) m pc ls st V Q := by
  have ena := (km_po_at hqj).2
  have epo := (km_po_at hqj).1
  subst h1'
  refine g_inv hq hi rfl rfl rfl (fun L => ?_) rfl (fun L hL => ?_) hqj hle k
  · simp only [km_mem, hf]
  · simp only [km_inv, hf, ena, epo, h1, h2, h3, hL.kd hs, cond_true, Bool.and_true]
theorem g_copy (pc' : Nat) {i z pl a b n na nb : Nat} (hq : km_T[m]? = some q) (hi : km_at q.2.2.2.2.2.2.2 pc = some (.invokestatic i)) (e : pc + 3 = pc') (hf : km_fF km_I q.2.2.2.2.1 i = some (5, z, pl)) (ha : km_sh[a]? = some (11, na)) (hb : km_sh[b]? = some (11, nb)) (h1 : n ≤ na) (h2 : n ≤ nb) (h3 : ((st.map fun v => v.category).sum ≤ 8))
    (k : ∀ V' : km_V, (∀ j, j < n → V' b j = V a j) → (∀ c j, ¬ (c = b ∧ j < n) → V' c j = V c j) → kGo xs Lx d m pc' ls st V' Q) : kGo xs Lx d m pc ls (kI n :: kI 0 :: .ref b :: kI 0 :: .ref a :: st) V Q := by
  subst e
  have hn : n < 10000 := by have := km_sh_n ha; omega
  refine g_mem (V1 := fun c j => if c = b ∧ j < n then V a j else V c j) hq hi rfl rfl rfl (fun L hL => ?_) (k _ (fun j hj => if_pos ⟨rfl, hj⟩) (fun c j h => if_neg h))
  obtain ⟨f, f1, f2⟩ := hL.2 a 11 na ha
  obtain ⟨g, g1, g2⟩ := hL.2 b 11 nb hb
  have e0 : (Int32.ofInt (0 : Int)).toNatClampNeg = 0 := rfl
  have en : (Int32.ofInt (n : Int)).toNatClampNeg = n := by
    show (Int32.ofInt (n : Int)).toInt.toNat = _
    rw [k32 (by omega)]
    omega
  have l0 : ¬ Int32.ofInt (0 : Int) < 0 := by decide
  have ln : ¬ Int32.ofInt (n : Int) < 0 := fun z => by
    have := (k32_lt (x := n) (y := 0) (by omega) (by omega)).mp z
    omega
  refine ⟨L.set b (11, nb, km_cpy f g 0 0 n), ?_, ?_⟩
  · simp only [km_mem, kI, hf, f1, g1, e0, en]
    rw [if_pos]
    refine ⟨rfl, rfl, l0, l0, ln, by omega, by omega, h3, ?_⟩
    refine List.all_eq_true.mpr fun j hj => ?_
    have hj := List.mem_range.mp hj
    rw [f2 _ (by omega), km_vlI (k := 11) _ rfl]
    rfl
  · refine ⟨by rw [List.length_set]; exact hL.1, fun c kc nc hc => ?_⟩
    by_cases hcb : b = c
    · subst hcb
      rw [hb] at hc
      cases hc
      refine ⟨_, by rw [List.getElem?_set_self (km_lt g1)], fun j hj => ?_⟩
      unfold km_cpy
      by_cases hjn : j < n
      · rw [if_pos ⟨Nat.zero_le _, by omega⟩, f2 _ (by omega), km_vlI (k := 11) _ rfl, km_vlI (k := 11) _ rfl]
        dsimp only
        rw [if_pos ⟨rfl, hjn⟩, show 0 + (j - 0) = j by omega]
      · rw [if_neg (fun z => hjn (by omega))]
        dsimp only
        rw [if_neg (fun z : b = b ∧ j < n => hjn z.2)]
        exact g2 j hj
    · obtain ⟨h, h1, h2⟩ := hL.2 c kc nc hc
      refine ⟨h, by rw [List.getElem?_set_ne hcb]; exact h1, fun j hj => ?_⟩
      dsimp only
      rw [if_neg (fun z : c = b ∧ j < n => hcb z.1.symm)]
      exact h2 j hj
theorem g_slen (pc' w : Nat) {i z pl : Nat} (hq : km_T[m]? = some q) (hi : km_at q.2.2.2.2.2.2.2 pc = some (.invokevirtual i)) (e : pc + 3 = pc') (hf : km_fF km_I q.2.2.2.2.1 i = some (6, z, pl)) (hw : w < 4) (h3 : Nat.ble ((st.map fun v => v.category).sum) 8 = true)
    (k : kGo xs Lx d m pc' ls (kI ((km_tx w).length : Nat) :: st) V Q) : kGo xs Lx d m pc ls (.ref (1000001 + w) :: st) V Q := by
  subst e
  refine g_mem hq hi rfl rfl rfl (fun L hL => ⟨L, ?_, hL⟩) k
  have h1 : Nat.blt km_scr (1000001 + w) = true := Nat.ble_eq_true_of_le (by unfold km_scr; omega)
  have h2 : Nat.blt (1000001 + w) 1000005 = true := Nat.ble_eq_true_of_le (by omega)
  simp only [km_mem, hf, h1, h2, h3, Bool.and_true, cond_true, kI, Int32.ofInt_eq_ofNat, Nat.add_sub_cancel_left]
theorem g_char (pc' w b : Nat) {x : Int} {i z pl : Nat} (hq : km_T[m]? = some q) (hi : km_at q.2.2.2.2.2.2.2 pc = some (.invokevirtual i)) (e : pc + 3 = pc') (hf : km_fF km_I q.2.2.2.2.1 i = some (7, z, pl)) (hw : w < 4) (h3 : Nat.ble ((st.map fun v => v.category).sum) 8 = true) (hx : 0 ≤ x ∧ x ≤ 100) (hb : (km_tx w)[x.toNat]? = some b)
    (k : kGo xs Lx d m pc' ls (kI (b : Nat) :: st) V Q) : kGo xs Lx d m pc ls (kI x :: .ref (1000001 + w) :: st) V Q := by
  subst e
  refine g_mem hq hi rfl rfl rfl (fun L hL => ⟨L, ?_, hL⟩) k
  have h1 : Nat.blt km_scr (1000001 + w) = true := Nat.ble_eq_true_of_le (by unfold km_scr; omega)
  have h2 : Nat.blt (1000001 + w) 1000005 = true := Nat.ble_eq_true_of_le (by omega)
  have h0 : ¬ Int32.ofInt x < 0 := fun z => by
    have := (k32_lt (x := x) (y := 0) (by omega) (by omega)).mp z
    omega
  have h4 : (Int32.ofInt x).toNatClampNeg = x.toNat := by
    show (Int32.ofInt x).toInt.toNat = _
    rw [k32 (by omega)]
  simp only [km_mem, kI, hf, h1, h2, h3, Bool.and_true, cond_true, if_neg h0, h4, Nat.add_sub_cancel_left, hb, Int32.ofInt_eq_ofNat]
theorem g_script (pc' : Nat) {x : Int} (hq : km_T[m]? = some q) (hi : km_at q.2.2.2.2.2.2.2 pc = some .iaload) (e : pc + 1 = pc') (hx : 0 ≤ x ∧ x < Lx) (hL : Lx ≤ 10000) (kk : kGo xs Lx d m pc' ls (kI (xs x.toNat).toInt :: st) V Q) : kGo xs Lx d m pc ls (kI x :: .ref km_scr :: st) V Q := by
  subst e
  refine g_mem hq hi rfl rfl rfl (fun L hL => ⟨L, ?_, hL⟩) kk
  have h0 : ¬ Int32.ofInt x < 0 := fun z => by
    have := (k32_lt (x := x) (y := 0) (by omega) (by omega)).mp z
    omega
  have h4 : (Int32.ofInt x).toNatClampNeg = x.toNat := by
    show (Int32.ofInt x).toInt.toNat = _
    rw [k32 (by omega)]
  have h5 : ¬ (Int32.ofInt x < 0 ∨ Lx ≤ x.toNat) := fun z => z.elim h0 (fun z => by omega)
  simp only [km_mem, kI, Nat.beq_refl, cond_true, h4, if_neg h5, Int32.ofInt_toInt]
theorem g_scrlen (pc' : Nat) (hq : km_T[m]? = some q) (hi : km_at q.2.2.2.2.2.2.2 pc = some .arraylength) (e : pc + 1 = pc') (kk : kGo xs Lx d m pc' ls (kI Lx :: st) V Q) : kGo xs Lx d m pc ls (.ref km_scr :: st) V Q := by
  subst e
  refine g_mem hq hi rfl rfl rfl (fun L hL => ⟨L, ?_, hL⟩) kk
  simp only [km_mem, Nat.beq_refl, cond_true, kI, Int32.ofInt_eq_ofNat]
theorem g_switch (t : Nat) {dflt lo hi : Int} {offs : Array Int} {x : Int} (hq : km_T[m]? = some q) (hi' : km_at q.2.2.2.2.2.2.2 pc = some (.tableswitch dflt lo hi offs)) (hx : -2147483648 ≤ x ∧ x ≤ 2147483647) (h : (if x < lo ∨ hi < x then km_tg pc dflt else match offs[(x - lo).toNat]? with | some off => km_tg pc off | none => none) = some t) (k : kGo xs Lx d m t ls st V Q) : kGo xs Lx d m pc ls (kI x :: st) V Q := by
  refine g_jmp hq hi' rfl rfl ?_ k
  simp only [km_jmp, kI, k32 hx]
  by_cases h1 : x < lo ∨ hi < x
  · rw [if_pos h1] at h ⊢
    rw [h]
  · rw [if_neg h1] at h ⊢
    split at h
    · rename_i off ho
      rw [ho]
      dsimp only
      rw [h]
    · cases h
end TC
theorem km_Le.nil : km_Le [] [] := ⟨rfl, fun _ _ h => by cases h⟩
theorem km_Le.n {a : Option Value} {l l' : km_L} (h : km_Le l l') : km_Le (none :: l) (a :: l') := ⟨by simp [h.1], fun i v hv => by
  cases i with
  | zero => cases Option.some.inj hv
  | succ i => exact h.2 i v hv⟩
theorem km_Le.s {a : Value} {l l' : km_L} (h : km_Le l l') : km_Le (some a :: l) (some a :: l') := ⟨by simp [h.1], fun i v hv => by
  cases i with
  | zero => exact hv
  | succ i => exact h.2 i v hv⟩
abbrev kR (x : Int) : Prop := -2147483648 ≤ x ∧ x ≤ 2147483647
abbrev kR64 (x : Int) : Prop := -9223372036854775808 ≤ x ∧ x ≤ 9223372036854775807
/-- a call that answers an int, a long, nothing -/
def kCI (xs : Nat → Int32) (Lx d j mx : Nat) (as : List Value) (V : km_V) (K : Int → km_V → Prop) : Prop := kGo xs Lx d j 0 (km_ent mx as) [] V (fun r V' => ∃ x, r = some (kI x) ∧ K x V')
def kCJ (xs : Nat → Int32) (Lx d j mx : Nat) (as : List Value) (V : km_V) (K : Int → km_V → Prop) : Prop := kGo xs Lx d j 0 (km_ent mx as) [] V (fun r V' => ∃ x, r = some (kJ x) ∧ K x V')
def kCV (xs : Nat → Int32) (Lx d j mx : Nat) (as : List Value) (V : km_V) (K : km_V → Prop) : Prop := kGo xs Lx d j 0 (km_ent mx as) [] V (fun r V' => r = none ∧ K V')
/-! addresses that are variables: rows, drawings, brackets -/
theorem km_sh_len : km_sh.length = 335 := by decide +kernel
theorem sh_lt {r : Nat} {z : Nat × Nat} (h : km_sh[r]? = some z) : r < 335 := by
  rw [← km_sh_len]
  exact (List.getElem?_eq_some_iff.mp h).1
theorem shR2 {r : Nat} (h : km_sh[r]? = some (5, 5)) : km_sh[r + 1]? = some (11, 5) := (by decide +kernel : ∀ r : Nat, r < 335 → km_sh[r]? = some (5, 5) → km_sh[r + 1]? = some (11, 5)) r (sh_lt h) h
theorem rfR2 {r : Nat} (h : km_sh[r]? = some (5, 5)) : km_rf r 2 = r + 1 := by simp only [km_rf, h]
theorem shR3 {r : Nat} (h : km_sh[r]? = some (5, 5)) : km_sh[r + 2]? = some (11, 16) := (by decide +kernel : ∀ r : Nat, r < 335 → km_sh[r]? = some (5, 5) → km_sh[r + 2]? = some (11, 16)) r (sh_lt h) h
theorem rfR3 {r : Nat} (h : km_sh[r]? = some (5, 5)) : km_rf r 3 = r + 2 := by simp only [km_rf, h]
theorem shR4 {r : Nat} (h : km_sh[r]? = some (5, 5)) : km_sh[r + 3]? = some (11, 8) := (by decide +kernel : ∀ r : Nat, r < 335 → km_sh[r]? = some (5, 5) → km_sh[r + 3]? = some (11, 8)) r (sh_lt h) h
theorem rfR4 {r : Nat} (h : km_sh[r]? = some (5, 5)) : km_rf r 4 = r + 3 := by simp only [km_rf, h]
theorem shD0 {r : Nat} (h : km_sh[r]? = some (2, 11)) : km_sh[r + 1]? = some (11, 16) := (by decide +kernel : ∀ r : Nat, r < 335 → km_sh[r]? = some (2, 11) → km_sh[r + 1]? = some (11, 16)) r (sh_lt h) h
theorem rfD0 {r : Nat} (h : km_sh[r]? = some (2, 11)) : km_rf r 0 = r + 1 := by simp only [km_rf, h]; rfl
theorem shD1 {r : Nat} (h : km_sh[r]? = some (2, 11)) : km_sh[r + 2]? = some (11, 16) := (by decide +kernel : ∀ r : Nat, r < 335 → km_sh[r]? = some (2, 11) → km_sh[r + 2]? = some (11, 16)) r (sh_lt h) h
theorem rfD1 {r : Nat} (h : km_sh[r]? = some (2, 11)) : km_rf r 1 = r + 2 := by simp only [km_rf, h]; rfl
theorem shD2 {r : Nat} (h : km_sh[r]? = some (2, 11)) : km_sh[r + 3]? = some (11, 16) := (by decide +kernel : ∀ r : Nat, r < 335 → km_sh[r]? = some (2, 11) → km_sh[r + 3]? = some (11, 16)) r (sh_lt h) h
theorem rfD2 {r : Nat} (h : km_sh[r]? = some (2, 11)) : km_rf r 2 = r + 3 := by simp only [km_rf, h]; rfl
theorem shD3 {r : Nat} (h : km_sh[r]? = some (2, 11)) : km_sh[r + 4]? = some (11, 8) := (by decide +kernel : ∀ r : Nat, r < 335 → km_sh[r]? = some (2, 11) → km_sh[r + 4]? = some (11, 8)) r (sh_lt h) h
theorem rfD3 {r : Nat} (h : km_sh[r]? = some (2, 11)) : km_rf r 3 = r + 4 := by simp only [km_rf, h]; rfl
theorem shD4 {r : Nat} (h : km_sh[r]? = some (2, 11)) : km_sh[r + 5]? = some (11, 8) := (by decide +kernel : ∀ r : Nat, r < 335 → km_sh[r]? = some (2, 11) → km_sh[r + 5]? = some (11, 8)) r (sh_lt h) h
theorem rfD4 {r : Nat} (h : km_sh[r]? = some (2, 11)) : km_rf r 4 = r + 5 := by simp only [km_rf, h]; rfl
theorem shD5 {r : Nat} (h : km_sh[r]? = some (2, 11)) : km_sh[r + 6]? = some (11, 32) := (by decide +kernel : ∀ r : Nat, r < 335 → km_sh[r]? = some (2, 11) → km_sh[r + 6]? = some (11, 32)) r (sh_lt h) h
theorem rfD5 {r : Nat} (h : km_sh[r]? = some (2, 11)) : km_rf r 5 = r + 6 := by simp only [km_rf, h]; rfl
theorem shD6 {r : Nat} (h : km_sh[r]? = some (2, 11)) : km_sh[r + 7]? = some (11, 32) := (by decide +kernel : ∀ r : Nat, r < 335 → km_sh[r]? = some (2, 11) → km_sh[r + 7]? = some (11, 32)) r (sh_lt h) h
theorem rfD6 {r : Nat} (h : km_sh[r]? = some (2, 11)) : km_rf r 6 = r + 7 := by simp only [km_rf, h]; rfl
theorem shD8 {r : Nat} (h : km_sh[r]? = some (2, 11)) : km_sh[r + 8]? = some (11, 32) := (by decide +kernel : ∀ r : Nat, r < 335 → km_sh[r]? = some (2, 11) → km_sh[r + 8]? = some (11, 32)) r (sh_lt h) h
theorem rfD8 {r : Nat} (h : km_sh[r]? = some (2, 11)) : km_rf r 8 = r + 8 := by simp only [km_rf, h]; rfl
theorem shD9 {r : Nat} (h : km_sh[r]? = some (2, 11)) : km_sh[r + 9]? = some (11, 33) := (by decide +kernel : ∀ r : Nat, r < 335 → km_sh[r]? = some (2, 11) → km_sh[r + 9]? = some (11, 33)) r (sh_lt h) h
theorem rfD9 {r : Nat} (h : km_sh[r]? = some (2, 11)) : km_rf r 9 = r + 9 := by simp only [km_rf, h]; rfl
theorem shD10 {r : Nat} (h : km_sh[r]? = some (2, 11)) : km_sh[r + 10]? = some (11, 32) := (by decide +kernel : ∀ r : Nat, r < 335 → km_sh[r]? = some (2, 11) → km_sh[r + 10]? = some (11, 32)) r (sh_lt h) h
theorem rfD10 {r : Nat} (h : km_sh[r]? = some (2, 11)) : km_rf r 10 = r + 10 := by simp only [km_rf, h]; rfl
theorem shB0 {r : Nat} (h : km_sh[r]? = some (1, 3)) : km_sh[r + 1]? = some (11, 121) := (by decide +kernel : ∀ r : Nat, r < 335 → km_sh[r]? = some (1, 3) → km_sh[r + 1]? = some (11, 121)) r (sh_lt h) h
theorem rfB0 {r : Nat} (h : km_sh[r]? = some (1, 3)) : km_rf r 0 = r + 1 := by simp only [km_rf, h]
theorem shB1 {r : Nat} (h : km_sh[r]? = some (1, 3)) : km_sh[r + 2]? = some (11, 117) := (by decide +kernel : ∀ r : Nat, r < 335 → km_sh[r]? = some (1, 3) → km_sh[r + 2]? = some (11, 117)) r (sh_lt h) h
theorem rfB1 {r : Nat} (h : km_sh[r]? = some (1, 3)) : km_rf r 1 = r + 2 := by simp only [km_rf, h]
theorem shXP {x : Int} (h : 0 ≤ x ∧ x < (40 : Nat)) : km_sh[47 + 4 * x.toNat]? = some (5, 5) := by
  have h1 : ∀ i, i < 40 → km_sh[47 + 4 * i]? = some (5, 5) := by decide +kernel
  exact h1 _ (by omega)
theorem shXS {x : Int} (h : 0 ≤ x ∧ x < (3 : Nat)) : km_sh[287 + 4 * x.toNat]? = some (5, 5) := by
  have h1 : ∀ i, i < 3 → km_sh[287 + 4 * i]? = some (5, 5) := by decide +kernel
  exact h1 _ (by omega)
theorem shXL {x : Int} (h : 0 ≤ x ∧ x < (4 : Nat)) : km_sh[227 + 15 * x.toNat]? = some (5, 5) := by
  have h1 : ∀ i, i < 4 → km_sh[227 + 15 * i]? = some (5, 5) := by decide +kernel
  exact h1 _ (by omega)
theorem shXM {x : Int} (h : 0 ≤ x ∧ x < (4 : Nat)) : km_sh[231 + 15 * x.toNat]? = some (2, 11) := by
  have h1 : ∀ i, i < 4 → km_sh[231 + 15 * i]? = some (2, 11) := by decide +kernel
  exact h1 _ (by omega)
theorem shXA {x : Int} (h : 0 ≤ x ∧ x < (8 : Nat)) : km_sh[31 + 1 * x.toNat]? = some (12, 12) := by
  have h1 : ∀ i, i < 8 → km_sh[31 + 1 * i]? = some (12, 12) := by decide +kernel
  exact h1 _ (by omega)

/-! the machine follows: makings, copies, Object's constructor -/
theorem km_cv_def (ad : Nat → Nat) (ty : FieldType) : km_cv ad (defaultValue ty) = defaultValue ty := by cases ty <;> rfl
theorem km_kd_s {L : km_M} {a k : Nat} (h : km_kd L a k = true) : ∃ n f, L[a]? = some (k, n, f) := by
  unfold km_kd at h
  split at h
  · rename_i q hq
    have e := km_beq h
    subst e
    exact ⟨q.2.1, q.2.2, hq⟩
  · cases h
theorem km_new_s {L L' : km_M} {r st' : List Value} {k n : Nat} {v : Nat → Value} (h : km_new L r k n v = some (st', L')) : L.length + 100 < km_scr ∧ st' = .ref L.length :: r ∧ L' = L ++ [(k, n, v)] := by
  unfold km_new at h
  rcases km_cb h with ⟨hb, h2⟩ | ⟨-, h2⟩
  · cases h2
    exact ⟨Nat.le_of_ble_eq_true hb, rfl, rfl⟩
  · cases h2
theorem km_sl_app {L K : km_M} : km_sl (L ++ K) = km_sl L + km_sl K := by
  unfold km_sl
  rw [List.map_append, List.sum_append]
theorem km_sl_one {q : km_C} : km_sl [q] = q.2.1 := by simp [km_sl]
theorem km_Wd.wrL {D : km_D} {s : State} {H0 H H1 : Heap} {L : km_M} {locs K : List Loc} {a : Nat} {q : km_C} (w : km_Wd D s H0 H L locs) (hq : km_cell D s q (km_bs D + a) H1) (hz : H1.size = H.size) (ho : ∀ x : Nat, x ≠ km_bs D + a → H1[x]? = H[x]?) (hb : km_b D < km_bs D) (hK : ∀ x ∈ K, x.base = km_bs D + a) : km_Wd D s H0 H1 (L.set a q) (locs ++ K) := by
  obtain ⟨w1, w2, w3, w4, w5, w6, w7⟩ := w.wr (x := 0) hq hz ho hb
  refine ⟨w1, w2, w3, w4, w5, w6, fun y hy => ?_⟩
  rcases List.mem_append.mp hy with h | h
  · exact w.2.2.2.2.2.2 y h
  · rw [hK y h]; exact Nat.le_add_right _ _
section KM5
variable {p : Program} {l : Launch} {e : Env} {R : Room} {s : State} {m : MethodId} {args : Array Value} {below : List Frame} {meth : Method} {c : Code} {H : Heap} {locs : List Loc} {cells slots : Nat} {Q : State → Prop}
variable {cc : ByteArray} {pc nL : Nat} {LS : Array Slot} {po : Nat} {D : km_D}
theorem km_newarr (X : km_Cx D p s m args c cc nL po) {L : km_M} {H0 : Heap} {c0 s0 kd : Nat} (w : km_Wd D s H0 H L locs) (hc0 : c0 ≤ L.length) (hs0 : s0 ≤ km_sl L)
    {t : ArrayType} {n : Int32} {r : List Value} {v : Value} (hw : Cond.arrayClass (newarray.typeOf t) ∈ km_G) (hty : newarray.typeOf t = km_aty kd) (hkd : 10 ≤ kd ∧ kd < 14) (hv : km_cv (km_ad D) v = defaultValue (newarray.typeOf t)) (hn : ¬ (n < 0 ∨ 60000000 < n.toNatClampNeg)) (hL : L.length < km_scr)
    (hcb : componentBytes (newarray.typeOf t) ≤ 8) (hR : L.length + 1 - c0 ≤ R.cells ∧ km_sl L + n.toNatClampNeg - s0 ≤ R.slots) (hd : decode cc pc = .ok (.newarray t, 2))
    (k : ∀ H' : Heap, km_Wd D s H0 H' (L ++ [(kd, n.toNatClampNeg, fun _ => v)]) locs → km_Go p l e R s m args below meth c D H' locs (L ++ [(kd, n.toNatClampNeg, fun _ => v)]) c0 s0 Q (pc + 2) LS (.ref L.length :: r)) : km_Go p l e R s m args below meth c D H locs L c0 s0 Q pc LS (.int n :: r) := by
  obtain ⟨hx, hb, hml, hown, hG, hK, hD⟩ := X
  have h1 : ¬ n < 0 := fun z => hn (Or.inl z)
  have h2 : n.toNatClampNeg ≤ 60000000 := Nat.not_lt.mp fun z => hn (Or.inr z)
  unfold km_Go
  refine va_newaK hx hb (hG _ hw) rfl hd rfl h1 rfl ?_ ?_ ?_ w.2.1 (fun H' cA e1 e2 e3 hA hN => ?_)
  · exact Nat.le_trans (Nat.mul_le_mul h2 hcb) (by decide)
  · omega
  · omega
  · have hcell : km_cell D s (kd, n.toNatClampNeg, fun _ => v) H.size H' := by
      refine ⟨fun z => absurd z (by show ¬ kd < 10; omega), fun _ => ⟨by show kd < 17; omega, by show n.toNatClampNeg < _; omega, cA, ?_, ?_, ?_⟩⟩
      · show ArrOfT s cA (km_aty kd)
        rw [← hty]; exact hA
      · show va_RA s cA (km_aty kd)
        rw [← hty]
        cases t <;> exact hN
      · rw [w.2.1, e1]
        congr 1
        congr 1
        funext j
        exact hv.symm
    have k0 := k H' (w.push hL hcell (by rw [e2, w.2.1]) (fun q hq => e3 q (by rw [← w.2.1]; exact hq)) hD.2.2.1)
    unfold km_Go at k0
    have ea : km_cv (km_ad D) (.ref L.length) = .ref (km_bs D + L.length) := by show Value.ref _ = _; rw [hD.1 _ hL]
    simp only [List.map_cons, ea, List.length_append, List.length_singleton, km_sl_app, km_sl_one] at k0
    rw [show L.length - c0 + 1 = L.length + 1 - c0 by omega, show km_sl L - s0 + n.toNatClampNeg = km_sl L + n.toNatClampNeg - s0 by omega]
    exact k0
theorem km_newobj (X : km_Cx D p s m args c cc nL po) {L : km_M} {H0 : Heap} {c0 s0 kk : Nat} (w : km_Wd D s H0 H L locs) (hc0 : c0 ≤ L.length) (hs0 : s0 ≤ km_sl L)
    {i pl z : Nat} {r : List Value} (hf : km_fF km_W5 po i = some (kk, z, pl)) (hk : kk < 10) (hL : L.length < km_scr)
    (hR : L.length + 1 - c0 ≤ R.cells ∧ km_sl L + km_N kk - s0 ≤ R.slots) (hd : decode cc pc = .ok (.new i, 3))
    (k : ∀ H' : Heap, km_Wd D s H0 H' (L ++ [(kk, km_N kk, fun j => defaultValue (km_Ty kk j))]) locs → km_Go p l e R s m args below meth c D H' locs (L ++ [(kk, km_N kk, fun j => defaultValue (km_Ty kk j))]) c0 s0 Q (pc + 3) LS (.ref L.length :: r)) : km_Go p l e R s m args below meth c D H locs L c0 s0 Q pc LS r := by
  obtain ⟨hx, hb, hml, hown, hG, hK, hD⟩ := X
  have h1 := List.all_eq_true.mp km_W_ok _ (km_fF_mem hf)
  unfold km_okW at h1
  have h2 : Nat.blt kk 10 = true := Nat.ble_eq_true_of_le hk
  rw [show Nat.blt (po, i, kk, z, pl).2.2.1 10 = true from h2] at h1
  have hw := km_gw_s h1
  obtain ⟨hc1, hc2⟩ := km_C_at hk
  have hKn := hK.1 kk hk
  unfold km_Go
  refine W.newcK hx hb hown (hG _ hw) (hG _ hc1) (hG _ hc2) rfl hd ?_ ?_ hKn.2.1 w.2.1 (fun H' kC e0 e1 e2 e3 => ?_)
  · omega
  · omega
  · have hcell : km_cell D s (kk, km_N kk, fun j => defaultValue (km_Ty kk j)) H.size H' := by
      refine ⟨fun _ => ⟨rfl, ?_⟩, fun z => absurd hk z⟩
      have hbn := u_born (km_Ty kk) hG (km_uin hk) hKn e0 e1 (km_tyok hk)
      rw [w.2.1]
      have he : (fun j => km_cv (km_ad D) (defaultValue (km_Ty kk j))) = fun j => defaultValue (km_Ty kk j) := funext fun j => km_cv_def _ _
      show t_OB _ _ _ _ _ (fun j => km_cv (km_ad D) (defaultValue (km_Ty kk j)))
      rw [he]
      exact hbn
    have k0 := k H' (w.push hL hcell (by rw [e2, w.2.1]) (fun q hq => e3 q (by rw [← w.2.1]; exact hq)) hD.2.2.1)
    unfold km_Go at k0
    have ea : km_cv (km_ad D) (.ref L.length) = .ref (km_bs D + L.length) := by show Value.ref _ = _; rw [hD.1 _ hL]
    simp only [List.map_cons, ea, List.length_append, List.length_singleton, km_sl_app, km_sl_one] at k0
    rw [show L.length - c0 + 1 = L.length + 1 - c0 by omega, show km_sl L - s0 + km_N kk = km_sl L + km_N kk - s0 by omega]
    exact k0
theorem km_newref (X : km_Cx D p s m args c cc nL po) {L : km_M} {H0 : Heap} {c0 s0 kk kd : Nat} (w : km_Wd D s H0 H L locs) (hc0 : c0 ≤ L.length) (hs0 : s0 ≤ km_sl L)
    {i pl z : Nat} {n : Int32} {r : List Value} (hf : km_fF km_W5 po i = some (kk, z, pl)) (hk : kk < 10) (hty : km_aty kd = .object (km_R kk)) (hkd : 10 ≤ kd ∧ kd < 17) (hAO : va_AO (km_R kk) s) (hn : ¬ (n < 0 ∨ 60000000 < n.toNatClampNeg)) (hL : L.length < km_scr)
    (hR : L.length + 1 - c0 ≤ R.cells ∧ km_sl L + n.toNatClampNeg - s0 ≤ R.slots) (hd : decode cc pc = .ok (.anewarray i, 3))
    (k : ∀ H' : Heap, km_Wd D s H0 H' (L ++ [(kd, n.toNatClampNeg, fun _ => .null)]) locs → km_Go p l e R s m args below meth c D H' locs (L ++ [(kd, n.toNatClampNeg, fun _ => .null)]) c0 s0 Q (pc + 3) LS (.ref L.length :: r)) : km_Go p l e R s m args below meth c D H locs L c0 s0 Q pc LS (.int n :: r) := by
  obtain ⟨hx, hb, hml, hown, hG, hK, hD⟩ := X
  have h1 : ¬ n < 0 := fun z => hn (Or.inl z)
  have h2 : n.toNatClampNeg ≤ 60000000 := Nat.not_lt.mp fun z => hn (Or.inr z)
  have h3 := List.all_eq_true.mp km_W_ok _ (km_fF_mem hf)
  unfold km_okW at h3
  have h4 : Nat.blt kk 10 = true := Nat.ble_eq_true_of_le hk
  rw [show Nat.blt (po, i, kk, z, pl).2.2.1 10 = true from h4] at h3
  have hw := km_gw_s h3
  unfold km_Go
  refine W.anew hx hb hown (hG _ hw) (va_AO.use hAO) rfl hd rfl h1 (by omega) (by omega) (by omega) (fun cA kA comp f1 f2 f3 f4 => ?_)
  generalize hH1 : H.push ({ cls := cA, slots := Array.replicate n.toNatClampNeg .null, vm := .none } : Cell) = H1
  have z1 : H1.size = H.size + 1 := by rw [← hH1, Array.size_push]
  have e1 : H1[H.size]? = some (arrV cA n.toNatClampNeg (fun _ => .null)) := by rw [← hH1, Array.getElem?_push_size, ← arrV_new]
  have o1 : ∀ q : Nat, q < H.size → H1[q]? = H[q]? := fun q hq => by rw [← hH1, Array.getElem?_push, if_neg (Nat.ne_of_lt hq)]
  have hAr : ArrOfT s cA (.object (km_R kk)) := fun N z => ⟨(fun k h => by cases h), kA, f2, comp, f3⟩
  have hcell : km_cell D s (kd, n.toNatClampNeg, fun _ => .null) H.size H1 := by
    refine ⟨fun z => absurd z (by show ¬ kd < 10; omega), fun _ => ⟨by show kd < 17; omega, by show n.toNatClampNeg < _; omega, cA, ?_, ?_, ?_⟩⟩
    · show ArrOfT s cA (km_aty kd)
      rw [hty]; exact hAr
    · show va_RA s cA (km_aty kd)
      rw [hty]
      exact ⟨kA, comp, f2, f3, f4, f1⟩
    · exact e1
  have k0 := k H1 (w.push hL hcell z1 o1 hD.2.2.1)
  unfold km_Go at k0
  have ea : km_cv (km_ad D) (.ref L.length) = .ref (km_bs D + L.length) := by show Value.ref _ = _; rw [hD.1 _ hL]
  simp only [List.map_cons, ea, List.length_append, List.length_singleton, km_sl_app, km_sl_one] at k0
  rw [show L.length - c0 + 1 = L.length + 1 - c0 by omega, show km_sl L - s0 + n.toNatClampNeg = km_sl L + n.toNatClampNeg - s0 by omega, w.2.1]
  exact k0
theorem km_assign {U : State} {C : String} {T : u_T} {N : Nat} {cC : ClassId} {iS : Nat → Nat} (h : u_Kn U C T N cC iS) : U.vm.assignable cC cC = true := va_assign h.2
theorem km_aast (X : km_Cx D p s m args c cc nL po) {L L' : km_M} {H0 : Heap} {c0 s0 kd kk : Nat} (w : km_Wd D s H0 H L locs)
    {i : Int32} {a x : Nat} {r : List Value} (hk : kk < 10) (hkd : 10 ≤ kd) (hkd2 : kd < 17) (hty : km_aty kd = .object (km_R kk)) (hx1 : km_kd L x kk = true) (hv : km_aw L a kd i (.ref x) = some L') (hd : decode cc pc = .ok (.aastore, 1))
    (k : ∀ (H' : Heap) (locs' : List Loc), km_Wd D s H0 H' L' locs' → km_Go p l e R s m args below meth c D H' locs' L' c0 s0 Q (pc + 1) LS r) : km_Go p l e R s m args below meth c D H locs L c0 s0 Q pc LS (.ref x :: .int i :: .ref a :: r) := by
  obtain ⟨hx, hb, hml, hown, hG, hK, hD⟩ := X
  obtain ⟨h0, n, f, hL, hn, rfl⟩ := km_aw_s hv
  obtain ⟨nx, fx, hLx⟩ := km_kd_s hx1
  obtain ⟨hn2, cA, a1, a2, a3⟩ := km_arr w hL hkd
  obtain ⟨-, cellV, g1, g2, g3, -⟩ := (w.1 x _ hLx).1 hk
  have hKn := hK.1 kk hk
  have a2' := a2
  rw [hty] at a2'
  obtain ⟨kA, comp, k1, k2, k3, -⟩ := a2'
  have hcomp : comp = km_dC D kk := Option.some.inj (k3.symm.trans hKn.2.1)
  subst hcomp
  obtain ⟨kC, hkC, -⟩ := hKn.2.2
  have ea : km_cv (km_ad D) (.ref a) = .ref (km_bs D + a) := by show Value.ref _ = _; rw [km_adr hD w hL]
  have ex : km_cv (km_ad D) (.ref x) = .ref (km_bs D + x) := by show Value.ref _ = _; rw [km_adr hD w hLx]
  unfold km_Go at k ⊢
  simp only [List.map_cons, ea, ex, List.length_set, km_sl_set hL] at k ⊢
  refine W.aast hx hb a3 (fun q h => by cases h) (fun h => by cases h) k1 k2 rfl hkC ⟨h0, by show _ < (arrV _ _ _).slots.size; rw [arrV_size]; exact hn⟩ g1 (fun q h => by rw [g3] at h; cases h) (by rw [g2]; exact hkC) (by rw [g2]; exact km_assign hKn) rfl rfl hd fun H1 e1 e2 e3 => ?_
  refine k H1 _ (w.wr (km_cellA (by omega) hkd2 hn2 a1 a2 (by rw [ex]; exact e1)) e2 e3 hD.2.2.1)
theorem km_copy (X : km_Cx D p s m args c cc nL po) (hls : LS.size = nL) {L : km_M} {H0 : Heap} {c0 s0 : Nat} (w : km_Wd D s H0 H L locs) {i pl z : Nat} {sp dp n : Int32} {a b : Nat} {r : List Value} {f g : km_C} (hf : km_fF km_I po i = some (5, z, pl)) (hLa : L[a]? = some f) (hLb : L[b]? = some g)
    (hh : Nat.beq f.1 11 = true ∧ Nat.beq g.1 11 = true ∧ ¬ sp < 0 ∧ ¬ dp < 0 ∧ ¬ n < 0 ∧ sp.toNatClampNeg + n.toNatClampNeg ≤ f.2.1 ∧ dp.toNatClampNeg + n.toNatClampNeg ≤ g.2.1 ∧ ((r.map fun v => v.category).sum ≤ 8) ∧ ((List.range n.toNatClampNeg).all (fun i => km_isI (f.2.2 (sp.toNatClampNeg + i))) = true))
    (hfr : 1 ≤ R.frames) (hlo : 64 ≤ R.locals) (hd : decode cc pc = .ok (.invokestatic i, 3))
    (k : ∀ (H' : Heap) (locs' : List Loc), km_Wd D s H0 H' (L.set b (11, g.2.1, km_cpy f.2.2 g.2.2 sp.toNatClampNeg dp.toNatClampNeg n.toNatClampNeg)) locs' → km_Go p l e R s m args below meth c D H' locs' (L.set b (11, g.2.1, km_cpy f.2.2 g.2.2 sp.toNatClampNeg dp.toNatClampNeg n.toNatClampNeg)) c0 s0 Q (pc + 3) LS r) : km_Go p l e R s m args below meth c D H locs L c0 s0 Q pc LS (.int n :: .int dp :: .ref b :: .int sp :: .ref a :: r) := by
  obtain ⟨hx, hb, hml, hown, hG, hK, hD⟩ := X
  obtain ⟨fk, fn, ff⟩ := f
  obtain ⟨gk, gn, gf⟩ := g
  obtain ⟨e1, e2, h1, h2, h3, h4, h5, h6, h7⟩ := hh
  have e1 := km_beq e1
  have e2 := km_beq e2
  dsimp only at e1 e2 h4 h5 h7
  subst e1; subst e2
  obtain ⟨hn1, c0', a1, a2, a3⟩ := km_arr w hLa (by decide)
  obtain ⟨hn2, c1', b1, b2, b3⟩ := km_arr w hLb (by decide)
  have hI := List.all_eq_true.mp km_I_ok _ (km_fF_mem hf)
  have hlink := km_gw_s (show km_gw pl (.methodLink (km_R po) i arraycopyName) = true from hI)
  have nn : ∀ z : Int32, ¬ z < 0 → z.toInt = (z.toNatClampNeg : Int) := by
    intro z hz
    have hz0 : (0 : Int) ≤ z.toInt := by
      have := Int32.not_lt.mp hz
      simpa using Int32.le_iff_toInt_le.mp this
    show z.toInt = ((z.toInt.toNat : Nat) : Int)
    omega
  have ea : km_cv (km_ad D) (.ref a) = .ref (km_bs D + a) := by show Value.ref _ = _; rw [km_adr hD w hLa]
  have eb : km_cv (km_ad D) (.ref b) = .ref (km_bs D + b) := by show Value.ref _ = _; rw [km_adr hD w hLb]
  unfold km_Go at k ⊢
  simp only [List.map_cons, ea, eb, List.length_set, km_sl_set hLb] at k ⊢
  intro T hT XX
  obtain ⟨-, k0, hk0, cm0, hkk0⟩ := a1 fn (fun j => km_cv (km_ad D) (ff j))
  obtain ⟨-, k1, hk1, cm1, hkk1⟩ := b1 gn (fun j => km_cv (km_ad D) (gf j))
  obtain ⟨vm', X', step⟩ := XX.arraycopy hx hown (hG _ hlink) (hG _ km_cp1) (hG _ km_cp2) (hG _ km_cp3) (src := km_bs D + a) (dst := km_bs D + b) (cs := arrV c0' fn (fun j => km_cv (km_ad D) (ff j))) (cd := arrV c1' gn (fun j => km_cv (km_ad D) (gf j))) (srcPos := sp) (destPos := dp) (n := n) (by rw [hT]; exact a3) (by rw [hT]; exact b3)
    (fun _ h => by cases h) (fun _ h => by cases h) (fun h => by cases h) (fun h => by cases h) hk0 hk1 hkk0 hkk1 rfl h1 h2 h3
    (by rw [nn sp h1, nn n h3]; show ¬ _ > ((arrV c0' fn _).slots.size : Int); rw [arrV_size]; omega)
    (by rw [nn dp h2, nn n h3]; show ¬ _ > ((arrV c1' gn _).slots.size : Int); rw [arrV_size]; omega)
    (fun vm₁ _ i hi => by
      have e : (arrV c0' fn (fun j => km_cv (km_ad D) (ff j))).slots.getD (sp.toNatClampNeg + i) .null = km_cv (km_ad D) (ff (sp.toNatClampNeg + i)) := by
        rw [Array.getD_eq_getD_getElem?, arrV_read _ _ (by omega)]
        rfl
      have hi2 := List.all_eq_true.mp h7 i (List.mem_range.mpr hi)
      refine ⟨?_, ?_⟩
      · rw [e]
        cases hv : ff (sp.toNatClampNeg + i) <;> rw [hv] at hi2 <;> first | rfl | cases hi2
      · rw [e]
        cases hv : ff (sp.toNatClampNeg + i) <;> rw [hv] at hi2 <;> first | exact trivial | cases hi2)
    (g := F0 m pc LS (.int n :: .int dp :: .ref (km_bs D + b) :: .int sp :: .ref (km_bs D + a) :: r.map (km_cv (km_ad D)))) rfl (by rw [hml]; exact hls) (rest := r.map (km_cv (km_ad D))) rfl (by rw [hb]; exact hd) hfr (by
      have := km_cv_sum (km_ad D) r
      show 2 * 0 + ((r.map (km_cv (km_ad D))).map fun v => v.category).sum + (nativeFrameWords "java/lang/System" "arraycopy" 5 + 11) ≤ _
      rw [this]
      have h8 : nativeFrameWords "java/lang/System" "arraycopy" 5 + 11 ≤ 56 := by decide +kernel
      omega)
  have e1 : copied (arrV c0' fn (fun j => km_cv (km_ad D) (ff j))) (arrV c1' gn (fun j => km_cv (km_ad D) (gf j))) sp dp n = arrV c1' gn (fun j => km_cv (km_ad D) (km_cpy ff gf sp.toNatClampNeg dp.toNatClampNeg n.toNatClampNeg j)) := by
    refine (va_copied (fun z => km_cv (km_ad D) z) c0' c1' ff gf h4).trans ?_
    rfl
  rw [e1] at X' step
  generalize hY : arrV c1' gn (fun j => km_cv (km_ad D) (km_cpy ff gf sp.toNatClampNeg dp.toNatClampNeg n.toNatClampNeg j)) = Y at X' step
  have hl : km_bs D + b < H.size := (Array.getElem?_eq_some_iff.mp b3).1
  have hheap : ((T.setVm vm').setCell (km_bs D + b) Y).heap = H.setIfInBounds (km_bs D + b) Y := by rw [← hT]; rfl
  have oq : ∀ q : Nat, q ≠ km_bs D + b → (H.setIfInBounds (km_bs D + b) Y)[q]? = H[q]? := fun q hq => by simp [Array.getElem?_setIfInBounds, Ne.symm hq]
  have hcell : km_cell D s (11, gn, km_cpy ff gf sp.toNatClampNeg dp.toNatClampNeg n.toNatClampNeg) (km_bs D + b) (H.setIfInBounds (km_bs D + b) Y) := by
    refine ⟨fun z => absurd z (by show ¬ (11 : Nat) < 10; decide), fun _ => ⟨by show (11 : Nat) < 17; decide, hn2, c1', b1, b2, ?_⟩⟩
    rw [← hY]
    simp [Array.getElem?_setIfInBounds, hl]
  obtain ⟨t, a9, b9⟩ := k _ _ (w.wrL hcell (by simp) oq hD.2.2.1 (fun x hx => by
    obtain ⟨z, -, hz⟩ := List.mem_map.mp hx
    rw [← hz])) _ hheap X'
  exact ⟨t, step t a9, b9⟩
end KM5

theorem km_take {α : Type} {l as rest : List α} {n : Nat} (hn : n ≤ l.length) (h1 : (l.take n).reverse = as) (h2 : l.drop n = rest) : l = as.reverse ++ rest ∧ as.length = n := by
  subst h1; subst h2
  rw [List.reverse_reverse, List.take_append_drop, List.length_reverse, List.length_take]
  exact ⟨rfl, Nat.min_eq_left hn⟩
theorem km_goodWs {j : Nat} {q : km_Q} (hj : j < 223) (hq : km_T[j]? = some q) : ∀ w ∈ km_ws q, w ∈ km_G := by
  intro w hw
  rcases List.mem_cons.mp hw with rfl | h
  · exact km_cw_at hj hq
  · exact h
/-! the machine follows: calls -/
theorem km_Mp_at {j : Nat} {q : km_Q} {x : Nat × Nat × Nat × Nat} (hj : j < 223) (h : km_T[j]? = some q) (hx : km_Mp[j]? = some x) : km_okM (q, x) = true := by
  have h2 : ((km_T.take 223).zip km_Mp)[j]? = some (q, x) := by
    rw [List.getElem?_zip_eq_some]
    exact ⟨by rw [List.getElem?_take_of_lt hj]; exact h, hx⟩
  exact List.all_eq_true.mp km_M_ok _ (List.mem_of_getElem? h2)
/-- what the tables say of a call -/
theorem km_I_at {c i k j pl : Nat} {q : km_Q} (h : km_fF km_I c i = some (k, j, pl)) (hk : k < 4) (hq : km_T[j]? = some q) : j < 223 ∧ ∃ x, km_okM (q, x) = true ∧
    (k ≠ 3 → Cond.methodLink (km_R c) i q.1 ∈ km_G) ∧ (k = 3 → Cond.methodLinkNest (km_R c) i q.1 RX8 ∈ km_Nw) ∧ (k = 0 → q.2.2.2.2.2.2.1 = true) ∧ (k = 1 → q.2.2.2.2.2.2.1 = false ∧ x.2.2.2 ≠ 9999 ∧ q.2.2.2.2.1 < 10) ∧
    (2 ≤ k → q.2.2.2.2.2.2.1 = false ∧ q.1.name = "<init>" ∧ q.2.2.2.1 = none ∧ q.2.2.2.2.1 < 10) := by
  have h1 := List.all_eq_true.mp km_I_ok _ (km_fF_mem h)
  unfold km_okI at h1
  split at h1
  · rename_i h2; dsimp only at h2; omega
  · rename_i h2; dsimp only at h2; omega
  · rename_i h2; dsimp only at h2; omega
  · rename_i h2; dsimp only at h2; omega
  · dsimp only at h1
    rw [hq] at h1
    split at h1
    · rename_i q' x e1 hx
      cases e1
      simp only [Bool.and_eq_true] at h1
      obtain ⟨hj, h3, h4⟩ := h1
      have hj : j < 223 := Nat.le_of_ble_eq_true hj
      refine ⟨hj, x, km_Mp_at hj hq hx, fun z => ?_, fun z => ?_, fun z => ?_, fun z => ?_, fun z => ?_⟩
      · have : Nat.beq k 3 = false := by cases hb : Nat.beq k 3 with | false => rfl | true => exact absurd (km_beq hb) z
        rw [this] at h3
        exact km_gw_s h3
      · subst z
        obtain ⟨w, hw, e⟩ := List.any_eq_true.mp h3
        rw [← of_decide_eq_true e]
        exact hw
      · subst z; exact h4
      · subst z
        simp only [Bool.and_eq_true, Bool.not_eq_true'] at h4
        exact ⟨h4.1, (fun z => by rw [z] at h4; cases h4.2.1), Nat.le_of_ble_eq_true h4.2.2⟩
      · have h5 : (!q.2.2.2.2.2.2.1 && (decide (q.1.name = "<init>") && (decide (q.2.2.2.1 = none) && Nat.blt q.2.2.2.2.1 10))) = true := by
          rcases k with _ | _ | k
          · omega
          · omega
          · exact h4
        simp only [Bool.and_eq_true, Bool.not_eq_true'] at h5
        exact ⟨h5.1, of_decide_eq_true h5.2.1, of_decide_eq_true h5.2.2.1, Nat.le_of_ble_eq_true h5.2.2.2⟩
    · cases h1
theorem km_okM_s {q : km_Q} {x : Nat × Nat × Nat × Nat} (h : km_okM (q, x) = true) : Cond.initialized q.1.cls ∈ km_G ∧ (q.2.2.2.2.2.2.1 = true → Cond.static q.1 ∈ km_G) ∧ (q.2.2.2.2.2.2.1 = false → Cond.instanceMethod q.1 ∈ km_G) ∧ (x.2.2.2 ≠ 9999 → Cond.selects q.1.cls q.1 q.1 ∈ km_G) ∧
    (q.1.cls ≠ "java/lang/invoke/MethodHandle" ∧ q.1.cls ≠ "java/lang/invoke/VarHandle") ∧ (parseMethodDescriptor q.1.desc).map (fun d => d.parameters.length) = some (q.2.2.2.2.2.1 - cond q.2.2.2.2.2.2.1 0 1) ∧ km_R q.2.2.2.2.1 = q.1.cls ∧ q.2.2.1 ≤ 40 ∧ cond q.2.2.2.2.2.2.1 0 1 ≤ q.2.2.2.2.2.1 := by
  unfold km_okM at h
  simp only [Bool.and_eq_true] at h
  obtain ⟨h1, h2, h3, -, h5, h6, h7, h8, h9⟩ := h
  refine ⟨km_gw_s h1, fun z => ?_, fun z => ?_, fun z => ?_, of_decide_eq_true h5, of_decide_eq_true h6, of_decide_eq_true h7, Nat.le_of_ble_eq_true h8, Nat.le_of_ble_eq_true h9⟩
  · rw [z] at h2; exact km_gw_s h2
  · rw [z] at h2; exact km_gw_s h2
  · rw [Bool.or_eq_true] at h3
    exact h3.elim (fun y => absurd (km_beq y) z) km_gw_s
theorem km_rm_l (d a b : Nat) : (km_rm d a b).locals = 64 * (d + 8) := rfl
theorem km_rm_f (d a b : Nat) : (km_rm d a b).frames = d + 8 := rfl
theorem km_rl {d a b n x : Nat} (h : 64 * (d + 9) ≤ x) (hn : n ≤ 40) : 8 + (n + 11) + (km_rm d a b).locals ≤ x := by
  have e : (km_rm d a b).locals = 64 * (d + 8) := rfl
  generalize (km_rm d a b).locals = y at e ⊢
  omega
section KM9
variable {p : Program} {l : Launch} {e : Env} {R : Room} {s : State} {m : MethodId} {args : Array Value} {below : List Frame} {meth : Method} {c : Code} {H : Heap} {locs : List Loc} {Q : State → Prop}
variable {cc : ByteArray} {pc nL : Nat} {LS : Array Slot} {po : Nat} {D : km_D}
set_option maxHeartbeats 4000000 in
theorem km_call (X : km_Cx D p s m args c cc nL po) (hls : LS.size = nL) {L L1 : km_M} {H0 : Heap} {c0 s0 : Nat} (w : km_Wd D s H0 H L locs) (hc0 : c0 ≤ L.length) (hs0 : s0 ≤ km_sl L) (hm : L.length ≤ L1.length ∧ km_sl L ≤ km_sl L1)
    {d : Nat} (hfr : d + 9 ≤ R.frames) (hlo : 64 * (d + 9) ≤ R.locals) (hR : L1.length - c0 ≤ R.cells ∧ km_sl L1 - s0 ≤ R.slots) {j : Nat} {qj : km_Q} (hqj : km_T[j]? = some qj) {as rest : List Value} (hle : (km_lay as).length ≤ qj.2.2.1) {r1 : Option Value}
    (hM : j < 223 → Met l qj.1 (km_ws qj) (km_rm d (L1.length - L.length) (km_sl L1 - km_sl L)) (km_Pre D as L) (km_Post D r1 L1) (L1.length - L.length) (km_sl L1 - km_sl L) (km_free D))
    {ins : KI} {st : List Value} (h : km_inv po ins st L = some (j, as, rest)) (hd : decode cc pc = .ok (ins, km_len ins))
    (k : ∀ (H' : Heap) (locs' : List Loc), km_Wd D s H0 H' L1 locs' → km_Go p l e R s m args below meth c D H' locs' L1 c0 s0 Q (pc + 3) LS (r1.toList ++ rest)) : km_Go p l e R s m args below meth c D H locs L c0 s0 Q pc LS st := by
  obtain ⟨hx, hb, hml, hown, hG, hK, hD⟩ := X
  have S : CallFix p m c cc nL s args km_G (km_R po) := ⟨hx, hb, hml, hown, hG⟩
  obtain ⟨epo, ena⟩ := km_po_at hqj
  have hWd : ∀ U : State, U.heap = H → s.WarmedH U.vm → km_K D U ∧ km_Wd D U U.heap U.heap L [] := by
    intro U hU hW
    refine ⟨hK.warm hW, ?_⟩
    rw [hU]
    obtain ⟨w1, w2, w3, w4, w5, w6, w7⟩ := w.moved hW.alike
    exact ⟨w1, w2, w3, w4, w5, fun _ _ => rfl, fun _ z => by cases z⟩
  have hf : L.length - c0 + (L1.length - L.length) ≤ R.cells ∧ km_sl L - s0 + (km_sl L1 - km_sl L) ≤ R.slots := ⟨by omega, by omega⟩
  cases ins <;> simp only [km_inv, reduceCtorEq] at h
  case invokestatic i =>
    split at h
    · rename_i j' pl hfI
      rcases km_cb h with ⟨hq, h2⟩ | ⟨-, h2⟩
      rotate_left
      · cases h2
      rw [Bool.and_eq_true] at hq
      have hq1 := Nat.le_of_ble_eq_true hq.1
      have hq2 := Nat.le_of_ble_eq_true hq.2
      have e1 : j' = j := congrArg (fun z => z.1) (Option.some.inj h2)
      subst e1
      have e2 : (st.take (km_na j')).reverse = as := congrArg (fun z => z.2.1) (Option.some.inj h2)
      have e3 : st.drop (km_na j') = rest := congrArg (fun z => z.2.2) (Option.some.inj h2)
      obtain ⟨hst, hlen⟩ := km_take hq1 e2 e3
      obtain ⟨hj, x, hxM, t1, -, t3, -, -⟩ := km_I_at hfI (by decide) hqj
      obtain ⟨o1, o2, -, -, o5, o6, o7, o8, o9⟩ := km_okM_s hxM
      have hst2 := t3 rfl
      rw [hst2] at o6
      have hGW : GoodIn km_G (va_wsS (km_R po) i qj.1 (km_ws qj)) := km_goodIn (fun w hw => by
        unfold va_wsS at hw
        rcases List.mem_append.mp hw with hw | hw
        · simp only [List.mem_cons, List.not_mem_nil, or_false] at hw
          rcases hw with rfl | rfl | rfl
          · exact t1 (by decide)
          · exact o2 hst2
          · exact o1
        · exact km_goodWs hj hqj w hw)
      have hr := va_runS (l := l) (e := e) (below := below) (meth := meth) (locs := locs) (cells := L.length - c0) (slots := km_sl L - s0) (index := i) (g := F0 m pc LS (st.map (km_cv (km_ad D)))) (H := H) (As := as.map (km_cv (km_ad D))) (rest := rest.map (km_cv (km_ad D))) S (hM hj)
        (va_cwS (R := R) (ws' := km_G) (bytes := qj.2.1) (maxL := qj.2.2.1) (ret := qj.2.2.2.1) (qj.2.2.2.2.2.1 - 0) hG hGW rfl rfl rfl ⟨o5.1, o5.2, o6⟩ ⟨by rw [km_rm_f]; omega, km_rl hlo o8⟩)
        ⟨km_Pre_blind D as L, fun U hU hW => ⟨rfl, hWd U hU hW⟩⟩ rfl (by rw [List.length_map, hlen, ena]; rfl) hls (by show st.map _ = _; rw [hst, List.map_append, List.map_reverse]) (by show 2 * 0 + _ ≤ _; rw [km_cv_sum, ← e3]; omega) hd hf
      exact km_after hD w hc0 hs0 hm hr k
    · cases h
  case invokevirtual i =>
    split at h
    · rename_i j' pl hfI
      split at h
      · rename_i a As he
        rcases km_cb h with ⟨hq, h2⟩ | ⟨-, h2⟩
        rotate_left
        · cases h2
        rw [Bool.and_eq_true, Bool.and_eq_true] at hq
        have hq1 := Nat.le_of_ble_eq_true hq.1.1
        have hq2 := Nat.le_of_ble_eq_true hq.1.2
        have e1 : j' = j := congrArg (fun z => z.1) (Option.some.inj h2)
        subst e1
        have e2 : (st.take (km_na j')).reverse = as := congrArg (fun z => z.2.1) (Option.some.inj h2)
        have e3 : st.drop (km_na j') = rest := congrArg (fun z => z.2.2) (Option.some.inj h2)
        obtain ⟨hst, hlen⟩ := km_take hq1 e2 e3
        have e4 : as = .ref a :: As := e2.symm.trans he
        subst e4
        obtain ⟨hj, x, hxM, t1, -, -, t4, -⟩ := km_I_at hfI (by decide) hqj
        obtain ⟨o1, -, o3, o4, o5, o6, o7, o8, o9⟩ := km_okM_s hxM
        obtain ⟨hst2, hsel, hpo⟩ := t4 rfl
        rw [hst2] at o6 o9
        obtain ⟨na, fa, hLa⟩ := km_kd_s hq.2
        rw [epo] at hLa
        obtain ⟨-, cellV, g1, g2, g3, -⟩ := (w.1 a _ hLa).1 hpo
        have hKn := hK.1 _ hpo
        have hGW : GoodIn km_G (wsV (km_R po) i (km_R qj.2.2.2.2.1) qj.1 (km_ws qj)) := km_goodIn (fun w hw => by
          unfold wsV at hw
          rw [o7] at hw
          rcases List.mem_append.mp hw with hw | hw
          · simp only [List.mem_cons, List.not_mem_nil, or_false] at hw
            rcases hw with rfl | rfl | rfl | rfl
            · exact t1 (by decide)
            · exact o3 hst2
            · exact o4 hsel
            · exact o1
          · exact km_goodWs hj hqj w hw)
        have ea : km_cv (km_ad D) (.ref a) = .ref (km_bs D + a) := by show Value.ref _ = _; rw [km_adr hD w hLa]
        have hr := va_runV (l := l) (e := e) (below := below) (meth := meth) (locs := locs) (cells := L.length - c0) (slots := km_sl L - s0) (index := i) (g := F0 m pc LS (st.map (km_cv (km_ad D)))) (H := H) (b := km_bs D + a) (C := km_R qj.2.2.2.2.1) (As := As.map (km_cv (km_ad D))) (rest := rest.map (km_cv (km_ad D))) S (hM hj)
          (cwV (R := R) (ws' := km_G) (bytes := qj.2.1) (maxL := qj.2.2.1) (ret := qj.2.2.2.1) (qj.2.2.2.2.2.1 - 1) hG hGW rfl rfl rfl ⟨o7.symm, o5.1, o5.2, o6⟩ ⟨by rw [km_rm_f]; omega, km_rl hlo o8⟩)
          ⟨km_Pre_blind D _ L, ⟨cellV, g1, by rw [g3]; rfl, by rw [g2]; exact hKn.2.1⟩, fun U hU hW => ⟨by rw [List.map_cons, ea], hWd U hU hW⟩⟩ rfl (by rw [List.length_map]; have := hlen; rw [List.length_cons, ena] at this; omega) hls
          (by show st.map _ = _; rw [hst, List.map_append, List.reverse_cons, List.map_append, List.map_reverse, List.map_cons, List.map_nil, ea, List.append_assoc]; rfl) (by show 2 * 0 + _ ≤ _; rw [km_cv_sum, ← e3]; omega) hd hf
        exact km_after hD w hc0 hs0 hm hr k
      · cases h
    · cases h
  case invokespecial i =>
    split at h
    · rename_i kk j' pl hfI
      rcases km_cb h with ⟨hkk, h1⟩ | ⟨-, h1⟩
      rotate_left
      · cases h1
      split at h1
      · rename_i a As he
        rcases km_cb h1 with ⟨hq, h2⟩ | ⟨-, h2⟩
        rotate_left
        · cases h2
        rw [Bool.or_eq_true] at hkk
        have hkk : kk = 2 ∨ kk = 3 := hkk.imp km_beq km_beq
        rw [Bool.and_eq_true, Bool.and_eq_true] at hq
        have hq1 := Nat.le_of_ble_eq_true hq.1.1
        have hq2 := Nat.le_of_ble_eq_true hq.1.2
        have e1 : j' = j := congrArg (fun z => z.1) (Option.some.inj h2)
        subst e1
        have e2 : (st.take (km_na j')).reverse = as := congrArg (fun z => z.2.1) (Option.some.inj h2)
        have e3 : st.drop (km_na j') = rest := congrArg (fun z => z.2.2) (Option.some.inj h2)
        obtain ⟨hst, hlen⟩ := km_take hq1 e2 e3
        have e4 : as = .ref a :: As := e2.symm.trans he
        subst e4
        obtain ⟨hj, x, hxM, t1, t2, -, -, t5⟩ := km_I_at hfI (by omega) hqj
        obtain ⟨o1, -, o3, -, o5, o6, o7, o8, o9⟩ := km_okM_s hxM
        obtain ⟨hst2, hnm, hrt, hpo⟩ := t5 (by omega)
        rw [hst2] at o6 o9
        obtain ⟨na, fa, hLa⟩ := km_kd_s hq.2
        have ea : km_cv (km_ad D) (.ref a) = .ref (km_bs D + a) := by show Value.ref _ = _; rw [km_adr hD w hLa]
        have hws : km_ws qj = Cond.code qj.1 qj.2.1 qj.2.2.1 none :: km_G := by unfold km_ws; rw [hrt]
        have hR2 : (km_rm d (L1.length - L.length) (km_sl L1 - km_sl L)).frames + 1 ≤ R.frames ∧ 8 + (qj.2.2.1 + 11) + (km_rm d (L1.length - L.length) (km_sl L1 - km_sl L)).locals ≤ R.locals := ⟨by rw [km_rm_f]; omega, km_rl hlo o8⟩
        have hp : PreS s H (km_Pre D (.ref a :: As) L) (.ref (km_bs D + a) :: As.map (km_cv (km_ad D))) := ⟨km_Pre_blind D _ L, fun U hU hW => ⟨by rw [List.map_cons, ea], hWd U hU hW⟩⟩
        have hn : (As.map (km_cv (km_ad D))).length = qj.2.2.2.2.2.1 - 1 := by rw [List.length_map]; have := hlen; rw [List.length_cons, ena] at this; omega
        have hstack : (F0 m pc LS (st.map (km_cv (km_ad D)))).stack = (As.map (km_cv (km_ad D))).reverse ++ .ref (km_bs D + a) :: rest.map (km_cv (km_ad D)) := by
          show st.map _ = _
          rw [hst, List.map_append, List.reverse_cons, List.map_append, List.map_reverse, List.map_cons, List.map_nil, ea, List.append_assoc]; rfl
        have hW8 : 2 * (F0 m pc LS (st.map (km_cv (km_ad D)))).monitorRoom + ((rest.map (km_cv (km_ad D))).map fun v => v.category).sum ≤ 8 := by show 2 * 0 + _ ≤ _; rw [km_cv_sum, ← e3]; omega
        rcases hkk with rfl | rfl
        · have hr := va_runI (l := l) (e := e) (below := below) (meth := meth) (locs := locs) (cells := L.length - c0) (slots := km_sl L - s0) S (hM hj)
            (cwI (R := R) (ws' := km_G) (bytes := qj.2.1) (maxL := qj.2.2.1) (qj.2.2.2.2.2.1 - 1) hG (km_goodIn (km_goodWs hj hqj)) hws rfl rfl (hG _ o1) (hG _ (t1 (by decide))) (hG _ (o3 hst2)) hnm ⟨o5.1, o5.2, o6⟩ hR2)
            hp rfl hn hls hstack hW8 hd hf
          exact km_after hD w hc0 hs0 hm hr k
        · have hr := va_runIN (l := l) (e := e) (below := below) (meth := meth) (locs := locs) (cells := L.length - c0) (slots := km_sl L - s0) S (hM hj)
            ⟨va_cnB (R := R) (ws' := km_G) (bytes := qj.2.1) (maxL := qj.2.2.1) (qj.2.2.2.2.2.1 - 1) hG (km_goodIn (km_goodWs hj hqj)) hws rfl rfl (hK.2.2.1 _ (t2 rfl)) (hG _ o1) ⟨o5.1, o5.2, o6⟩ hR2, hnm, hG _ (o3 hst2)⟩
            hp rfl hn hls hstack hW8 hd hf
          exact km_after hD w hc0 hs0 hm hr k
      · cases h1
    · cases h
end KM9

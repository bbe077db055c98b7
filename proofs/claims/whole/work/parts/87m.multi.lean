theorem km_arrV_eq (c : ClassId) {N : Nat} {f g : Nat → Value} (h : ∀ j, j < N → f j = g j) : arrV c N f = arrV c N g := by
  unfold arrV
  rw [show (fun j : Fin N => f j.val) = (fun j : Fin N => g j.val) from funext fun j => h j.val j.isLt]
theorem km_outer (c : ClassId) (N h0 : Nat) : ∀ i : Nat, Jvm.Free.Multi.outerC c N h0 i = arrV c N (fun j => if j < i then .ref (h0 + 1 + j) else .null)
  | 0 => by
    show ({ cls := c, slots := Array.replicate N .null, vm := .none } : Cell) = _
    rw [arrV_new]
    refine congrArg (arrV c N) (funext fun j => ?_)
    rw [if_neg (Nat.not_lt_zero j)]
  | i + 1 => by
    show (Jvm.Free.Multi.outerC c N h0 i).setSlot i (.ref (h0 + 1 + i)) = _
    rw [km_outer c N h0 i, arrV_store]
    refine congrArg (arrV c N) (funext fun j => ?_)
    unfold updV
    by_cases e : j = i
    · subst e
      rw [if_pos rfl, if_pos (Nat.lt_succ_self j)]
    · rw [if_neg e]
      dsimp only
      by_cases h : j < i
      · rw [if_pos h, if_pos (Nat.lt_succ_of_lt h)]
      · rw [if_neg h, if_neg (by omega)]
theorem km_sl_rep (n : Nat) (q : km_C) : km_sl (List.replicate n q) = n * q.2.1 := by
  unfold km_sl
  rw [List.map_replicate, List.sum_replicate_nat]
section KMM
variable {p : Program} {l : Launch} {e : Env} {R : Room} {s : State} {m : MethodId} {args : Array Value} {below : List Frame} {meth : Method} {c : Code} {H : Heap} {locs : List Loc} {Q : State → Prop}
variable {cc : ByteArray} {pc nL : Nat} {LS : Array Slot} {po : Nat} {D : km_D}
theorem km_multi (X : km_Cx D p s m args c cc nL po) {L : km_M} {H0 : Heap} {c0 s0 : Nat} (w : km_Wd D s H0 H L locs) (hc0 : c0 ≤ L.length) (hs0 : s0 ≤ km_sl L)
    {i pl z : Nat} {x y : Int32} {r : List Value} (hf : km_fF km_W5 po i = some (16, z, pl)) (hn : ¬ (x < 0 ∨ 60 < x.toNatClampNeg ∨ y < 0 ∨ 60000000 < y.toNatClampNeg)) (hL : L.length + 100 < km_scr)
    (hR : (L ++ ([(16, x.toNatClampNeg, fun j => Value.ref (L.length + 1 + j))] : km_M) ++ (List.replicate x.toNatClampNeg (12, y.toNatClampNeg, fun _ => Value.long 0) : km_M)).length - c0 ≤ R.cells ∧ km_sl (L ++ ([(16, x.toNatClampNeg, fun j => Value.ref (L.length + 1 + j))] : km_M) ++ (List.replicate x.toNatClampNeg (12, y.toNatClampNeg, fun _ => Value.long 0) : km_M)) - s0 ≤ R.slots)
    (hd : decode cc pc = .ok (.multianewarray i 2, 4))
    (k : ∀ H' : Heap, km_Wd D s H0 H' (L ++ ([(16, x.toNatClampNeg, fun j => Value.ref (L.length + 1 + j))] : km_M) ++ (List.replicate x.toNatClampNeg (12, y.toNatClampNeg, fun _ => Value.long 0) : km_M)) locs → km_Go p l e R s m args below meth c D H' locs (L ++ ([(16, x.toNatClampNeg, fun j => Value.ref (L.length + 1 + j))] : km_M) ++ (List.replicate x.toNatClampNeg (12, y.toNatClampNeg, fun _ => Value.long 0) : km_M)) c0 s0 Q (pc + 4) LS (.ref L.length :: r)) : km_Go p l e R s m args below meth c D H locs L c0 s0 Q pc LS (.int y :: .int x :: r) := by
  obtain ⟨hx, hb, hml, hown, hG, hK, hD⟩ := X
  have h1 : ¬ x < 0 := fun z => hn (Or.inl z)
  have h2 : x.toNatClampNeg ≤ 60 := Nat.not_lt.mp fun z => hn (Or.inr (Or.inl z))
  have h3 : ¬ y < 0 := fun z => hn (Or.inr (Or.inr (Or.inl z)))
  have h4 : y.toNatClampNeg ≤ 60000000 := Nat.not_lt.mp fun z => hn (Or.inr (Or.inr (Or.inr z)))
  have h5 := List.all_eq_true.mp km_W_ok _ (km_fF_mem hf)
  unfold km_okW at h5
  rw [show Nat.blt (po, i, 16, z, pl).2.2.1 10 = false from rfl] at h5
  have h5 : (Nat.beq 16 16 && km_gw pl (.classLink (km_R po) i "[[J")) = true := h5
  rw [Bool.and_eq_true] at h5
  have h6 := h5.2
  have hlink := km_gw_s h6
  have hover : (Cond.arrayOver (.array .long)).before args s = true := hK.2.2.2.2.2
  generalize hN : x.toNatClampNeg = N at *
  generalize hM : y.toNatClampNeg = M at *
  have eLn : (L ++ ([(16, N, fun j => Value.ref (L.length + 1 + j))] : km_M) ++ (List.replicate N (12, M, fun _ => Value.long 0) : km_M)).length = L.length + 1 + N := by
    rw [List.length_append, List.length_append, List.length_replicate]; rfl
  have eSl : km_sl (L ++ ([(16, N, fun j => Value.ref (L.length + 1 + j))] : km_M) ++ (List.replicate N (12, M, fun _ => Value.long 0) : km_M)) = km_sl L + N + N * M := by
    rw [km_sl_app, km_sl_app, km_sl_one, km_sl_rep]
  rw [eLn, eSl] at hR
  unfold km_Go
  intro T hT Xs
  obtain ⟨vm₁, cA, comp, -, fA, fC, hO, hI, X', step⟩ := Xs.multianewarray2F hx hown (hG _ hlink) hover (hG _ km_ac_long) (g := F0 m pc LS (.int y :: .int x :: r.map (km_cv (km_ad D)))) rfl (by rw [hb]; exact hd) rfl h1 h3 (by rw [hN]; omega) (by rw [hM]; exact Nat.le_trans (Nat.mul_le_mul_right 8 h4) (by decide)) (by rw [hM]; omega) rfl rfl (by rw [hN]; omega) (by rw [hN, hM]; omega)
  rw [hN, hM] at X' step
  generalize hF : Jvm.Free.Multi.fill (T.setVm vm₁) cA comp N M (defaultValue .long) N = F at X' step
  have hTh : (T.setVm vm₁).heap = H := hT
  obtain ⟨f1, f2, -, -⟩ := Jvm.Free.Multi.fill_facts (T.setVm vm₁) cA comp N M (defaultValue .long) N
  rw [hF, hTh] at f1 f2
  have hold : ∀ a : Nat, a < H.size → F.heap[a]? = H[a]? := fun a ha => by
    have := Jvm.Free.Multi.fill_old (T.setVm vm₁) cA comp N M (defaultValue .long) (a := a) (by rw [hTh]; exact ha) N
    rw [hF, hTh] at this
    exact this
  have hrow : ∀ j : Nat, j < N → F.heap[H.size + 1 + j]? = some (arrV comp M (fun _ => .long 0)) := fun j hj => by
    have := Jvm.Free.Multi.fill_inner (T.setVm vm₁) cA comp N M (defaultValue .long) N j hj
    rw [hF, hTh] at this
    rw [this, ← arrV_new]
    rfl
  have ead : ∀ j : Nat, j ≤ 60 → km_ad D (L.length + 1 + j) = km_bs D + (L.length + 1 + j) := fun j hj => hD.1 _ (by omega)
  rw [km_outer] at f2
  have w2 := w.2.1
  have hout : km_cell D s (16, N, fun j => Value.ref (L.length + 1 + j)) H.size F.heap := by
    refine ⟨fun z => absurd z (by show ¬ 16 < 10; decide), fun _ => ⟨by show 16 < 17; decide, by show N < _; omega, cA, ?_, ?_, ?_⟩⟩
    · intro N9 z9
      obtain ⟨-, k9, hk9, cm9, hkk9⟩ := (hO 0 0 0).1
      exact ⟨(fun q hq => by cases hq), k9, hk9, cm9, hkk9⟩
    · exact fA
    · rw [f2]
      refine congrArg some (km_arrV_eq cA fun j hj => ?_)
      rw [if_pos hj]
      show Value.ref _ = Value.ref _
      rw [ead j (by omega), w2]
      have g9 : ∀ a b c : Nat, a + b + 1 + c = a + (b + 1 + c) := fun a b c => by omega
      first
        | exact congrArg Value.ref (g9 _ _ _)
        | exact congrArg Value.ref (g9 _ _ _).symm
  have hin : ∀ j : Nat, j < N → km_cell D s (12, M, fun _ => Value.long 0) (H.size + 1 + j) F.heap := fun j hj => by
    refine ⟨fun z => absurd z (by show ¬ 12 < 10; decide), fun _ => ⟨by show 12 < 17; decide, by show M < _; omega, comp, ?_, ?_, ?_⟩⟩
    · intro N9 z9
      obtain ⟨-, k9, hk9, cm9, hkk9⟩ := (hI 0 .null).1
      exact ⟨(fun q hq => by cases hq), k9, hk9, cm9, hkk9⟩
    · exact fC
    · exact hrow j hj
  have wn : km_Wd D s H0 F.heap (L ++ ([(16, N, fun j => Value.ref (L.length + 1 + j))] : km_M) ++ (List.replicate N (12, M, fun _ => Value.long 0) : km_M)) locs := by
    obtain ⟨w1, w2, w3, w4, w5, w6, w7⟩ := w
    have hbD := hD.2.2.1
    refine ⟨fun a q hq => ?_, by rw [f1, eLn, w2]; omega, by rw [eLn]; omega, w4.kept (hold _ (by omega)), w5.kept (fun q hq _ => hold q hq), fun q hq => (hold q (by omega)).trans (w6 q hq), w7⟩
    by_cases e1 : a < L.length
    · rw [List.append_assoc, List.getElem?_append_left e1] at hq
      exact (w1 a q hq).kept (hold _ (by omega))
    · by_cases e2 : a = L.length
      · subst e2
        rw [List.append_assoc, List.getElem?_append_right (Nat.le_refl _), Nat.sub_self] at hq
        cases hq
        rw [← w2]
        exact hout
      · rw [List.getElem?_append_right (by rw [List.length_append]; show L.length + 1 ≤ a; omega), List.getElem?_replicate] at hq
        split at hq
        · rename_i e3
          cases hq
          rw [List.length_append, List.length_singleton] at e3
          have := hin (a - (L.length + 1)) e3
          rw [show H.size + 1 + (a - (L.length + 1)) = km_bs D + a by omega] at this
          exact this
        · cases hq
  have k0 := k F.heap wn
  unfold km_Go at k0
  have ea : km_cv (km_ad D) (.ref L.length) = .ref (km_bs D + L.length) := by show Value.ref _ = _; rw [hD.1 _ (by omega)]
  rw [List.map_cons, ea, eLn, eSl] at k0
  obtain ⟨t, a1, b1⟩ := k0 F rfl (by rw [show L.length + 1 + N - c0 = L.length - c0 + 1 + N by omega, show km_sl L + N + N * M - s0 = km_sl L - s0 + N + N * M by omega]; exact X')
  refine ⟨t, step t ?_, b1⟩
  have e9 : T.heap.size = H.size := by rw [hT]
  rw [e9, w.2.1]
  exact a1
end KMM

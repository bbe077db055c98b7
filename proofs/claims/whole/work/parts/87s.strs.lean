section KMS
variable {p : Program} {l : Launch} {e : Env} {R : Room} {s : State} {m : MethodId} {args : Array Value} {below : List Frame} {meth : Method} {c : Code} {H : Heap} {locs : List Loc} {Q : State → Prop}
variable {cc : ByteArray} {pc nL : Nat} {LS : Array Slot} {po : Nat} {D : km_D}
theorem k_ofNat {x : Int32} (h : ¬ x < 0) : x = Int32.ofNat x.toNatClampNeg := by
  have h0 : (0 : Int) ≤ x.toInt := by
    have := Int32.not_lt.mp h
    simpa using Int32.le_iff_toInt_le.mp this
  have h1 : x.toInt = ((x.toNatClampNeg : Nat) : Int) := by
    show x.toInt = ((x.toInt.toNat : Nat) : Int)
    omega
  rw [← Int32.ofInt_eq_ofNat, ← h1, Int32.ofInt_toInt]
set_option maxHeartbeats 4000000 in
theorem km_strs (X : km_Cx D p s m args c cc nL po) (hls : LS.size = nL) {L L' : km_M} {H0 : Heap} {c0 s0 : Nat} (w : km_Wd D s H0 H L locs) (hfr : 8 ≤ R.frames) (hlo : 512 ≤ R.locals) (hR : L'.length - c0 ≤ R.cells ∧ km_sl L' - s0 ≤ R.slots) {i : Nat} {xs : Nat → Int32} {Lx : Nat} {it : Bool} {st st' : List Value}
    (h : km_mem xs Lx po it (.invokevirtual i) st L = some (st', L')) (hd : decode cc pc = .ok (.invokevirtual i, 3))
    (k : ∀ (H' : Heap) (locs' : List Loc), km_Wd D s H0 H' L' locs' → km_Go p l e R s m args below meth c D H' locs' L' c0 s0 Q (pc + 3) LS st') : km_Go p l e R s m args below meth c D H locs L c0 s0 Q pc LS st := by
  obtain ⟨hx, hb, hml, hown, hG, hK, hD⟩ := X
  have hZ := w.2.2.2.2.1
  obtain ⟨⟨adV, hV⟩, hC, hF⟩ := w.2.2.2.2.1
  simp only [km_mem] at h
  split at h
  · rename_i a r z pl hf
    rcases km_cb h with ⟨hc, h2⟩ | ⟨-, h2⟩
    · cases h2
      simp only [Bool.and_eq_true] at hc
      have h3 := Nat.le_of_ble_eq_true hc.1.1
      have h4 := Nat.le_of_ble_eq_true hc.1.2
      have h5 := Nat.le_of_ble_eq_true hc.2
      unfold km_scr at h3
      obtain ⟨j, rfl⟩ : ∃ j, a = 1000001 + j := ⟨a - 1000001, (Nat.add_sub_cancel' h3).symm⟩
      have hj : j < 4 := Nat.lt_of_add_lt_add_left (show 1000001 + j < 1000001 + 4 from h4)
      have hI := List.all_eq_true.mp km_I_ok _ (km_fF_mem hf)
      have hlink := km_gw_s (show km_gw pl (.methodLink (km_R po) i yJ0_length_8abf5) = true from hI)
      obtain ⟨cellB, b1, b2, b3, -⟩ := (hV.1 j hj).1
      have k0 := k H locs w
      unfold km_Go at k0 ⊢
      simp only [List.map_cons, Nat.add_sub_cancel_left] at k0 ⊢
      refine W.callR (r := Int32.ofNat (km_tx j).length) (W.runV (As := []) (b := km_ad D (1000001 + j)) (rest := r.map (km_cv (km_ad D))) ⟨hx, hb, hml, hown, hG⟩ (cs_length l D hj) (cwV 0 hG (C := RJ0) (km_goodIn (fun z hz => by
          unfold wsV at hz
          rcases List.mem_append.mp hz with hz | hz
          · simp only [List.mem_cons, List.not_mem_nil, or_false] at hz
            rcases hz with rfl | rfl | rfl | rfl
            · exact hlink
            · exact ww_i_J0_length_8abf5
            · exact ww_v_J0_length_8abf5
            · exact ww_in0
          · exact km_jg ww_c_J0_length_8abf5 z hz)) rfl rfl rfl (by decide +kernel) ⟨Nat.le_trans (Nat.le_of_ble_eq_true rfl : (km_jr 1).frames + 1 ≤ 8) hfr, Nat.le_trans (Nat.le_of_ble_eq_true rfl : 8 + (1 + 11) + (km_jr 1).locals ≤ 512) hlo⟩)
        ⟨km_SP_blind D _, ⟨cellB, b1, b2, b3⟩, fun U hU hW => ⟨rfl, by show km_Str D U U.heap; rw [hU]; exact hZ.moved hW.alike⟩⟩ rfl rfl hls rfl (by show 2 * 0 + _ ≤ _; rw [km_cv_sum]; omega) hd ⟨hR.1, hR.2⟩) ?_
      exact k0
    · cases h2
  · rename_i x a r z pl hf
    rcases km_cb h with ⟨hc, h2⟩ | ⟨-, h2⟩
    · split at h2
      · cases h2
      · rename_i hx0
        split at h2
        · rename_i b hbx
          cases h2
          simp only [Bool.and_eq_true] at hc
          have h3 := Nat.le_of_ble_eq_true hc.1.1
          have h4 := Nat.le_of_ble_eq_true hc.1.2
          have h5 := Nat.le_of_ble_eq_true hc.2
          unfold km_scr at h3
          obtain ⟨j, rfl⟩ : ∃ j, a = 1000001 + j := ⟨a - 1000001, (Nat.add_sub_cancel' h3).symm⟩
          have hj : j < 4 := Nat.lt_of_add_lt_add_left (show 1000001 + j < 1000001 + 4 from h4)
          rw [Nat.add_sub_cancel_left] at hbx
          have hI := List.all_eq_true.mp km_I_ok _ (km_fF_mem hf)
          have hlink := km_gw_s (show km_gw pl (.methodLink (km_R po) i yJ0_charAt_5068e) = true from hI)
          obtain ⟨cellB, b1, b2, b3, -⟩ := (hV.1 j hj).1
          have hk : x.toNatClampNeg < (km_tx j).length := (List.getElem?_eq_some_iff.mp hbx).1
          have hb128 : b < 128 := Nat.le_of_ble_eq_true (List.all_eq_true.mp (k_txb j hj) b (List.mem_of_getElem? hbx))
          have k0 := k H locs w
          have ex := k_ofNat hx0
          generalize x.toNatClampNeg = q at ex hbx hk
          subst ex
          unfold km_Go at k0 ⊢
          simp only [List.map_cons] at k0 ⊢
          refine W.callR (r := Int32.ofNat b) (W.runV (As := [.int (Int32.ofNat q)]) (b := km_ad D (1000001 + j)) (rest := r.map (km_cv (km_ad D))) ⟨hx, hb, hml, hown, hG⟩ (cs_char l D hj hk hb128 hbx) (cwV 1 hG (C := RJ0) (km_goodIn (fun z hz => by
              unfold wsV at hz
              rcases List.mem_append.mp hz with hz | hz
              · simp only [List.mem_cons, List.not_mem_nil, or_false] at hz
                rcases hz with rfl | rfl | rfl | rfl
                · exact hlink
                · exact ww_i_J0_charAt_5068e
                · exact ww_v_J0_charAt_5068e
                · exact ww_in0
              · exact km_jg ww_c_J0_charAt_5068e z hz)) rfl rfl rfl (by decide +kernel) ⟨Nat.le_trans (Nat.le_of_ble_eq_true rfl : (km_jr 3).frames + 1 ≤ 8) hfr, Nat.le_trans (Nat.le_of_ble_eq_true rfl : 8 + (2 + 11) + (km_jr 3).locals ≤ 512) hlo⟩)
            ⟨km_SP_blind D _, ⟨cellB, b1, b2, b3⟩, fun U hU hW => ⟨rfl, by show km_Str D U U.heap; rw [hU]; exact hZ.moved hW.alike⟩⟩ rfl rfl hls rfl (by show 2 * 0 + _ ≤ _; rw [km_cv_sum]; omega) hd ⟨hR.1, hR.2⟩) ?_
          exact k0
        · cases h2
    · cases h2
  · cases h
end KMS

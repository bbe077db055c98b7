section KM7
variable {p : Program} {l : Launch} {e : Env} {R : Room} {s : State} {m : MethodId} {args : Array Value} {below : List Frame} {meth : Method} {c : Code} {H : Heap} {locs : List Loc} {Q : State → Prop}
variable {cc : ByteArray} {pc nL : Nat} {LS : Array Slot} {po : Nat} {D : km_D}
set_option maxHeartbeats 4000000 in
theorem km_mem_sim (X : km_Cx D p s m args c cc nL po) {it : Bool} (hit : it = true → meth.name = "<init>") (hls : LS.size = nL) {L L' : km_M} {H0 : Heap} {c0 s0 : Nat} (w : km_Wd D s H0 H L locs) (hc0 : c0 ≤ L.length) (hs0 : s0 ≤ km_sl L)
    (hfr : 8 ≤ R.frames) (hlo : 512 ≤ R.locals) (hR : L'.length - c0 ≤ R.cells ∧ km_sl L' - s0 ≤ R.slots)
    {ins : KI} {st st' : List Value} (h : km_mem (km_xs D) (km_Lx D) po it ins st L = some (st', L')) (hd : decode cc pc = .ok (ins, km_len ins))
    (k : ∀ (H' : Heap) (locs' : List Loc), km_Wd D s H0 H' L' locs' → km_Go p l e R s m args below meth c D H' locs' L' c0 s0 Q (pc + km_len ins) LS st') : km_Go p l e R s m args below meth c D H locs L c0 s0 Q pc LS st := by
  have h' := h
  cases ins <;> simp only [km_mem, reduceCtorEq] at h
  case iaload => exact km_mem_sim1 X hit w (by simp) h' hd k
  case baload => exact km_mem_sim1 X hit w (by simp) h' hd k
  case laload => exact km_mem_sim1 X hit w (by simp) h' hd k
  case aaload => exact km_mem_sim1 X hit w (by simp) h' hd k
  case iastore => exact km_mem_sim1 X hit w (by simp) h' hd k
  case bastore => exact km_mem_sim1 X hit w (by simp) h' hd k
  case lastore => exact km_mem_sim1 X hit w (by simp) h' hd k
  case arraylength => exact km_mem_sim1 X hit w (by simp) h' hd k
  case getfield i => exact km_mem_sim1 X hit w (by simp) h' hd k
  case putfield i => exact km_mem_sim1 X hit w (by simp) h' hd k
  case aastore =>
    split at h
    · rename_i x i a r
      split at h
      · rename_i L2 hv
        cases h
        rcases km_or_s hv with hv | hv
        · rcases km_cb hv with ⟨hb, hv⟩ | ⟨-, hv⟩
          · exact km_aast X w (kk := 2) (by decide) (by decide) (by decide) rfl hb hv hd k
          · cases hv
        · rcases km_cb hv with ⟨hb, hv⟩ | ⟨-, hv⟩
          · exact km_aast X w (kk := 5) (by decide) (by decide) (by decide) rfl hb hv hd k
          · cases hv
      · cases h
    · cases h
  case new i =>
    split at h
    · rename_i kk z pl hf
      rcases km_cb h with ⟨hb, h2⟩ | ⟨-, h2⟩
      · obtain ⟨h3, rfl, rfl⟩ := km_new_s h2
        simp only [List.length_append, List.length_singleton, km_sl_app, km_sl_one] at hR
        exact km_newobj X w hc0 hs0 hf (Nat.le_of_ble_eq_true hb) (by omega) ⟨by omega, by omega⟩ hd (fun H' w' => k H' locs w')
      · cases h2
    · cases h
  case newarray t =>
    split at h
    · rename_i n r
      split at h
      · cases h
      · rename_i hn
        split at h
        · obtain ⟨h3, rfl, rfl⟩ := km_new_s h
          simp only [List.length_append, List.length_singleton, km_sl_app, km_sl_one] at hR
          exact km_newarr (t := .byte) X w hc0 hs0 km_ac_byte rfl (by decide) rfl hn (by omega) (by decide) ⟨by omega, by omega⟩ hd (fun H' w' => k H' locs w')
        · obtain ⟨h3, rfl, rfl⟩ := km_new_s h
          simp only [List.length_append, List.length_singleton, km_sl_app, km_sl_one] at hR
          exact km_newarr (t := .int) X w hc0 hs0 km_ac_int rfl (by decide) rfl hn (by omega) (by decide) ⟨by omega, by omega⟩ hd (fun H' w' => k H' locs w')
        · obtain ⟨h3, rfl, rfl⟩ := km_new_s h
          simp only [List.length_append, List.length_singleton, km_sl_app, km_sl_one] at hR
          exact km_newarr (t := .long) X w hc0 hs0 km_ac_long rfl (by decide) rfl hn (by omega) (by decide) ⟨by omega, by omega⟩ hd (fun H' w' => k H' locs w')
        · obtain ⟨h3, rfl, rfl⟩ := km_new_s h
          simp only [List.length_append, List.length_singleton, km_sl_app, km_sl_one] at hR
          exact km_newarr (t := .boolean) X w hc0 hs0 km_ac_boolean rfl (by decide) rfl hn (by omega) (by decide) ⟨by omega, by omega⟩ hd (fun H' w' => k H' locs w')
        · cases h
    · cases h
  case anewarray i =>
    split at h
    · rename_i n r kk z pl hf
      split at h
      · cases h
      · rename_i hn
        rcases km_cb h with ⟨hb, h2⟩ | ⟨-, h2⟩
        · obtain ⟨h3, rfl, rfl⟩ := km_new_s h2
          have e := km_beq hb
          subst e
          simp only [List.length_append, List.length_singleton, km_sl_app, km_sl_one] at hR
          exact km_newref X w hc0 hs0 hf (by decide) rfl (by decide) X.2.2.2.2.2.1.2.2.2.1 hn (by omega) ⟨by omega, by omega⟩ hd (fun H' w' => k H' locs w')
        · rcases km_cb h2 with ⟨hb, h4⟩ | ⟨-, h4⟩
          · obtain ⟨h3, rfl, rfl⟩ := km_new_s h4
            have e := km_beq hb
            subst e
            simp only [List.length_append, List.length_singleton, km_sl_app, km_sl_one] at hR
            exact km_newref X w hc0 hs0 hf (by decide) rfl (by decide) X.2.2.2.2.2.1.2.2.2.2.1 hn (by omega) ⟨by omega, by omega⟩ hd (fun H' w' => k H' locs w')
          · cases h4
    · cases h
  case multianewarray i d =>
    split at h
    · rename_i y x r kk z pl hf
      split at h
      · cases h
      · rename_i hn
        rcases km_cb h with ⟨hb, h2⟩ | ⟨-, h2⟩
        · cases h2
          simp only [Bool.and_eq_true] at hb
          obtain ⟨⟨e1, e2⟩, e3⟩ := hb
          have e1 := km_beq e1
          have e2 := km_beq e2
          subst e1; subst e2
          exact km_multi X w hc0 hs0 hf hn (Nat.le_of_ble_eq_true e3) hR hd (fun H' w' => k H' locs w')
        · cases h2
    · cases h
  case invokespecial i =>
    split at h
    · rename_i a r z pl hf
      rcases km_cb h with ⟨hq, h2⟩ | ⟨-, h2⟩
      rotate_left
      · cases h2
      cases h2
      have hq := Nat.le_of_ble_eq_true hq
      obtain ⟨hx, hb, hml, hown, hG, hK, hD⟩ := X
      have hI := List.all_eq_true.mp km_I_ok _ (km_fF_mem hf)
      have hlink := km_gw_s (show km_gw pl (.methodLink (km_R po) i objectInit) = true from hI)
      unfold km_Go at k ⊢
      refine W.objInit hx hb hown (hG _ hlink) (hG _ km_oi1) (hG _ km_oi2) rfl (by rw [hml]; exact hls) rfl hd (by omega) ?_ (k H locs w)
      rw [km_cv_sum]
      show 2 * 0 + _ + 12 ≤ _
      omega
    · cases h
  case invokestatic i =>
    split at h
    · rename_i n dp b sp a r z pl hf
      split at h
      · rename_i f g hLa hLb
        split at h
        · rename_i hh
          cases h
          exact km_copy X hls w hf hLa hLb hh (by omega) (by omega) hd k
        · cases h
      · cases h
    · cases h
  case invokevirtual i => exact km_strs X hls w hfr hlo hR h' hd k
end KM7

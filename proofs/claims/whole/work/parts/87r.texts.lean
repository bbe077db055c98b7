/-! the four texts: length() and charAt(), the JDK's own methods walked -/
theorem ds_J0_length_8abf5_0 : decode cJ0_length_8abf5 0 = .ok (.aload_n 0, 1) := by decide +kernel
theorem ds_J0_length_8abf5_1 : decode cJ0_length_8abf5 1 = .ok (.getfield 9, 3) := by decide +kernel
theorem ds_J0_length_8abf5_4 : decode cJ0_length_8abf5 4 = .ok (.arraylength, 1) := by decide +kernel
theorem ds_J0_length_8abf5_5 : decode cJ0_length_8abf5 5 = .ok (.aload_n 0, 1) := by decide +kernel
theorem ds_J0_length_8abf5_6 : decode cJ0_length_8abf5 6 = .ok (.invokevirtual 335, 3) := by decide +kernel
theorem ds_J0_length_8abf5_9 : decode cJ0_length_8abf5 9 = .ok (.ishr, 1) := by decide +kernel
theorem ds_J0_length_8abf5_10 : decode cJ0_length_8abf5 10 = .ok (.ireturn, 1) := by decide +kernel
theorem ds_J0_charAt_5068e_0 : decode cJ0_charAt_5068e 0 = .ok (.aload_n 0, 1) := by decide +kernel
theorem ds_J0_charAt_5068e_1 : decode cJ0_charAt_5068e 1 = .ok (.invokevirtual 492, 3) := by decide +kernel
theorem ds_J0_charAt_5068e_4 : decode cJ0_charAt_5068e 4 = .ok (.ifCond .eq 12, 3) := by decide +kernel
theorem ds_J0_charAt_5068e_7 : decode cJ0_charAt_5068e 7 = .ok (.aload_n 0, 1) := by decide +kernel
theorem ds_J0_charAt_5068e_8 : decode cJ0_charAt_5068e 8 = .ok (.getfield 9, 3) := by decide +kernel
theorem ds_J0_charAt_5068e_11 : decode cJ0_charAt_5068e 11 = .ok (.iload_n 1, 1) := by decide +kernel
theorem ds_J0_charAt_5068e_12 : decode cJ0_charAt_5068e 12 = .ok (.invokestatic 495, 3) := by decide +kernel
theorem ds_J0_charAt_5068e_15 : decode cJ0_charAt_5068e 15 = .ok (.ireturn, 1) := by decide +kernel
theorem ds_J0_charAt_5068e_16 : decode cJ0_charAt_5068e 16 = .ok (.aload_n 0, 1) := by decide +kernel
theorem ds_J0_charAt_5068e_17 : decode cJ0_charAt_5068e 17 = .ok (.getfield 9, 3) := by decide +kernel
theorem ds_J0_charAt_5068e_20 : decode cJ0_charAt_5068e 20 = .ok (.iload_n 1, 1) := by decide +kernel
theorem ds_J0_charAt_5068e_21 : decode cJ0_charAt_5068e 21 = .ok (.invokestatic 498, 3) := by decide +kernel
theorem ds_J0_charAt_5068e_24 : decode cJ0_charAt_5068e 24 = .ok (.ireturn, 1) := by decide +kernel
theorem ds_J0_coder_7d493_0 : decode cJ0_coder_7d493 0 = .ok (.getstatic 38, 3) := by decide +kernel
theorem ds_J0_coder_7d493_3 : decode cJ0_coder_7d493 3 = .ok (.ifCond .eq 10, 3) := by decide +kernel
theorem ds_J0_coder_7d493_6 : decode cJ0_coder_7d493 6 = .ok (.aload_n 0, 1) := by decide +kernel
theorem ds_J0_coder_7d493_7 : decode cJ0_coder_7d493 7 = .ok (.getfield 15, 3) := by decide +kernel
theorem ds_J0_coder_7d493_10 : decode cJ0_coder_7d493 10 = .ok (.goto 4, 3) := by decide +kernel
theorem ds_J0_coder_7d493_13 : decode cJ0_coder_7d493 13 = .ok (.iconst 1, 1) := by decide +kernel
theorem ds_J0_coder_7d493_14 : decode cJ0_coder_7d493 14 = .ok (.ireturn, 1) := by decide +kernel
theorem ds_J0_isLatin1_aae02_0 : decode cJ0_isLatin1_aae02 0 = .ok (.getstatic 38, 3) := by decide +kernel
theorem ds_J0_isLatin1_aae02_3 : decode cJ0_isLatin1_aae02 3 = .ok (.ifCond .eq 14, 3) := by decide +kernel
theorem ds_J0_isLatin1_aae02_6 : decode cJ0_isLatin1_aae02 6 = .ok (.aload_n 0, 1) := by decide +kernel
theorem ds_J0_isLatin1_aae02_7 : decode cJ0_isLatin1_aae02 7 = .ok (.getfield 15, 3) := by decide +kernel
theorem ds_J0_isLatin1_aae02_10 : decode cJ0_isLatin1_aae02 10 = .ok (.ifCond .ne 7, 3) := by decide +kernel
theorem ds_J0_isLatin1_aae02_13 : decode cJ0_isLatin1_aae02 13 = .ok (.iconst 1, 1) := by decide +kernel
theorem ds_J0_isLatin1_aae02_14 : decode cJ0_isLatin1_aae02 14 = .ok (.goto 4, 3) := by decide +kernel
theorem ds_J0_isLatin1_aae02_17 : decode cJ0_isLatin1_aae02 17 = .ok (.iconst 0, 1) := by decide +kernel
theorem ds_J0_isLatin1_aae02_18 : decode cJ0_isLatin1_aae02 18 = .ok (.ireturn, 1) := by decide +kernel
theorem ds_J0_checkIndex_df160_0 : decode cJ0_checkIndex_df160 0 = .ok (.iload_n 0, 1) := by decide +kernel
theorem ds_J0_checkIndex_df160_1 : decode cJ0_checkIndex_df160 1 = .ok (.iload_n 1, 1) := by decide +kernel
theorem ds_J0_checkIndex_df160_2 : decode cJ0_checkIndex_df160 2 = .ok (.getstatic 1053, 3) := by decide +kernel
theorem ds_J0_checkIndex_df160_5 : decode cJ0_checkIndex_df160 5 = .ok (.invokestatic 1059, 3) := by decide +kernel
theorem ds_J0_checkIndex_df160_8 : decode cJ0_checkIndex_df160 8 = .ok (.pop, 1) := by decide +kernel
theorem ds_J0_checkIndex_df160_9 : decode cJ0_checkIndex_df160 9 = .ok (.return_, 1) := by decide +kernel
theorem ds_J1_charAt_3b067_0 : decode cJ1_charAt_3b067 0 = .ok (.iload_n 1, 1) := by decide +kernel
theorem ds_J1_charAt_3b067_1 : decode cJ1_charAt_3b067 1 = .ok (.aload_n 0, 1) := by decide +kernel
theorem ds_J1_charAt_3b067_2 : decode cJ1_charAt_3b067 2 = .ok (.arraylength, 1) := by decide +kernel
theorem ds_J1_charAt_3b067_3 : decode cJ1_charAt_3b067 3 = .ok (.invokestatic 9, 3) := by decide +kernel
theorem ds_J1_charAt_3b067_6 : decode cJ1_charAt_3b067 6 = .ok (.aload_n 0, 1) := by decide +kernel
theorem ds_J1_charAt_3b067_7 : decode cJ1_charAt_3b067 7 = .ok (.iload_n 1, 1) := by decide +kernel
theorem ds_J1_charAt_3b067_8 : decode cJ1_charAt_3b067 8 = .ok (.baload, 1) := by decide +kernel
theorem ds_J1_charAt_3b067_9 : decode cJ1_charAt_3b067 9 = .ok (.sipush 255, 3) := by decide +kernel
theorem ds_J1_charAt_3b067_12 : decode cJ1_charAt_3b067 12 = .ok (.iand, 1) := by decide +kernel
theorem ds_J1_charAt_3b067_13 : decode cJ1_charAt_3b067 13 = .ok (.i2c, 1) := by decide +kernel
theorem ds_J1_charAt_3b067_14 : decode cJ1_charAt_3b067 14 = .ok (.ireturn, 1) := by decide +kernel
theorem ds_J3_checkIndex_8e157_0 : decode cJ3_checkIndex_8e157 0 = .ok (.iload_n 0, 1) := by decide +kernel
theorem ds_J3_checkIndex_8e157_1 : decode cJ3_checkIndex_8e157 1 = .ok (.ifCond .lt 8, 3) := by decide +kernel
theorem ds_J3_checkIndex_8e157_4 : decode cJ3_checkIndex_8e157 4 = .ok (.iload_n 0, 1) := by decide +kernel
theorem ds_J3_checkIndex_8e157_5 : decode cJ3_checkIndex_8e157 5 = .ok (.iload_n 1, 1) := by decide +kernel
theorem ds_J3_checkIndex_8e157_6 : decode cJ3_checkIndex_8e157 6 = .ok (.if_icmp .lt 10, 3) := by decide +kernel
theorem ds_J3_checkIndex_8e157_9 : decode cJ3_checkIndex_8e157 9 = .ok (.aload_n 2, 1) := by decide +kernel
theorem ds_J3_checkIndex_8e157_10 : decode cJ3_checkIndex_8e157 10 = .ok (.iload_n 0, 1) := by decide +kernel
theorem ds_J3_checkIndex_8e157_11 : decode cJ3_checkIndex_8e157 11 = .ok (.iload_n 1, 1) := by decide +kernel
theorem ds_J3_checkIndex_8e157_12 : decode cJ3_checkIndex_8e157 12 = .ok (.invokestatic 95, 3) := by decide +kernel
theorem ds_J3_checkIndex_8e157_15 : decode cJ3_checkIndex_8e157 15 = .ok (.athrow, 1) := by decide +kernel
theorem ds_J3_checkIndex_8e157_16 : decode cJ3_checkIndex_8e157 16 = .ok (.iload_n 0, 1) := by decide +kernel
theorem ds_J3_checkIndex_8e157_17 : decode cJ3_checkIndex_8e157 17 = .ok (.ireturn, 1) := by decide +kernel
set_option maxRecDepth 100000 in
theorem ww_c_J0_length_8abf5 : Cond.code yJ0_length_8abf5 cJ0_length_8abf5 1 (some .int) ∈ km_G := List.mem_filter.mpr ⟨km_t2 (List.mem_of_getElem? (i := 163) rfl), rfl⟩
theorem ww_i_J0_length_8abf5 : Cond.instanceMethod yJ0_length_8abf5 ∈ km_G := km_gw_s (i := 495) (by decide +kernel)
theorem ww_v_J0_length_8abf5 : Cond.selects RJ0 yJ0_length_8abf5 yJ0_length_8abf5 ∈ km_G := km_gw_s (i := 496) (by decide +kernel)
set_option maxRecDepth 100000 in
theorem ww_c_J0_charAt_5068e : Cond.code yJ0_charAt_5068e cJ0_charAt_5068e 2 (some .char) ∈ km_G := List.mem_filter.mpr ⟨km_t2 (List.mem_of_getElem? (i := 173) rfl), rfl⟩
theorem ww_i_J0_charAt_5068e : Cond.instanceMethod yJ0_charAt_5068e ∈ km_G := km_gw_s (i := 505) (by decide +kernel)
theorem ww_v_J0_charAt_5068e : Cond.selects RJ0 yJ0_charAt_5068e yJ0_charAt_5068e ∈ km_G := km_gw_s (i := 506) (by decide +kernel)
set_option maxRecDepth 100000 in
theorem ww_c_J0_coder_7d493 : Cond.code yJ0_coder_7d493 cJ0_coder_7d493 1 (some .byte) ∈ km_G := List.mem_filter.mpr ⟨km_t2 (List.mem_of_getElem? (i := 167) rfl), rfl⟩
theorem ww_i_J0_coder_7d493 : Cond.instanceMethod yJ0_coder_7d493 ∈ km_G := km_gw_s (i := 499) (by decide +kernel)
theorem ww_v_J0_coder_7d493 : Cond.selects RJ0 yJ0_coder_7d493 yJ0_coder_7d493 ∈ km_G := km_gw_s (i := 500) (by decide +kernel)
set_option maxRecDepth 100000 in
theorem ww_c_J0_isLatin1_aae02 : Cond.code yJ0_isLatin1_aae02 cJ0_isLatin1_aae02 1 (some .boolean) ∈ km_G := List.mem_filter.mpr ⟨km_t2 (List.mem_of_getElem? (i := 177) rfl), rfl⟩
theorem ww_i_J0_isLatin1_aae02 : Cond.instanceMethod yJ0_isLatin1_aae02 ∈ km_G := km_gw_s (i := 509) (by decide +kernel)
theorem ww_v_J0_isLatin1_aae02 : Cond.selects RJ0 yJ0_isLatin1_aae02 yJ0_isLatin1_aae02 ∈ km_G := km_gw_s (i := 510) (by decide +kernel)
set_option maxRecDepth 100000 in
theorem ww_c_J0_checkIndex_df160 : Cond.code yJ0_checkIndex_df160 cJ0_checkIndex_df160 2 none ∈ km_G := List.mem_filter.mpr ⟨km_t2 (List.mem_of_getElem? (i := 183) rfl), rfl⟩
theorem ww_s_J0_checkIndex_df160 : Cond.static yJ0_checkIndex_df160 ∈ km_G := km_gw_s (i := 516) (by decide +kernel)
set_option maxRecDepth 100000 in
theorem ww_c_J1_charAt_3b067 : Cond.code yJ1_charAt_3b067 cJ1_charAt_3b067 2 (some .char) ∈ km_G := List.mem_filter.mpr ⟨km_t2 (List.mem_of_getElem? (i := 180) rfl), rfl⟩
theorem ww_s_J1_charAt_3b067 : Cond.static yJ1_charAt_3b067 ∈ km_G := km_gw_s (i := 513) (by decide +kernel)
set_option maxRecDepth 100000 in
theorem ww_c_J3_checkIndex_8e157 : Cond.code yJ3_checkIndex_8e157 cJ3_checkIndex_8e157 3 (some .int) ∈ km_G := List.mem_filter.mpr ⟨km_t2 (List.mem_of_getElem? (i := 188) rfl), rfl⟩
theorem ww_s_J3_checkIndex_8e157 : Cond.static yJ3_checkIndex_8e157 ∈ km_G := km_gw_s (i := 521) (by decide +kernel)
theorem ww_in0 : Cond.initialized RJ0 ∈ km_G := km_gw_s (i := 105) (by decide +kernel)
theorem ww_in1 : Cond.initialized RJ1 ∈ km_G := km_gw_s (i := 106) (by decide +kernel)
theorem ww_in3 : Cond.initialized RJ3 ∈ km_G := km_gw_s (i := 107) (by decide +kernel)
theorem ww_l335 : Cond.methodLink RJ0 335 yJ0_coder_7d493 ∈ km_G := km_gw_s (i := 498) (by decide +kernel)
theorem ww_l492 : Cond.methodLink RJ0 492 yJ0_isLatin1_aae02 ∈ km_G := km_gw_s (i := 508) (by decide +kernel)
theorem ww_l495 : Cond.methodLink RJ0 495 yJ1_charAt_3b067 ∈ km_G := km_gw_s (i := 512) (by decide +kernel)
theorem ww_l1059 : Cond.methodLink RJ0 1059 yJ3_checkIndex_8e157 ∈ km_G := km_gw_s (i := 520) (by decide +kernel)
theorem ww_l9 : Cond.methodLink RJ1 9 yJ0_checkIndex_df160 ∈ km_G := km_gw_s (i := 515) (by decide +kernel)
theorem ww_f38 : Cond.fieldLink RJ0 38 "java/lang/String" "COMPACT_STRINGS" "Z" ∈ km_G := km_gw_s (i := 502) (by decide +kernel)
theorem ww_f15 : Cond.fieldLink RJ0 15 "java/lang/String" "coder" "B" ∈ km_G := km_gw_s (i := 1525) (by decide +kernel)
theorem ww_f9 : Cond.fieldLink RJ0 9 "java/lang/String" "value" "[B" ∈ km_G := km_gw_s (i := 1524) (by decide +kernel)
theorem ww_f1053 : Cond.fieldLink RJ0 1053 "jdk/internal/util/Preconditions" "SIOOBE_FORMATTER" "Ljava/util/function/BiFunction;" ∈ km_G := km_gw_s (i := 518) (by decide +kernel)
def km_jw (y : MethodName) (b : ByteArray) (mx : Nat) (r : Option FieldType) : List Cond := .code y b mx r :: km_G
theorem km_jg {y : MethodName} {b : ByteArray} {mx : Nat} {r : Option FieldType} (h : Cond.code y b mx r ∈ km_G) : ∀ w ∈ km_jw y b mx r, w ∈ km_G := by
  intro w hw
  rcases List.mem_cons.mp hw with rfl | hw
  · exact h
  · exact hw
def km_SP (D : km_D) (av : List Value) : Array Value → State → Prop := va_Pc av (fun U => km_Str D U U.heap)
theorem km_SP_blind (D : km_D) (av : List Value) : FrameBlind (km_SP D av) := by
  intro a U g mk h
  exact ⟨h.1, h.2.moved (u := U) (Vm.Alike.refl U.vm)⟩
def km_QN : Array Value → State → Outcome → State → Prop := fun _ st o t => o = .returned none ∧ t.heap = st.heap
def km_jr (n : Nat) : Room := { frames := n, cells := 0, slots := 0, locals := 32 * n }
theorem km_goodIn {ws : List Cond} (h : ∀ w ∈ ws, w ∈ km_G) : GoodIn km_G ws := fun w hw => ⟨h w hw, good_of_word (List.mem_filter.mp (h w hw)).2⟩
section KJS
variable {p : Program} {l : Launch} {e : Env} {R : Room} {s : State} {m : MethodId} {args : Array Value} {below : List Frame} {meth : Method} {c : Code} {H : Heap} {locs : List Loc} {cells slots : Nat} {Q : State → Prop} {g : JFrame} {rest : List Value} {a : Array Value} {D : km_D}
theorem km_callN (hr : CallRun p l e R s m args below meth c H locs cells slots 0 0 g rest (km_QN #[]) (fun _ => False)) (kk : W p l e R s m args below meth c H locs cells slots Q { g with pc := g.pc + 3, stack := rest }) : W p l e R s m args below meth c H locs cells slots Q g := by
  intro T hT X
  obtain ⟨v, st₀, t, T', L, h0, X', hL, e1, ⟨hv, hh⟩, st⟩ := hr T hT X
  cases hv
  obtain ⟨t2, a1, b1⟩ := kk T' (by rw [e1, hh, h0]) (Stand.forget X' (fun q h => (hL q h).elim))
  exact ⟨t2, st t2 a1, b1⟩
end KJS
def km_A (D : km_D) : Nat → Prop := fun q => km_bs D ≤ q
set_option maxHeartbeats 4000000 in
theorem cs_coder (l : Launch) (D : km_D) {w : Nat} (hw : w < 4) : Met l yJ0_coder_7d493 (km_jw yJ0_coder_7d493 cJ0_coder_7d493 1 (some .byte)) (km_jr 0) (km_SP D [.ref (km_ad D (1000001 + w))]) (QcRead 0) 0 0 (fun _ => False) := by
  refine va_MetF (cc := cJ0_coder_7d493) (maxL := 1) (ret := (some .byte)) (by decide +kernel) rfl ?_
  intro p e s m args below meth c s₁ B hml hv
  obtain ⟨rfl, hZ⟩ := hv
  have hx := B.exec
  have hb := B.bytes
  have hr := B.returns
  have hts := atoms_spec (ws := km_jw yJ0_coder_7d493 cJ0_coder_7d493 1 (some .byte)) B.pre
  have hG : ∀ q9 ∈ km_G, q9.before ([.ref (km_ad D (1000001 + w))] : List Value).toArray s = true := fun q9 hq9 => hts q9 (List.mem_cons_of_mem _ hq9)
  have hown : s.vm.findClass RJ0 = some m.cls := findClass_of_methodNamed B.named
  have hlocks := B.notSynchronized
  have hS : va_S (km_A D) s.heap s.heap [] := va_S.rf
  have hl := lv_entry ([.ref (km_ad D (1000001 + w))]) (n := 1) (Nat.le_of_ble_eq_true rfl)
  rw [lg_entry_eq]
  generalize (lg_sl ([.ref (km_ad D (1000001 + w))]) ++ List.replicate (1 - (lg_sl ([.ref (km_ad D (1000001 + w))])).length) Slot.unset).toArray = ls at hl ⊢
  have hl : lv_has ls 1 [(0, .ref (km_ad D (1000001 + w)))] := hl
  obtain ⟨⟨adV, hV⟩, hC, -⟩ := hZ
  refine va_gets hx hb hC hS hown (hG _ ww_f38) (fun _ h => h) ds_J0_coder_7d493_0 ?_
  refine lv_if_eq (tgt := 13) hx hb ds_J0_coder_7d493_3 rfl (fun h => absurd h (by decide)) (fun _ => ?_)
  refine lv_aload_n hx hb ds_J0_coder_7d493_6 rfl (lv_at hl 0 rfl) ?_
  refine vk_getf hx hb (hV.1 w hw).2.1 hS hown (hG _ ww_f15) (fun _ h => h) ds_J0_coder_7d493_7 ?_
  refine lv_goto (tgt := 14) hx hb ds_J0_coder_7d493_10 rfl ?_
  exact W.zret hx hb hr rfl (fun t ht hW => ⟨rfl, ht⟩) (fun q h => by cases h) ds_J0_coder_7d493_14
set_option maxHeartbeats 4000000 in
theorem cs_latin (l : Launch) (D : km_D) {w : Nat} (hw : w < 4) : Met l yJ0_isLatin1_aae02 (km_jw yJ0_isLatin1_aae02 cJ0_isLatin1_aae02 1 (some .boolean)) (km_jr 0) (km_SP D [.ref (km_ad D (1000001 + w))]) (QcRead 1) 0 0 (fun _ => False) := by
  refine va_MetF (cc := cJ0_isLatin1_aae02) (maxL := 1) (ret := (some .boolean)) (by decide +kernel) rfl ?_
  intro p e s m args below meth c s₁ B hml hv
  obtain ⟨rfl, hZ⟩ := hv
  have hx := B.exec
  have hb := B.bytes
  have hr := B.returns
  have hts := atoms_spec (ws := km_jw yJ0_isLatin1_aae02 cJ0_isLatin1_aae02 1 (some .boolean)) B.pre
  have hG : ∀ q9 ∈ km_G, q9.before ([.ref (km_ad D (1000001 + w))] : List Value).toArray s = true := fun q9 hq9 => hts q9 (List.mem_cons_of_mem _ hq9)
  have hown : s.vm.findClass RJ0 = some m.cls := findClass_of_methodNamed B.named
  have hlocks := B.notSynchronized
  have hS : va_S (km_A D) s.heap s.heap [] := va_S.rf
  have hl := lv_entry ([.ref (km_ad D (1000001 + w))]) (n := 1) (Nat.le_of_ble_eq_true rfl)
  rw [lg_entry_eq]
  generalize (lg_sl ([.ref (km_ad D (1000001 + w))]) ++ List.replicate (1 - (lg_sl ([.ref (km_ad D (1000001 + w))])).length) Slot.unset).toArray = ls at hl ⊢
  have hl : lv_has ls 1 [(0, .ref (km_ad D (1000001 + w)))] := hl
  obtain ⟨⟨adV, hV⟩, hC, -⟩ := hZ
  refine va_gets hx hb hC hS hown (hG _ ww_f38) (fun _ h => h) ds_J0_isLatin1_aae02_0 ?_
  refine lv_if_eq (tgt := 17) hx hb ds_J0_isLatin1_aae02_3 rfl (fun h => absurd h (by decide)) (fun _ => ?_)
  refine lv_aload_n hx hb ds_J0_isLatin1_aae02_6 rfl (lv_at hl 0 rfl) ?_
  refine vk_getf hx hb (hV.1 w hw).2.1 hS hown (hG _ ww_f15) (fun _ h => h) ds_J0_isLatin1_aae02_7 ?_
  refine lv_if_ne (tgt := 17) hx hb ds_J0_isLatin1_aae02_10 rfl (fun h => absurd rfl h) (fun _ => ?_)
  refine lv_iconst (v := 1) hx hb ds_J0_isLatin1_aae02_13 (by decide) ?_
  refine lv_goto (tgt := 18) hx hb ds_J0_isLatin1_aae02_14 rfl ?_
  exact W.zret hx hb hr rfl (fun t ht hW => ⟨rfl, ht⟩) (fun q h => by cases h) ds_J0_isLatin1_aae02_18
set_option maxHeartbeats 4000000 in
theorem cs_length (l : Launch) (D : km_D) {w : Nat} (hw : w < 4) : Met l yJ0_length_8abf5 (km_jw yJ0_length_8abf5 cJ0_length_8abf5 1 (some .int)) (km_jr 1) (km_SP D [.ref (km_ad D (1000001 + w))]) (QcRead (Int32.ofNat (km_tx w).length)) 0 0 (fun _ => False) := by
  refine va_MetF (cc := cJ0_length_8abf5) (maxL := 1) (ret := (some .int)) (by decide +kernel) rfl ?_
  intro p e s m args below meth c s₁ B hml hv
  obtain ⟨rfl, hZ⟩ := hv
  have hx := B.exec
  have hb := B.bytes
  have hr := B.returns
  have hts := atoms_spec (ws := km_jw yJ0_length_8abf5 cJ0_length_8abf5 1 (some .int)) B.pre
  have hG : ∀ q9 ∈ km_G, q9.before ([.ref (km_ad D (1000001 + w))] : List Value).toArray s = true := fun q9 hq9 => hts q9 (List.mem_cons_of_mem _ hq9)
  have hown : s.vm.findClass RJ0 = some m.cls := findClass_of_methodNamed B.named
  have hlocks := B.notSynchronized
  have hS : va_S (km_A D) s.heap s.heap [] := va_S.rf
  have hl := lv_entry ([.ref (km_ad D (1000001 + w))]) (n := 1) (Nat.le_of_ble_eq_true rfl)
  rw [lg_entry_eq]
  generalize (lg_sl ([.ref (km_ad D (1000001 + w))]) ++ List.replicate (1 - (lg_sl ([.ref (km_ad D (1000001 + w))])).length) Slot.unset).toArray = ls at hl ⊢
  have hl : lv_has ls 1 [(0, .ref (km_ad D (1000001 + w)))] := hl
  have hZ0 := hZ
  obtain ⟨⟨adV, hV⟩, hC, -⟩ := hZ
  refine lv_aload_n hx hb ds_J0_length_8abf5_0 rfl (lv_at hl 0 rfl) ?_
  refine vk_getf hx hb (hV.1 w hw).2.2.1 hS hown (hG _ ww_f9) (fun _ h => h) ds_J0_length_8abf5_1 ?_
  refine va_tlen (v := Int32.ofNat (km_tx w).length) hx hb (hV.1 w hw).2.2.2 hS (by rcases (show w = 0 ∨ w = 1 ∨ w = 2 ∨ w = 3 by omega) with rfl | rfl | rfl | rfl <;> rfl) ds_J0_length_8abf5_4 ?_
  refine lv_aload_n hx hb ds_J0_length_8abf5_5 rfl (lv_at hl 0 rfl) ?_
  obtain ⟨cellB, b1, b2, b3⟩ := vk_recv hV hw hS
  refine W.callR (r := 0) (W.runV (As := []) (rest := [.int (Int32.ofNat (km_tx w).length)]) ⟨hx, hb, hml, hown, hG⟩ (cs_coder l D hw) (cwV 0 hG (C := RJ0) (km_goodIn (fun z hz => by
      unfold wsV at hz
      rcases List.mem_append.mp hz with hz | hz
      · simp only [List.mem_cons, List.not_mem_nil, or_false] at hz
        rcases hz with rfl | rfl | rfl | rfl
        · exact ww_l335
        · exact ww_i_J0_coder_7d493
        · exact ww_v_J0_coder_7d493
        · exact ww_in0
      · exact km_jg ww_c_J0_coder_7d493 z hz)) rfl rfl rfl (by decide +kernel) ⟨Nat.le_of_ble_eq_true rfl, Nat.le_of_ble_eq_true rfl⟩)
    ⟨km_SP_blind D _, ⟨cellB, b1, b2, b3⟩, fun U hU hW => ⟨rfl, by show km_Str D U U.heap; rw [hU]; exact hZ0.moved hW.alike⟩⟩ rfl rfl hl.1 rfl (Nat.le_of_ble_eq_true rfl) ds_J0_length_8abf5_6 ⟨Nat.le_refl _, Nat.le_refl _⟩) ?_
  refine lv_ishr hx hb ds_J0_length_8abf5_9 ?_
  rw [show Int32.ofNat (km_tx w).length >>> ((0 : Int32) &&& 31) = Int32.ofNat (km_tx w).length by rcases (show w = 0 ∨ w = 1 ∨ w = 2 ∨ w = 3 by omega) with rfl | rfl | rfl | rfl <;> decide]
  exact W.iret hx hb hr (fun t ht hW => ⟨rfl, ht⟩) (fun q h => by cases h) ds_J0_length_8abf5_10
/-- what charAt reads: the texts, and the formatter that it does not use -/
def km_SV (D : km_D) (adV : Nat → Nat) (U : State) : Prop := vk_S 4 [4, 5, 4, 5] km_txB (fun i => km_ad D (1000001 + i)) adV (km_A D) U U.heap ∧ va_Zq "jdk/internal/util/Preconditions" "SIOOBE_FORMATTER" "Ljava/util/function/BiFunction;" (km_A D) U U.heap
def km_SP2 (D : km_D) (adV : Nat → Nat) (av : List Value) : Array Value → State → Prop := va_Pc av (fun U => km_SV D adV U)
theorem km_SV.at {D : km_D} {adV : Nat → Nat} {u U : State} (hv : u.vm.Alike U.vm) (hh : U.heap = u.heap) (h : km_SV D adV u) : km_SV D adV U := by
  refine ⟨?_, ?_⟩
  · rw [hh]; exact h.1.moved hv
  · rw [hh]; exact h.2.moved hv
theorem km_SP2_blind (D : km_D) (adV : Nat → Nat) (av : List Value) : FrameBlind (km_SP2 D adV av) := by
  intro a U g mk h
  exact ⟨h.1, h.2.at (u := U) (Vm.Alike.refl U.vm) rfl⟩
theorem k_txl : ∀ w, w < 4 → ([4, 5, 4, 5] : List Nat).getD w 0 = (km_tx w).length := by decide
def k_txB (w k : Nat) : Bool := decide ((km_txB.getD w []).getD k 0 = Int32.ofNat ((km_tx w).getD k 0)) && (decide (Int32.ofNat ((km_tx w).getD k 0) &&& 255 = Int32.ofNat ((km_tx w).getD k 0)) && (decide (((Int32.ofNat ((km_tx w).getD k 0)).toUInt32 % 65536).toInt32 = Int32.ofNat ((km_tx w).getD k 0)) && (decide (¬ Int32.ofNat k < 0) && (decide (Int32.ofNat k < Int32.ofNat (km_tx w).length) && decide ((Int32.ofNat k).toNatClampNeg = k)))))
theorem k_txB_ok : (List.range 4).all (fun w => (List.range (km_tx w).length).all (fun k => k_txB w k)) = true := by decide +kernel
theorem k_txd : ∀ w, w < 4 → ∀ k, k < (km_tx w).length → ∀ b, b < 128 → (km_tx w)[k]? = some b → ((km_txB.getD w []).getD k 0 = Int32.ofNat b ∧ (Int32.ofNat b &&& 255 = Int32.ofNat b) ∧ ((Int32.ofNat b).toUInt32 % 65536).toInt32 = Int32.ofNat b) ∧ ¬ Int32.ofNat k < 0 ∧ Int32.ofNat k < Int32.ofNat (km_tx w).length ∧ (Int32.ofNat k).toNatClampNeg = k := fun w hw k hk b _ h => by
  have h1 := List.all_eq_true.mp (List.all_eq_true.mp k_txB_ok w (List.mem_range.mpr hw)) k (List.mem_range.mpr hk)
  have e : (km_tx w).getD k 0 = b := by rw [List.getD, h]; rfl
  unfold k_txB at h1
  rw [e] at h1
  simp only [Bool.and_eq_true, decide_eq_true_eq] at h1
  obtain ⟨a1, a2, a3, a4, a5, a6⟩ := h1
  exact ⟨⟨a1, a2, a3⟩, a4, a5, a6⟩
theorem k_txc : ∀ w, w < 4 → ∀ k, k < (km_tx w).length → ∀ b, b < 128 → (km_tx w)[k]? = some b → ((km_txB.getD w []).getD k 0 = Int32.ofNat b ∧ (Int32.ofNat b &&& 255 = Int32.ofNat b) ∧ ((Int32.ofNat b).toUInt32 % 65536).toInt32 = Int32.ofNat b ∧ narrow .char (.int (Int32.ofNat b)) = .int (Int32.ofNat b)) ∧ ¬ Int32.ofNat k < 0 ∧ Int32.ofNat k < Int32.ofNat (km_tx w).length ∧ (Int32.ofNat k).toNatClampNeg = k := fun w hw k hk b hb h => by
  obtain ⟨⟨a1, a2, a3⟩, a4, a5, a6⟩ := k_txd w hw k hk b hb h
  exact ⟨⟨a1, a2, a3, congrArg Value.int a3⟩, a4, a5, a6⟩
theorem k_txb : ∀ w, w < 4 → (km_tx w).all (fun b => Nat.blt b 128) = true := by decide
set_option maxHeartbeats 4000000 in
theorem cs_pren (l : Launch) (D : km_D) (adV : Nat → Nat) {i n : Int32} (h0 : ¬ i < 0) (h1 : i < n) : Met l yJ3_checkIndex_8e157 (km_jw yJ3_checkIndex_8e157 cJ3_checkIndex_8e157 3 (some .int)) (km_jr 0) (km_SP2 D adV [.int i, .int n, .null]) (QcRead i) 0 0 (fun _ => False) := by
  refine va_MetF (cc := cJ3_checkIndex_8e157) (maxL := 3) (ret := (some .int)) (by decide +kernel) rfl ?_
  intro p e s m args below meth c s₁ B hml hv
  obtain ⟨rfl, hZ⟩ := hv
  have hx := B.exec
  have hb := B.bytes
  have hr := B.returns
  have hts := atoms_spec (ws := km_jw yJ3_checkIndex_8e157 cJ3_checkIndex_8e157 3 (some .int)) B.pre
  have hG : ∀ q9 ∈ km_G, q9.before ([.int i, .int n, .null] : List Value).toArray s = true := fun q9 hq9 => hts q9 (List.mem_cons_of_mem _ hq9)
  have hown : s.vm.findClass RJ3 = some m.cls := findClass_of_methodNamed B.named
  have hlocks := B.notSynchronized
  have hS : va_S (km_A D) s.heap s.heap [] := va_S.rf
  have hl := lv_entry ([.int i, .int n, .null]) (n := 3) (Nat.le_of_ble_eq_true rfl)
  rw [lg_entry_eq]
  generalize (lg_sl ([.int i, .int n, .null]) ++ List.replicate (3 - (lg_sl ([.int i, .int n, .null])).length) Slot.unset).toArray = ls at hl ⊢
  have hl : lv_has ls 3 [(0, .int i), (1, .int n), (2, .null)] := hl
  refine lv_iload_n hx hb ds_J3_checkIndex_8e157_0 rfl (lv_at hl 0 rfl) ?_
  refine lv_if_lt (tgt := 9) hx hb ds_J3_checkIndex_8e157_1 rfl (fun h => absurd h h0) (fun _ => ?_)
  refine lv_iload_n hx hb ds_J3_checkIndex_8e157_4 rfl (lv_at hl 0 rfl) ?_
  refine lv_iload_n hx hb ds_J3_checkIndex_8e157_5 rfl (lv_at hl 1 rfl) ?_
  refine lv_icmp_lt (tgt := 16) hx hb ds_J3_checkIndex_8e157_6 rfl (fun _ => ?_) (fun h => absurd h1 h)
  refine lv_iload_n hx hb ds_J3_checkIndex_8e157_16 rfl (lv_at hl 0 rfl) ?_
  exact W.iret hx hb hr (fun t ht hW => ⟨rfl, ht⟩) (fun q h => by cases h) ds_J3_checkIndex_8e157_17
set_option maxHeartbeats 4000000 in
theorem cs_prer (l : Launch) (D : km_D) (adV : Nat → Nat) {i n : Int32} {z : Nat} (h0 : ¬ i < 0) (h1 : i < n) : Met l yJ3_checkIndex_8e157 (km_jw yJ3_checkIndex_8e157 cJ3_checkIndex_8e157 3 (some .int)) (km_jr 0) (km_SP2 D adV [.int i, .int n, .ref z]) (QcRead i) 0 0 (fun _ => False) := by
  refine va_MetF (cc := cJ3_checkIndex_8e157) (maxL := 3) (ret := (some .int)) (by decide +kernel) rfl ?_
  intro p e s m args below meth c s₁ B hml hv
  obtain ⟨rfl, hZ⟩ := hv
  have hx := B.exec
  have hb := B.bytes
  have hr := B.returns
  have hts := atoms_spec (ws := km_jw yJ3_checkIndex_8e157 cJ3_checkIndex_8e157 3 (some .int)) B.pre
  have hG : ∀ q9 ∈ km_G, q9.before ([.int i, .int n, .ref z] : List Value).toArray s = true := fun q9 hq9 => hts q9 (List.mem_cons_of_mem _ hq9)
  have hown : s.vm.findClass RJ3 = some m.cls := findClass_of_methodNamed B.named
  have hlocks := B.notSynchronized
  have hS : va_S (km_A D) s.heap s.heap [] := va_S.rf
  have hl := lv_entry ([.int i, .int n, .ref z]) (n := 3) (Nat.le_of_ble_eq_true rfl)
  rw [lg_entry_eq]
  generalize (lg_sl ([.int i, .int n, .ref z]) ++ List.replicate (3 - (lg_sl ([.int i, .int n, .ref z])).length) Slot.unset).toArray = ls at hl ⊢
  have hl : lv_has ls 3 [(0, .int i), (1, .int n), (2, .ref z)] := hl
  refine lv_iload_n hx hb ds_J3_checkIndex_8e157_0 rfl (lv_at hl 0 rfl) ?_
  refine lv_if_lt (tgt := 9) hx hb ds_J3_checkIndex_8e157_1 rfl (fun h => absurd h h0) (fun _ => ?_)
  refine lv_iload_n hx hb ds_J3_checkIndex_8e157_4 rfl (lv_at hl 0 rfl) ?_
  refine lv_iload_n hx hb ds_J3_checkIndex_8e157_5 rfl (lv_at hl 1 rfl) ?_
  refine lv_icmp_lt (tgt := 16) hx hb ds_J3_checkIndex_8e157_6 rfl (fun _ => ?_) (fun h => absurd h1 h)
  refine lv_iload_n hx hb ds_J3_checkIndex_8e157_16 rfl (lv_at hl 0 rfl) ?_
  exact W.iret hx hb hr (fun t ht hW => ⟨rfl, ht⟩) (fun q h => by cases h) ds_J3_checkIndex_8e157_17
set_option maxHeartbeats 4000000 in
theorem cs_chk (l : Launch) (D : km_D) (adV : Nat → Nat) {i n : Int32} (h0 : ¬ i < 0) (h1 : i < n) : Met l yJ0_checkIndex_df160 (km_jw yJ0_checkIndex_df160 cJ0_checkIndex_df160 2 none) (km_jr 1) (km_SP2 D adV [.int i, .int n]) km_QN 0 0 (fun _ => False) := by
  refine va_MetF (cc := cJ0_checkIndex_df160) (maxL := 2) (ret := none) (by decide +kernel) rfl ?_
  intro p e s m args below meth c s₁ B hml hv
  obtain ⟨rfl, hZ⟩ := hv
  have hx := B.exec
  have hb := B.bytes
  have hr := B.returns
  have hts := atoms_spec (ws := km_jw yJ0_checkIndex_df160 cJ0_checkIndex_df160 2 none) B.pre
  have hG : ∀ q9 ∈ km_G, q9.before ([.int i, .int n] : List Value).toArray s = true := fun q9 hq9 => hts q9 (List.mem_cons_of_mem _ hq9)
  have hown : s.vm.findClass RJ0 = some m.cls := findClass_of_methodNamed B.named
  have hlocks := B.notSynchronized
  have hS : va_S (km_A D) s.heap s.heap [] := va_S.rf
  have hl := lv_entry ([.int i, .int n]) (n := 2) (Nat.le_of_ble_eq_true rfl)
  rw [lg_entry_eq]
  generalize (lg_sl ([.int i, .int n]) ++ List.replicate (2 - (lg_sl ([.int i, .int n])).length) Slot.unset).toArray = ls at hl ⊢
  have hl : lv_has ls 2 [(0, .int i), (1, .int n)] := hl
  refine lv_iload_n hx hb ds_J0_checkIndex_df160_0 rfl (lv_at hl 0 rfl) ?_
  refine lv_iload_n hx hb ds_J0_checkIndex_df160_1 rfl (lv_at hl 1 rfl) ?_
  rcases hZ.2 with hq | ⟨z, hq⟩
  · refine va_gets hx hb hq hS hown (hG _ ww_f1053) (fun _ h => h) ds_J0_checkIndex_df160_2 ?_
    refine W.callR (r := i) (W.runS (As := [.int i, .int n, .null]) (rest := []) ⟨hx, hb, hml, hown, hG⟩ (cs_pren l D adV h0 h1) (va_cwS 3 hG (km_goodIn (fun z hz => by
      unfold va_wsS at hz
      rcases List.mem_append.mp hz with hz | hz
      · simp only [List.mem_cons, List.not_mem_nil, or_false] at hz
        rcases hz with rfl | rfl | rfl
        · exact ww_l1059
        · exact ww_s_J3_checkIndex_8e157
        · exact ww_in3
      · exact km_jg ww_c_J3_checkIndex_8e157 z hz)) rfl rfl rfl (by decide +kernel) ⟨Nat.le_of_ble_eq_true rfl, Nat.le_of_ble_eq_true rfl⟩)
      ⟨km_SP2_blind D _ _, fun U hU hW => ⟨rfl, hZ.at hW.alike hU⟩⟩ rfl rfl hl.1 rfl (Nat.le_of_ble_eq_true rfl) ds_J0_checkIndex_df160_5 ⟨Nat.le_refl _, Nat.le_refl _⟩) ?_
    refine lv_pop hx hb ds_J0_checkIndex_df160_8 rfl ?_
    exact W.vret hx hb hr (fun t ht hW => ⟨rfl, ht⟩) (fun q h => by cases h) ds_J0_checkIndex_df160_9
  · refine va_gets hx hb hq hS hown (hG _ ww_f1053) (fun _ h => h) ds_J0_checkIndex_df160_2 ?_
    refine W.callR (r := i) (W.runS (As := [.int i, .int n, .ref z]) (rest := []) ⟨hx, hb, hml, hown, hG⟩ (cs_prer l D adV h0 h1) (va_cwS 3 hG (km_goodIn (fun z hz => by
      unfold va_wsS at hz
      rcases List.mem_append.mp hz with hz | hz
      · simp only [List.mem_cons, List.not_mem_nil, or_false] at hz
        rcases hz with rfl | rfl | rfl
        · exact ww_l1059
        · exact ww_s_J3_checkIndex_8e157
        · exact ww_in3
      · exact km_jg ww_c_J3_checkIndex_8e157 z hz)) rfl rfl rfl (by decide +kernel) ⟨Nat.le_of_ble_eq_true rfl, Nat.le_of_ble_eq_true rfl⟩)
      ⟨km_SP2_blind D _ _, fun U hU hW => ⟨rfl, hZ.at hW.alike hU⟩⟩ rfl rfl hl.1 rfl (Nat.le_of_ble_eq_true rfl) ds_J0_checkIndex_df160_5 ⟨Nat.le_refl _, Nat.le_refl _⟩) ?_
    refine lv_pop hx hb ds_J0_checkIndex_df160_8 rfl ?_
    exact W.vret hx hb hr (fun t ht hW => ⟨rfl, ht⟩) (fun q h => by cases h) ds_J0_checkIndex_df160_9

set_option maxHeartbeats 4000000 in
theorem cs_lchar (l : Launch) (D : km_D) (adV : Nat → Nat) {w k b : Nat} (hw : w < 4) (hk : k < (km_tx w).length) (hb128 : b < 128) (hkb : (km_tx w)[k]? = some b) : Met l yJ1_charAt_3b067 (km_jw yJ1_charAt_3b067 cJ1_charAt_3b067 2 (some .char)) (km_jr 2) (km_SP2 D adV [.ref (adV w), .int (Int32.ofNat k)]) (QcRead (Int32.ofNat b)) 0 0 (fun _ => False) := by
  refine va_MetF (cc := cJ1_charAt_3b067) (maxL := 2) (ret := (some .char)) (by decide +kernel) rfl ?_
  intro p e s m args below meth c s₁ B hml hv
  obtain ⟨rfl, hZ⟩ := hv
  have hx := B.exec
  have hb := B.bytes
  have hr := B.returns
  have hts := atoms_spec (ws := km_jw yJ1_charAt_3b067 cJ1_charAt_3b067 2 (some .char)) B.pre
  have hG : ∀ q9 ∈ km_G, q9.before ([.ref (adV w), .int (Int32.ofNat k)] : List Value).toArray s = true := fun q9 hq9 => hts q9 (List.mem_cons_of_mem _ hq9)
  have hown : s.vm.findClass RJ1 = some m.cls := findClass_of_methodNamed B.named
  have hlocks := B.notSynchronized
  have hS : va_S (km_A D) s.heap s.heap [] := va_S.rf
  have hl := lv_entry ([.ref (adV w), .int (Int32.ofNat k)]) (n := 2) (Nat.le_of_ble_eq_true rfl)
  rw [lg_entry_eq]
  generalize (lg_sl ([.ref (adV w), .int (Int32.ofNat k)]) ++ List.replicate (2 - (lg_sl ([.ref (adV w), .int (Int32.ofNat k)])).length) Slot.unset).toArray = ls at hl ⊢
  have hl : lv_has ls 2 [(0, .ref (adV w)), (1, .int (Int32.ofNat k))] := hl
  obtain ⟨⟨f1, f2, f3, f4⟩, f5, f6, f7⟩ := k_txc w hw k hk b hb128 hkb
  have hV := (hZ.1.1 w hw).2.2.2
  refine lv_iload_n hx hb ds_J1_charAt_3b067_0 rfl (lv_at hl 1 rfl) ?_
  refine lv_aload_n hx hb ds_J1_charAt_3b067_1 rfl (lv_at hl 0 rfl) ?_
  refine va_tlen (v := Int32.ofNat (km_tx w).length) hx hb hV hS (by rw [k_txl w hw]) ds_J1_charAt_3b067_2 ?_
  refine km_callN (W.runS (As := [.int (Int32.ofNat k), .int (Int32.ofNat (km_tx w).length)]) (rest := []) ⟨hx, hb, hml, hown, hG⟩ (cs_chk l D adV f5 f6) (va_cwS 2 hG (km_goodIn (fun z hz => by
      unfold va_wsS at hz
      rcases List.mem_append.mp hz with hz | hz
      · simp only [List.mem_cons, List.not_mem_nil, or_false] at hz
        rcases hz with rfl | rfl | rfl
        · exact ww_l9
        · exact ww_s_J0_checkIndex_df160
        · exact ww_in0
      · exact km_jg ww_c_J0_checkIndex_df160 z hz)) rfl rfl rfl (by decide +kernel) ⟨Nat.le_of_ble_eq_true rfl, Nat.le_of_ble_eq_true rfl⟩)
      ⟨km_SP2_blind D _ _, fun U hU hW => ⟨rfl, hZ.at hW.alike hU⟩⟩ rfl rfl hl.1 rfl (Nat.le_of_ble_eq_true rfl) ds_J1_charAt_3b067_3 ⟨Nat.le_refl _, Nat.le_refl _⟩) ?_
  refine lv_aload_n hx hb ds_J1_charAt_3b067_6 rfl (lv_at hl 0 rfl) ?_
  refine lv_iload_n hx hb ds_J1_charAt_3b067_7 rfl (lv_at hl 1 rfl) ?_
  refine va_tb (v := .int (Int32.ofNat b)) hx hb hV hS (fun z => z.elim f5 (fun z => by rw [f7, k_txl w hw] at z; omega)) (by rw [f7]; exact congrArg Value.int f1) ds_J1_charAt_3b067_8 ?_
  refine lv_sipush (v := 255) hx hb ds_J1_charAt_3b067_9 (by decide) ?_
  refine lv_iand hx hb ds_J1_charAt_3b067_12 ?_
  rw [f2]
  refine lv_i2c (v := Int32.ofNat b) hx hb ds_J1_charAt_3b067_13 f3 ?_
  exact W.zret hx hb hr f4 (fun t ht hW => ⟨rfl, ht⟩) (fun q h => by cases h) ds_J1_charAt_3b067_14

set_option maxHeartbeats 4000000 in
theorem cs_char (l : Launch) (D : km_D) {w k b : Nat} (hw : w < 4) (hk : k < (km_tx w).length) (hb128 : b < 128) (hkb : (km_tx w)[k]? = some b) : Met l yJ0_charAt_5068e (km_jw yJ0_charAt_5068e cJ0_charAt_5068e 2 (some .char)) (km_jr 3) (km_SP D [.ref (km_ad D (1000001 + w)), .int (Int32.ofNat k)]) (QcRead (Int32.ofNat b)) 0 0 (fun _ => False) := by
  refine va_MetF (cc := cJ0_charAt_5068e) (maxL := 2) (ret := (some .char)) (by decide +kernel) rfl ?_
  intro p e s m args below meth c s₁ B hml hv
  obtain ⟨rfl, hZ⟩ := hv
  have hx := B.exec
  have hb := B.bytes
  have hr := B.returns
  have hts := atoms_spec (ws := km_jw yJ0_charAt_5068e cJ0_charAt_5068e 2 (some .char)) B.pre
  have hG : ∀ q9 ∈ km_G, q9.before ([.ref (km_ad D (1000001 + w)), .int (Int32.ofNat k)] : List Value).toArray s = true := fun q9 hq9 => hts q9 (List.mem_cons_of_mem _ hq9)
  have hown : s.vm.findClass RJ0 = some m.cls := findClass_of_methodNamed B.named
  have hlocks := B.notSynchronized
  have hS : va_S (km_A D) s.heap s.heap [] := va_S.rf
  have hl := lv_entry ([.ref (km_ad D (1000001 + w)), .int (Int32.ofNat k)]) (n := 2) (Nat.le_of_ble_eq_true rfl)
  rw [lg_entry_eq]
  generalize (lg_sl ([.ref (km_ad D (1000001 + w)), .int (Int32.ofNat k)]) ++ List.replicate (2 - (lg_sl ([.ref (km_ad D (1000001 + w)), .int (Int32.ofNat k)])).length) Slot.unset).toArray = ls at hl ⊢
  have hl : lv_has ls 2 [(0, .ref (km_ad D (1000001 + w))), (1, .int (Int32.ofNat k))] := hl
  have hZ0 := hZ
  obtain ⟨⟨adV, hV⟩, hC, hF⟩ := hZ
  obtain ⟨⟨f1, f2, f3, f4⟩, f5, f6, f7⟩ := k_txc w hw k hk b hb128 hkb
  refine lv_aload_n hx hb ds_J0_charAt_5068e_0 rfl (lv_at hl 0 rfl) ?_
  obtain ⟨cellB, b1, b2, b3⟩ := vk_recv hV hw hS
  refine W.callR (r := 1) (W.runV (As := []) (rest := []) ⟨hx, hb, hml, hown, hG⟩ (cs_latin l D hw) (cwV 0 hG (C := RJ0) (km_goodIn (fun z hz => by
      unfold wsV at hz
      rcases List.mem_append.mp hz with hz | hz
      · simp only [List.mem_cons, List.not_mem_nil, or_false] at hz
        rcases hz with rfl | rfl | rfl | rfl
        · exact ww_l492
        · exact ww_i_J0_isLatin1_aae02
        · exact ww_v_J0_isLatin1_aae02
        · exact ww_in0
      · exact km_jg ww_c_J0_isLatin1_aae02 z hz)) rfl rfl rfl (by decide +kernel) ⟨Nat.le_of_ble_eq_true rfl, Nat.le_of_ble_eq_true rfl⟩)
    ⟨km_SP_blind D _, ⟨cellB, b1, b2, b3⟩, fun U hU hW => ⟨rfl, by show km_Str D U U.heap; rw [hU]; exact hZ0.moved hW.alike⟩⟩ rfl rfl hl.1 rfl (Nat.le_of_ble_eq_true rfl) ds_J0_charAt_5068e_1 ⟨Nat.le_refl _, Nat.le_refl _⟩) ?_
  refine lv_if_eq (tgt := 16) hx hb ds_J0_charAt_5068e_4 rfl (fun h => absurd h (by decide)) (fun _ => ?_)
  refine lv_aload_n hx hb ds_J0_charAt_5068e_7 rfl (lv_at hl 0 rfl) ?_
  refine vk_getf hx hb (hV.1 w hw).2.2.1 hS hown (hG _ ww_f9) (fun _ h => h) ds_J0_charAt_5068e_8 ?_
  refine lv_iload_n hx hb ds_J0_charAt_5068e_11 rfl (lv_at hl 1 rfl) ?_
  refine W.callR (r := Int32.ofNat b) (W.runS (As := [.ref (adV w), .int (Int32.ofNat k)]) (rest := []) ⟨hx, hb, hml, hown, hG⟩ (cs_lchar l D adV hw hk hb128 hkb) (va_cwS 2 hG (km_goodIn (fun z hz => by
      unfold va_wsS at hz
      rcases List.mem_append.mp hz with hz | hz
      · simp only [List.mem_cons, List.not_mem_nil, or_false] at hz
        rcases hz with rfl | rfl | rfl
        · exact ww_l495
        · exact ww_s_J1_charAt_3b067
        · exact ww_in1
      · exact km_jg ww_c_J1_charAt_3b067 z hz)) rfl rfl rfl (by decide +kernel) ⟨Nat.le_of_ble_eq_true rfl, Nat.le_of_ble_eq_true rfl⟩)
      ⟨km_SP2_blind D _ _, fun U hU hW => ⟨rfl, km_SV.at (u := s) hW.alike hU ⟨hV, hF⟩⟩⟩ rfl rfl hl.1 rfl (Nat.le_of_ble_eq_true rfl) ds_J0_charAt_5068e_12 ⟨Nat.le_refl _, Nat.le_refl _⟩) ?_
  exact W.zret hx hb hr f4 (fun t ht hW => ⟨rfl, ht⟩) (fun q h => by cases h) ds_J0_charAt_5068e_15


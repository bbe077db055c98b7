/-! the machine follows: locals -/
def km_LS (ad : Nat → Nat) (LS : Array Slot) (ls : km_L) : Prop := lv_has LS ls.length [] ∧ ∀ (i : Nat) (v : Value), ls[i]? = some (some v) → LS[i]? = some (.val (km_cv ad v))
def km_en (ad : Nat → Nat) (ls : km_L) : List (Nat × Value) := ls.zipIdx.filterMap fun q => q.1.map fun v => (q.2, km_cv ad v)
theorem km_en_mem {ad : Nat → Nat} {ls : km_L} {i : Nat} {v : Value} (h : ls[i]? = some (some v)) : (i, km_cv ad v) ∈ km_en ad ls := by
  unfold km_en
  exact List.mem_filterMap.mpr ⟨(some v, i), List.mem_zipIdx_iff_getElem?.mpr h, rfl⟩
theorem km_en_out {ad : Nat → Nat} {ls : km_L} {q : Nat × Value} (h : q ∈ km_en ad ls) : ∃ v, ls[q.1]? = some (some v) ∧ q.2 = km_cv ad v := by
  unfold km_en at h
  obtain ⟨⟨x, i⟩, h1, h2⟩ := List.mem_filterMap.mp h
  have h3 := List.mem_zipIdx_iff_getElem?.mp h1
  cases x with
  | none => cases h2
  | some v =>
    have h4 := Option.some.inj h2
    subst h4
    exact ⟨v, h3, rfl⟩
theorem km_LS.has {ad : Nat → Nat} {LS : Array Slot} {ls : km_L} (h : km_LS ad LS ls) : lv_has LS ls.length (km_en ad ls) := by
  refine ⟨h.1.1, h.1.2.1, fun q hq => ?_⟩
  obtain ⟨v, h1, h2⟩ := km_en_out hq
  rw [h2]
  exact h.2 _ _ h1
theorem km_LS.of {ad : Nat → Nat} {LS : Array Slot} {ls : km_L} {n : Nat} {l : List (Nat × Value)} (h : lv_has LS n l) (hn : ls.length = n) (hl : ∀ (i : Nat) (v : Value), ls[i]? = some (some v) → (i, km_cv ad v) ∈ l) : km_LS ad LS ls := by
  subst hn
  exact ⟨⟨h.1, h.2.1, fun q hq => by cases hq⟩, fun i v hv => h.2.2 _ (hl i v hv)⟩
theorem km_st1_s {ad : Nat → Nat} {LS : Array Slot} {ls ls' : km_L} {i : Nat} {v : Value} (h : km_st1 ls i v = some ls') : i < ls.length ∧ ∀ LS' : Array Slot, lv_has LS' ls.length ((i, km_cv ad v) :: (km_en ad ls).filter (fun q => !(q.1 == i) && !(q.1 + 1 == i && q.2.category == 2))) → km_LS ad LS' ls' := by
  unfold km_st1 at h
  rcases km_cb h with ⟨hb, h2⟩ | ⟨-, h2⟩
  · have hi : i < ls.length := Nat.le_of_ble_eq_true hb
    refine ⟨hi, fun LS' h' => ?_⟩
    obtain rfl := Option.some.inj h2
    refine km_LS.of h' (by rw [List.length_set, km_clr_len]) fun j w hw => ?_
    by_cases hj : i = j
    · subst hj
      rw [List.getElem?_set_self (by rw [km_clr_len]; exact hi)] at hw
      obtain rfl := Option.some.inj (Option.some.inj hw)
      exact List.mem_cons_self
    · rw [List.getElem?_set_ne hj] at hw
      obtain ⟨hw, h2⟩ := km_clr_s hw
      refine List.mem_cons_of_mem _ (List.mem_filter.mpr ⟨km_en_mem hw, ?_⟩)
      have h3 : ¬ j = i := fun q => hj q.symm
      simp only [km_cv_cat]
      by_cases h4 : j + 1 = i
      · have h5 : ¬ w.category = 2 := fun q => h2 ⟨h4, q⟩
        simp [h3, h5]
      · simp [h3, h4]
  · cases h2
theorem km_st2_s {ad : Nat → Nat} {LS : Array Slot} {ls ls' : km_L} {i : Nat} {v : Value} (h : km_st2 ls i v = some ls') : i + 1 < ls.length ∧ ∀ LS' : Array Slot, lv_has LS' ls.length ((i, km_cv ad v) :: (km_en ad ls).filter (fun q => !(q.1 == i) && (!(q.1 == i + 1) && !(q.1 + 1 == i && q.2.category == 2)))) → km_LS ad LS' ls' := by
  unfold km_st2 at h
  rcases km_cb h with ⟨hb, h2⟩ | ⟨-, h2⟩
  · have hi : i + 1 < ls.length := Nat.le_of_ble_eq_true hb
    refine ⟨hi, fun LS' h' => ?_⟩
    obtain rfl := Option.some.inj h2
    refine km_LS.of h' (by rw [List.length_set, List.length_set, km_clr_len]) fun j w hw => ?_
    by_cases hj1 : i + 1 = j
    · subst hj1
      rw [List.getElem?_set_self (by rw [List.length_set, km_clr_len]; exact hi)] at hw
      cases Option.some.inj hw
    · rw [List.getElem?_set_ne hj1] at hw
      by_cases hj : i = j
      · subst hj
        rw [List.getElem?_set_self (by rw [km_clr_len]; omega)] at hw
        obtain rfl := Option.some.inj (Option.some.inj hw)
        exact List.mem_cons_self
      · rw [List.getElem?_set_ne hj] at hw
        obtain ⟨hw, h2⟩ := km_clr_s hw
        refine List.mem_cons_of_mem _ (List.mem_filter.mpr ⟨km_en_mem hw, ?_⟩)
        have h3 : ¬ j = i := fun q => hj q.symm
        have h6 : ¬ j = i + 1 := fun q => hj1 q.symm
        simp only [km_cv_cat]
        by_cases h4 : j + 1 = i
        · have h5 : ¬ w.category = 2 := fun q => h2 ⟨h4, q⟩
          simp [h3, h5, h6]
        · simp [h3, h4, h6]
  · cases h2
section KM2
variable {p : Program} {l : Launch} {e : Env} {R : Room} {s : State} {m : MethodId} {args : Array Value} {below : List Frame} {meth : Method} {c : Code} {H : Heap} {locs : List Loc} {cells slots : Nat} {Q : State → Prop}
variable {cc : ByteArray} {pc : Nat} {LS : Array Slot} {ad : Nat → Nat} {po : Nat}
set_option maxHeartbeats 4000000 in
theorem km_loc_sim (hx : p.tables.exec = Jvm.exec) (hb : c.code = cc) {ls ls' : km_L} (hL : km_LS ad LS ls)
    {ins : KI} {st st' : List Value} (h : km_loc ins ls st = some (ls', st')) (hd : decode cc pc = .ok (ins, km_len ins))
    (k : ∀ LS' : Array Slot, km_LS ad LS' ls' → W p l e R s m args below meth c H locs cells slots Q (F0 m (pc + km_len ins) LS' (st'.map (km_cv ad)))) : W p l e R s m args below meth c H locs cells slots Q (F0 m pc LS (st.map (km_cv ad))) := by
  cases ins <;> simp only [km_loc, reduceCtorEq] at h
  case iload i =>
    obtain ⟨rfl, x, h1, rfl⟩ := km_ldI_s h
    exact lv_iload hx hb hd (hL.2 _ _ h1) (k LS hL)
  case iload_n i =>
    obtain ⟨rfl, x, h1, rfl⟩ := km_ldI_s h
    exact lv_iload_n hx hb hd rfl (hL.2 _ _ h1) (k LS hL)
  case lload i =>
    obtain ⟨rfl, x, h1, rfl⟩ := km_ldJ_s h
    exact lv_lload hx hb hd (hL.2 _ _ h1) (k LS hL)
  case lload_n i =>
    obtain ⟨rfl, x, h1, rfl⟩ := km_ldJ_s h
    exact lv_lload_n hx hb hd rfl (hL.2 _ _ h1) (k LS hL)
  case aload i =>
    obtain ⟨rfl, x, h1, rfl⟩ := km_ldA_s h
    exact lv_aload hx hb hd (hL.2 _ _ h1) (k LS hL)
  case aload_n i =>
    obtain ⟨rfl, x, h1, rfl⟩ := km_ldA_s h
    exact lv_aload_n hx hb hd rfl (hL.2 _ _ h1) (k LS hL)
  case istore i =>
    obtain ⟨x, rfl, h1⟩ := km_stI_s h
    obtain ⟨hi, h2⟩ := km_st1_s (ad := ad) (LS := LS) h1
    exact lv_istore hx hb hd hL.has hi rfl (fun LS' h' => k LS' (h2 LS' h'))
  case istore_n i =>
    obtain ⟨x, rfl, h1⟩ := km_stI_s h
    obtain ⟨hi, h2⟩ := km_st1_s (ad := ad) (LS := LS) h1
    exact lv_istore_n hx hb hd rfl hL.has hi rfl (fun LS' h' => k LS' (h2 LS' h'))
  case astore i =>
    obtain ⟨x, rfl, h1⟩ := km_stA_s h
    obtain ⟨hi, h2⟩ := km_st1_s (ad := ad) (LS := LS) h1
    exact lv_astore hx hb hd hL.has hi rfl (fun LS' h' => k LS' (h2 LS' h'))
  case astore_n i =>
    obtain ⟨x, rfl, h1⟩ := km_stA_s h
    obtain ⟨hi, h2⟩ := km_st1_s (ad := ad) (LS := LS) h1
    exact lv_astore_n hx hb hd rfl hL.has hi rfl (fun LS' h' => k LS' (h2 LS' h'))
  case lstore i =>
    obtain ⟨x, rfl, h1⟩ := km_stJ_s h
    obtain ⟨hi, h2⟩ := km_st2_s (ad := ad) (LS := LS) h1
    exact lv_lstore hx hb hd hL.has hi rfl (fun LS' h' => k LS' (h2 LS' h'))
  case lstore_n i =>
    obtain ⟨x, rfl, h1⟩ := km_stJ_s h
    obtain ⟨hi, h2⟩ := km_st2_s (ad := ad) (LS := LS) h1
    exact lv_lstore_n hx hb hd rfl hL.has hi rfl (fun LS' h' => k LS' (h2 LS' h'))
  case iinc i n =>
    split at h
    · rename_i x h0
      split at h
      · rename_i ls2 h1
        cases h
        obtain ⟨hi, h2⟩ := km_st1_s (ad := ad) (LS := LS) h1
        obtain ⟨q, hq⟩ := List.getElem?_of_mem (km_en_mem (ad := ad) h0)
        exact lv_iinc hx hb hd hL.has hq rfl hi rfl (fun LS' h' => k LS' (h2 LS' h'))
      · cases h
    · cases h
theorem km_go {b : Bool} {t u : Nat} {st : List Value} (k : W p l e R s m args below meth c H locs cells slots Q (F0 m (cond b t u) LS st)) : (b = true → W p l e R s m args below meth c H locs cells slots Q (F0 m t LS st)) ∧ (b = false → W p l e R s m args below meth c H locs cells slots Q (F0 m u LS st)) := by
  cases b
  · exact ⟨fun h => (by cases h), fun _ => k⟩
  · exact ⟨fun _ => k, fun h => (by cases h)⟩
set_option maxHeartbeats 4000000 in
theorem km_jmp_sim (hx : p.tables.exec = Jvm.exec) (hb : c.code = cc)
    {ins : KI} {st st' : List Value} {pc' : Nat} (h : km_jmp pc ins st = some (pc', st')) {n : Nat} (hd : decode cc pc = .ok (ins, n)) (hn : n = km_len ins ∨ km_len ins = 0)
    (k : W p l e R s m args below meth c H locs cells slots Q (F0 m pc' LS (st'.map (km_cv ad)))) : W p l e R s m args below meth c H locs cells slots Q (F0 m pc LS (st.map (km_cv ad))) := by
  cases ins <;> simp only [km_jmp, reduceCtorEq] at h
  case goto off =>
    obtain rfl : n = 3 := hn.elim id (fun h => by cases h)
    split at h
    · rename_i t ht
      cases h
      exact lv_goto hx hb hd (km_tg_s ht) k
    · cases h
  case ifCond cd off =>
    obtain rfl : n = 3 := hn.elim id (fun h => by cases h)
    split at h
    · rename_i t x r ht
      cases h
      obtain ⟨k1, k2⟩ := km_go k
      cases cd
      case eq => exact lv_if_eq hx hb hd (km_tg_s ht) (fun z => k1 (decide_eq_true z)) (fun z => k2 (decide_eq_false z))
      case ne => exact lv_if_ne hx hb hd (km_tg_s ht) (fun z => k1 (decide_eq_true z)) (fun z => k2 (decide_eq_false (fun q => q z)))
      case lt => exact lv_if_lt hx hb hd (km_tg_s ht) (fun z => k1 (decide_eq_true z)) (fun z => k2 (decide_eq_false z))
      case ge => exact lv_if_ge hx hb hd (km_tg_s ht) (fun z => k1 (decide_eq_true z)) (fun z => k2 (decide_eq_false z))
      case gt => exact lv_if_gt hx hb hd (km_tg_s ht) (fun z => k1 (decide_eq_true z)) (fun z => k2 (decide_eq_false z))
      case le => exact lv_if_le hx hb hd (km_tg_s ht) (fun z => k1 (decide_eq_true z)) (fun z => k2 (decide_eq_false z))
    · cases h
  case if_icmp cd off =>
    obtain rfl : n = 3 := hn.elim id (fun h => by cases h)
    split at h
    · rename_i t y x r ht
      cases h
      obtain ⟨k1, k2⟩ := km_go k
      cases cd
      case eq => exact lv_icmp_eq hx hb hd (km_tg_s ht) (fun z => k1 (decide_eq_true z)) (fun z => k2 (decide_eq_false z))
      case ne => exact lv_icmp_ne hx hb hd (km_tg_s ht) (fun z => k1 (decide_eq_true z)) (fun z => k2 (decide_eq_false (fun q => q z)))
      case lt => exact lv_icmp_lt hx hb hd (km_tg_s ht) (fun z => k1 (decide_eq_true z)) (fun z => k2 (decide_eq_false z))
      case ge => exact lv_icmp_ge hx hb hd (km_tg_s ht) (fun z => k1 (decide_eq_true z)) (fun z => k2 (decide_eq_false z))
      case gt => exact lv_icmp_gt hx hb hd (km_tg_s ht) (fun z => k1 (decide_eq_true z)) (fun z => k2 (decide_eq_false z))
      case le => exact lv_icmp_le hx hb hd (km_tg_s ht) (fun z => k1 (decide_eq_true z)) (fun z => k2 (decide_eq_false z))
    · cases h
  case tableswitch dflt lo hi offs =>
    split at h
    · rename_i x r
      split at h
      · rename_i h1
        split at h
        · rename_i t ht
          cases h
          exact lv_tableOut hx hb hd h1 (km_tg_s ht) k
        · cases h
      · rename_i h1
        split at h
        · rename_i off ho
          split at h
          · rename_i t ht
            cases h
            exact lv_tableIn hx hb hd (fun z => h1 (Or.inl z)) (fun z => h1 (Or.inr z)) ho (km_tg_s ht) k
          · cases h
        · cases h
    · cases h
end KM2

/-! the machine follows the run -/
def km_rm (d mc ms : Nat) : Room := { frames := d + 8, cells := mc, slots := ms, locals := 64 * (d + 8) }
def km_ws (q : km_Q) : List Cond := .code q.1 q.2.1 q.2.2.1 q.2.2.2.1 :: km_G
def km_Pre (D : km_D) (as : List Value) (L : km_M) : Array Value → State → Prop := va_Pc (as.map (km_cv (km_ad D))) (fun U => km_K D U ∧ km_Wd D U U.heap U.heap L [])
def km_Post (D : km_D) (r : Option Value) (L' : km_M) : Array Value → State → Outcome → State → Prop := fun _ st o t => o = .returned (r.map (km_cv (km_ad D))) ∧ km_P D t L' t.heap ∧ t.heap.size = km_bs D + L'.length ∧ L'.length ≤ km_scr ∧ ∀ q : Nat, q < km_bs D → t.heap[q]? = st.heap[q]?
def km_free (D : km_D) : Addr → Prop := fun q => km_bs D ≤ q
theorem km_AOA.moved {u U : State} (hvm : u.vm.Alike U.vm) (h : km_AOA u) : km_AOA U := over_moved (a := #[]) (a' := #[]) hvm h
theorem km_Nw_warm {s U : State} (hW : s.WarmedH U.vm) (h : ∀ w ∈ km_Nw, va_Nw w s) : ∀ w ∈ km_Nw, va_Nw w U := by
  intro w hw
  have h0 := h w hw
  unfold km_Nw at hw
  simp only [List.mem_cons, List.not_mem_nil, or_false] at hw
  rcases hw with rfl | rfl | rfl | rfl | rfl | rfl | rfl | rfl | rfl <;> exact va_Nw.warmM hW h0
theorem km_K.warm {D : km_D} {s U : State} (hW : s.WarmedH U.vm) (h : km_K D s) : km_K D U :=
  ⟨fun k hk => u_Kn_moved hW.alike (h.1 k hk), fun j hj => vk_R.warm hW (h.2.1 j hj), km_Nw_warm hW h.2.2.1, h.2.2.2.1.moved hW.alike, h.2.2.2.2.1.moved hW.alike, h.2.2.2.2.2.moved hW.alike⟩
theorem km_K.same {D : km_D} {u U : State} (hv : U.vm = u.vm) (h : km_K D u) : km_K D U := by
  have ha : u.vm.Alike U.vm := by rw [hv]; exact Vm.Alike.refl u.vm
  refine ⟨fun k hk => u_Kn_moved ha (h.1 k hk), fun j hj => vk_R.same hv (h.2.1 j hj), fun w hw => ?_, h.2.2.2.1.moved ha, h.2.2.2.2.1.moved ha, h.2.2.2.2.2.moved ha⟩
  have h0 := h.2.2.1 w hw
  unfold km_Nw at hw
  simp only [List.mem_cons, List.not_mem_nil, or_false] at hw
  rcases hw with rfl | rfl | rfl | rfl | rfl | rfl | rfl | rfl | rfl <;> exact va_Nw.same rfl hv.symm h0
theorem km_Wd.moved {D : km_D} {u U : State} {H0 H : Heap} {L : km_M} {locs : List Loc} (hv : u.vm.Alike U.vm) (w : km_Wd D u H0 H L locs) : km_Wd D U H0 H L locs := by
  obtain ⟨w1, w2, w3, w4, w5, w6⟩ := w
  exact ⟨w1.moved hv, w2, w3, w4.moved hv, w5.moved hv, w6⟩
theorem km_Pre_blind (D : km_D) (as : List Value) (L : km_M) : FrameBlind (km_Pre D as L) := by
  intro a U g mk h
  obtain ⟨h1, h2, h3⟩ := h
  exact ⟨h1, h2.same (u := U) rfl, h3.moved (u := U) (Vm.Alike.refl U.vm)⟩
theorem km_loc_len {ins : KI} {ls ls' : km_L} {st st' : List Value} (h : km_loc ins ls st = some (ls', st')) : ls'.length = ls.length := by
  have s1 : ∀ {i : Nat} {v : Value} {l' : km_L}, km_st1 ls i v = some l' → l'.length = ls.length := by
    intro i v l' h
    unfold km_st1 at h
    rcases km_cb h with ⟨-, h2⟩ | ⟨-, h2⟩
    · cases h2; rw [List.length_set, km_clr_len]
    · cases h2
  have s2 : ∀ {i : Nat} {v : Value} {l' : km_L}, km_st2 ls i v = some l' → l'.length = ls.length := by
    intro i v l' h
    unfold km_st2 at h
    rcases km_cb h with ⟨-, h2⟩ | ⟨-, h2⟩
    · cases h2; rw [List.length_set, List.length_set, km_clr_len]
    · cases h2
  cases ins <;> simp only [km_loc, reduceCtorEq] at h
  case iload i => rw [(km_ldI_s h).1]
  case iload_n i => rw [(km_ldI_s h).1]
  case lload i => rw [(km_ldJ_s h).1]
  case lload_n i => rw [(km_ldJ_s h).1]
  case aload i => rw [(km_ldA_s h).1]
  case aload_n i => rw [(km_ldA_s h).1]
  case istore i => obtain ⟨x, -, h1⟩ := km_stI_s h; exact s1 h1
  case istore_n i => obtain ⟨x, -, h1⟩ := km_stI_s h; exact s1 h1
  case astore i => obtain ⟨x, -, h1⟩ := km_stA_s h; exact s1 h1
  case astore_n i => obtain ⟨x, -, h1⟩ := km_stA_s h; exact s1 h1
  case lstore i => obtain ⟨x, -, h1⟩ := km_stJ_s h; exact s2 h1
  case lstore_n i => obtain ⟨x, -, h1⟩ := km_stJ_s h; exact s2 h1
  case iinc i n =>
    split at h
    · split at h
      · cases h; exact s1 (by assumption)
      · cases h
    · cases h
theorem km_lay_in {ad : Nat → Nat} : ∀ (as : List Value) (k i : Nat) (v : Value), (km_lay as)[i]? = some (some v) → (k + i, km_cv ad v) ∈ lv_args k (as.map (km_cv ad)) := by
  intro as
  induction as with
  | nil => intro k i v h; cases h
  | cons a t ih =>
    intro k i v h
    unfold km_lay at h
    show _ ∈ (k, km_cv ad a) :: lv_args (if (km_cv ad a).category = 2 then k + 2 else k + 1) (t.map (km_cv ad))
    rw [km_cv_cat]
    by_cases hc : a.category = 2
    · rw [if_pos hc] at h ⊢
      rcases i with _ | _ | i
      · obtain rfl := Option.some.inj (Option.some.inj h)
        exact List.mem_cons_self
      · cases Option.some.inj h
      · refine List.mem_cons_of_mem _ ?_
        have := ih (k + 2) i v h
        rwa [show k + (i + 1 + 1) = k + 2 + i by omega]
    · rw [if_neg hc] at h ⊢
      rcases i with _ | i
      · obtain rfl := Option.some.inj (Option.some.inj h)
        exact List.mem_cons_self
      · refine List.mem_cons_of_mem _ ?_
        have := ih (k + 1) i v h
        rwa [show k + (i + 1) = k + 1 + i by omega]
theorem km_lay_len {ad : Nat → Nat} : ∀ as : List Value, (lg_sl (as.map (km_cv ad))).length = (km_lay as).length := by
  intro as
  induction as with
  | nil => rfl
  | cons a t ih =>
    unfold km_lay
    rw [List.map_cons]
    show (List.flatMap _ (km_cv ad a :: t.map (km_cv ad))).length = _
    rw [List.flatMap_cons, List.length_append]
    have e : (List.flatMap (fun v : Value => if v.category = 2 then [Slot.val v, .second] else [.val v]) (t.map (km_cv ad))).length = (km_lay t).length := ih
    rw [e, km_cv_cat]
    by_cases hc : a.category = 2
    · rw [if_pos hc, if_pos hc]; simp; omega
    · rw [if_neg hc, if_neg hc]; simp; omega
theorem km_ent_LS {ad : Nat → Nat} {as : List Value} {mx : Nat} (h : (km_lay as).length ≤ mx) {LS : Array Slot} (hl : lv_has LS mx (lv_args 0 (as.map (km_cv ad)))) : (km_ent mx as).length = mx ∧ km_LS ad LS (km_ent mx as) := by
  have h1 : (km_ent mx as).length = mx := by unfold km_ent; rw [List.length_append, List.length_replicate]; omega
  refine ⟨h1, km_LS.of hl h1 fun i v hv => ?_⟩
  unfold km_ent at hv
  rcases Nat.lt_or_ge i (km_lay as).length with hi | hi
  · rw [List.getElem?_append_left hi] at hv
    have := km_lay_in (ad := ad) as 0 i v hv
    rwa [Nat.zero_add] at this
  · rw [List.getElem?_append_right hi] at hv
    have := List.mem_of_getElem? hv
    rw [List.mem_replicate] at this
    cases this.2
theorem km_mem_mono {xs : Nat → Int32} {Lx c : Nat} {it : Bool} {ins : KI} {st st' : List Value} {L L' : km_M} (h : km_mem xs Lx c it ins st L = some (st', L')) : L.length ≤ L'.length ∧ km_sl L ≤ km_sl L' := by
  have hs : ∀ {a : Nat} {k n : Nat} {f g : Nat → Value}, L[a]? = some (k, n, f) → L.length ≤ (L.set a (k, n, g)).length ∧ km_sl L ≤ km_sl (L.set a (k, n, g)) := by
    intro a k n f g h0
    rw [List.length_set, km_sl_set h0]
    exact ⟨Nat.le_refl _, Nat.le_refl _⟩
  have hw : ∀ {a kd i : Nat} {v : Value} {L2 : km_M}, km_wr L a kd i v = some L2 → L.length ≤ L2.length ∧ km_sl L ≤ km_sl L2 := by
    intro a kd i v L2 h0
    obtain ⟨n, f, h1, -, rfl⟩ := km_wr_s h0
    exact hs h1
  have haw : ∀ {a kd : Nat} {i : Int32} {v : Value} {L2 : km_M}, km_aw L a kd i v = some L2 → L.length ≤ L2.length ∧ km_sl L ≤ km_sl L2 := by
    intro a kd i v L2 h0
    obtain ⟨-, n, f, h1, -, rfl⟩ := km_aw_s h0
    exact hs h1
  have hap : ∀ {K : km_M}, L.length ≤ (L ++ K).length ∧ km_sl L ≤ km_sl (L ++ K) := by
    intro K
    rw [List.length_append, km_sl_app]
    exact ⟨Nat.le_add_right _ _, Nat.le_add_right _ _⟩
  have hn : ∀ {r s2 : List Value} {k n : Nat} {v : Nat → Value} {L2 : km_M}, km_new L r k n v = some (s2, L2) → L.length ≤ L2.length ∧ km_sl L ≤ km_sl L2 := by
    intro r s2 k n v L2 h0
    obtain ⟨-, -, rfl⟩ := km_new_s h0
    exact hap
  have hr : L.length ≤ L.length ∧ km_sl L ≤ km_sl L := ⟨Nat.le_refl _, Nat.le_refl _⟩
  cases ins <;> simp only [km_mem, reduceCtorEq] at h
  case getfield i =>
    split at h
    · split at h
      · cases h; exact hr
      · cases h
    · cases h
  case putfield i =>
    split at h
    · rcases km_cb h with ⟨-, h2⟩ | ⟨-, h2⟩
      · split at h2
        · cases h2; exact hw (by assumption)
        · cases h2
      · cases h2
    · cases h
  case iaload =>
    split at h
    · rcases km_cb h with ⟨-, h2⟩ | ⟨-, h2⟩
      · split at h2
        · cases h2
        · cases h2; exact hr
      · split at h2
        · cases h2; exact hr
        · cases h2
    · cases h
  case baload =>
    split at h
    · split at h
      · cases h; exact hr
      · cases h
    · cases h
  case laload =>
    split at h
    · split at h
      · cases h; exact hr
      · cases h
    · cases h
  case aaload =>
    split at h
    · split at h
      · cases h; exact hr
      · cases h
    · cases h
  case iastore =>
    split at h
    · split at h
      · cases h; exact haw (by assumption)
      · cases h
    · cases h
  case lastore =>
    split at h
    · split at h
      · cases h; exact haw (by assumption)
      · cases h
    · cases h
  case bastore =>
    split at h
    · split at h
      · rename_i hv
        cases h
        exact (km_or_s hv).elim haw haw
      · cases h
    · cases h
  case aastore =>
    split at h
    · split at h
      · rename_i hv
        cases h
        rcases km_or_s hv with hv | hv
        · rcases km_cb hv with ⟨-, h3⟩ | ⟨-, h3⟩
          · exact haw h3
          · cases h3
        · rcases km_cb hv with ⟨-, h3⟩ | ⟨-, h3⟩
          · exact haw h3
          · cases h3
      · cases h
    · cases h
  case arraylength =>
    split at h
    · rcases km_cb h with ⟨-, h2⟩ | ⟨-, h2⟩
      · cases h2; exact hr
      · split at h2
        · rcases km_cb h2 with ⟨-, h3⟩ | ⟨-, h3⟩
          · cases h3; exact hr
          · cases h3
        · cases h2
    · cases h
  case new i =>
    split at h
    · rcases km_cb h with ⟨-, h2⟩ | ⟨-, h2⟩
      · exact hn h2
      · cases h2
    · cases h
  case newarray t =>
    split at h
    · split at h
      · cases h
      · split at h
        · exact hn h
        · exact hn h
        · exact hn h
        · exact hn h
        · cases h
    · cases h
  case anewarray i =>
    split at h
    · split at h
      · cases h
      · rcases km_cb h with ⟨-, h2⟩ | ⟨-, h2⟩
        · exact hn h2
        · rcases km_cb h2 with ⟨-, h3⟩ | ⟨-, h3⟩
          · exact hn h3
          · cases h3
    · cases h
  case multianewarray i d =>
    split at h
    · split at h
      · cases h
      · rcases km_cb h with ⟨-, h2⟩ | ⟨-, h2⟩
        · cases h2
          rw [List.append_assoc]
          exact hap
        · cases h2
    · cases h
  case invokespecial i =>
    split at h
    · rcases km_cb h with ⟨-, h2⟩ | ⟨-, h2⟩
      · cases h2; exact hr
      · cases h2
    · cases h
  case invokestatic i =>
    split at h
    · split at h
      · rename_i f g hLa hLb
        split at h
        · rename_i hh
          cases h
          have e := km_beq hh.2.1
          obtain ⟨gk, gn, gf⟩ := g
          dsimp only at e
          subst e
          exact hs hLb
        · cases h
      · cases h
    · cases h
  case invokevirtual i =>
    split at h
    · rcases km_cb h with ⟨-, h2⟩ | ⟨-, h2⟩
      · cases h2; exact hr
      · cases h2
    · rcases km_cb h with ⟨-, h2⟩ | ⟨-, h2⟩
      · split at h2
        · cases h2
        · split at h2
          · cases h2; exact hr
          · cases h2
      · cases h2
    · cases h

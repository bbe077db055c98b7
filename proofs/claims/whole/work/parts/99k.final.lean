/-! THE CLAIM OUT OF ONE WALK OF THE LAW'S BODY. Your part is whole_start (and what it stands on); all else here is the same for every law, but numbers. -/
def R_law : String := "KnotRowsLaw"
def lw_P (b : Addr) (xs : List Int32) (args : Array Value) (s : State) : Prop := args = #[.ref b] ∧ s.IntsAt b xs ∧ xs.length ≤ 3072 ∧ (Jvm.Cond.and given_1 narrow_1).before args s = true
def lw_Q (_ : Array Value) (s : State) (o : Outcome) (t : State) : Prop := o = .returned (some (.int 1)) ∧ Framed s o t [] 600000 7302250
def lw_Z (below : List Frame) (a : Array Value) (s : State) : State → Prop := fun t => ∃ o, t.status = .running ∧ Ended t below o ∧ lw_Q a s o t
/-- the law's own end, with 1 on the stack, nothing written that was there before, its room as the claim has it -/
theorem lw_ret {p : Program} {l : Launch} {e : Env} {s : State} {m : MethodId} {below : List Frame} {meth : Method} {c : Code} {b : Nat} (hx : p.tables.exec = Jvm.exec) (hb : c.code = code) (hr : meth.sig.returnType = ret) (hlocks : meth.locks = false) {pc : Nat} {H : Heap} {ls : Array Slot} (hdg : decode code pc = .ok (.ireturn, 1)) : W p l e room_1 s m #[Value.ref b] below meth c H [] 600000 7302250 (lw_Z below #[Value.ref b] s) (F0 m pc ls [.int 1]) := by
  intro T hT X
  obtain ⟨fs, hret, hrun, hended, hW, hframe⟩ := X.leave (v := some (.int 1)) (hlocks := hlocks) (fun h => by rw [hr] at h; cases h)
  have hmeth' : T.vm.method? m = some meth := X.method'
  refine ⟨T.setFrames fs, ?_, .returned (some (.int 1)), hrun, hended, rfl, ⟨_, rfl⟩, hW, hframe⟩
  jvm_step X.here [X.here.top, hx, hb, hdg, hmeth', hr, ret, narrow_b1]
  (try refine ⟨rfl, ?_⟩); (try refine ⟨rfl, ?_⟩)
  first | (intro acts; rw [hret _ acts rfl rfl rfl]) | rw [hret _ _ rfl rfl rfl]
  exact Steps.refl _
/-- what holds at the law's entry: the machine, the code, the tables' words (any of lw_tbl by 'hts w (by decide +kernel)'), the script of L ints xs at the cell b, what the Statement gives of the start (any of its parts by flat_of_before) -/
def lw_At (p : Program) (s : State) (m : MethodId) (meth : Method) (c : Code) (b L : Nat) (xs : Nat → Int32) : Prop :=
  p.tables.exec = Jvm.exec ∧ c.code = code ∧ meth.sig.returnType = ret ∧ c.maxLocals = 4 ∧ s.vm.findClass R_law = some m.cls ∧ (∀ w ∈ lw_tbl, w.before #[Value.ref b] s = true) ∧ va_X b L xs s s.heap ∧ b < s.heap.size ∧ meth.locks = false ∧ (Jvm.Cond.and given_1 narrow_1).before #[Value.ref b] s = true
/-- the memory's size behind the law -/
theorem vw_size {V : km_V} {L : km_M} (h : km_Vw V L) : L.length = km_sh.length ∧ km_sl L = (km_sh.map (fun q => q.2)).sum := by
  refine ⟨h.1, ?_⟩
  have e : L.map (fun q => q.2.1) = km_sh.map (fun q => q.2) := by
    refine List.ext_getElem (by rw [List.length_map, List.length_map]; exact h.1) (fun i h1 h2 => ?_)
    rw [List.length_map] at h1 h2
    rw [List.getElem_map, List.getElem_map]
    have hs : km_sh[i]? = some (km_sh[i].1, km_sh[i].2) := by rw [List.getElem?_eq_getElem h2]
    obtain ⟨f, g1, _⟩ := h.2 i _ _ hs
    rw [List.getElem?_eq_getElem h1] at g1
    rw [Option.some.inj g1]
  unfold km_sl
  rw [e]
theorem sh_size : km_sh.length ≤ 600000 ∧ (km_sh.map (fun q => q.2)).sum ≤ 7302250 := by decide +kernel
theorem ret_one {ins : KI} {st' : List Value} (h : km_ret (some .boolean) ins st' = some (some (.int 1))) : ins = .ireturn ∧ st' = [.int 1] := by
  unfold km_ret at h
  split at h
  · split at h
    · rename_i h2; cases h2
    · rename_i v h2
      rcases km_cb h with ⟨_, h3⟩ | ⟨-, h3⟩
      · cases h3; exact ⟨rfl, rfl⟩
      · cases h3
    · cases h
  · split at h
    · rename_i h2; cases h2
    · cases h
  · split at h
    · rename_i h2; cases h2
    · cases h
  · split at h
    · cases h
    · cases h
  · cases h
set_option maxHeartbeats 4000000 in
/-- from the entry, for every script of at most 3072 ints, the law comes to its end with true -/
theorem whole_start {p : Program} {e : Env} {s : State} {m : MethodId} {below : List Frame} {meth : Method} {c : Code} (l : Launch) (hflags : l.flags = flags0) {b L : Nat} {xs : Nat → Int32} (hL : L ≤ 3072) (C0 : lw_At p s m meth c b L xs) : W p l e room_1 s m #[Value.ref b] below meth c s.heap [] 0 0 (lw_Z below #[Value.ref b] s) (entryFrame m ([Value.ref b] : List Value).toArray 4) := by
  obtain ⟨hx, hb, hr, hml, hown, hts, hX, hbl, hlocks, hgv⟩ := C0
  have hs := flat_of_before _ hgv
  obtain ⟨adK, adV, hV, hT⟩ := ws_str hs
  obtain ⟨dC, dI, hK⟩ := ws_kn hts
  obtain ⟨fu, L', V', hrun, hvw⟩ := law_all (xs := xs) hL
  have sz1 : L'.length ≤ 600000 := by rw [(vw_size hvw).1]; exact sh_size.1
  have sz2 : km_sl L' ≤ 7302250 := by rw [(vw_size hvw).2]; exact sh_size.2
  have D0 : ∃ D : km_D, D = (dC, dI, (fun a => if a < km_scr then s.heap.size + a else if a = km_scr then b else adK (a - 1000001)), s.heap.size, b, L, xs) := ⟨_, rfl⟩
  obtain ⟨D, eD⟩ := D0
  have d1 : km_dC D = dC := by rw [eD]; rfl
  have d2 : km_dI D = dI := by rw [eD]; rfl
  have d3 : km_bs D = s.heap.size := by rw [eD]; rfl
  have d4 : km_b D = b := by rw [eD]; rfl
  have d5 : km_Lx D = L := by rw [eD]; rfl
  have d6 : km_xs D = xs := by rw [eD]; rfl
  have d7 : ∀ a, km_ad D a = if a < km_scr then s.heap.size + a else if a = km_scr then b else adK (a - 1000001) := fun a => by rw [eD]; rfl
  have a1 : ∀ a, a < km_scr → km_ad D a = km_bs D + a := fun a h => by rw [d7, if_pos h, d3]
  have a2 : km_ad D km_scr = b := by rw [d7, if_neg (Nat.lt_irrefl _), if_pos rfl]
  have a3 : ∀ j, km_ad D (1000001 + j) = adK j := fun j => by
    rw [d7, if_neg (by unfold km_scr; omega), if_neg (by unfold km_scr; omega), Nat.add_sub_cancel_left]
  have a3' : (fun i => km_ad D (1000001 + i)) = adK := funext a3
  have dok : km_Dok D := ⟨a1, by rw [a2, d4], by rw [d4, d3]; exact hbl, by rw [d5]; omega⟩
  have hKK : km_K D s := by
    refine ⟨fun k hk => by rw [d1, d2]; exact hK k hk, fun j hj => ?_, fun w hw => va_Nw.of (ws_nw w hw).2 (hts w (ws_nw w hw).1), va_AO.of (hts _ ws_over.1), va_AO.of (hts _ ws_over.2.1), hts _ ws_over.2.2⟩
    rw [a3]
    exact vk_R.of (hts _ (ws_ref j hj)) (hT j hj)
  have hStr : km_Str D s s.heap := by
    refine ⟨⟨adV, ?_⟩, ?_, ?_⟩
    · rw [a3', d3]; exact hV
    · rw [d3]
      exact va_Zof (hts _ ws_stat.1) (hts _ ws_stat.2.2.1) (va_eqi (hs (Cond.eq (.static "java/lang/String" "COMPACT_STRINGS" "Z") (.int 1)) (by decide +kernel))) (fun a h => Nat.not_le.mpr h)
    · rw [d3]
      exact va_Zqof (hts _ ws_stat.2.1) (hts _ ws_stat.2.2.2) (hs (Cond.isRef (.static "jdk/internal/util/Preconditions" "SIOOBE_FORMATTER" "Ljava/util/function/BiFunction;")) (by decide +kernel)) (fun a h => Nat.not_le.mpr h)
  have hWd : km_Wd D s s.heap s.heap [] [] := ⟨fun a q h => absurd h (by simp), (by rw [d3]; rfl), Nat.zero_le _, (by rw [d4, d5, d6]; exact hX), hStr, fun _ _ => rfl, fun x h => absurd h (by simp)⟩
  have hG : ∀ w ∈ km_G, w.before #[Value.ref b] s = true := fun w hw => hts w (List.mem_filter.mp hw).1
  have em : [Value.ref b] = ([Value.ref km_scr] : List Value).map (km_cv (km_ad D)) := by
    show [Value.ref b] = [Value.ref (km_ad D km_scr)]
    rw [a2]
  have hle : (km_lay [Value.ref km_scr]).length ≤ 4 := by decide
  have hl := lv_entry (([Value.ref km_scr] : List Value).map (km_cv (km_ad D))) (n := 4) (by rw [km_lay_len]; exact hle)
  have goal0 : W p l e room_1 s m #[Value.ref b] below meth c s.heap [] 0 0 (lw_Z below #[Value.ref b] s) (entryFrame m (([Value.ref km_scr] : List Value).map (km_cv (km_ad D))).toArray 4) := by
    rw [lg_entry_eq]
    generalize (lg_sl (([Value.ref km_scr] : List Value).map (km_cv (km_ad D))) ++ List.replicate (4 - (lg_sl (([Value.ref km_scr] : List Value).map (km_cv (km_ad D)))).length) Slot.unset).toArray = LS at hl ⊢
    obtain ⟨h1, h2⟩ := km_ent_LS hle hl
    have G := km_sim xs L fu 13 223 0 _ [] [] (some (kI 1)) L' hrun km_q223 gq223 D d6 d5 (p := p) (l := l) (e := e) (R := room_1) (s := s) (mm := m) (args := #[Value.ref b]) (below := below) (meth := meth) (c := c) (H := s.heap) (H0 := s.heap) (locs := []) (LS := LS) (Q := lw_Z below #[Value.ref b] s) 0 0
      ⟨hx, hb, hml, hown, hG, hKK, dok⟩ (fun hi => absurd hi (by decide)) h1 h2 hWd (Nat.le_refl _) (Nat.le_refl _) (by decide) (by decide) (Nat.le_trans (Nat.sub_le _ _) sz1) (Nat.le_trans (Nat.sub_le _ _) sz2) ?_
    · unfold km_Go at G
      exact G
    · intro H' locs' LS' pc' ins st' w' hd hret
      obtain ⟨rfl, rfl⟩ := ret_one hret
      refine va_forget (fun q hq => by rw [← d3]; exact w'.2.2.2.2.2.2 q hq) ?_
      refine W.widen (k := 600000) (n := 7302250) (Nat.le_trans (Nat.sub_le _ _) sz1) (Nat.le_trans (Nat.sub_le _ _) sz2) ?_
      exact lw_ret hx hb hr hlocks hd
  rw [← em] at goal0
  exact goal0
set_option maxHeartbeats 4000000 in
theorem lw_walk (l : Launch) (hflags : l.flags = flags0) (b : Addr) (xs : List Int32) : MetFree l x (headSpec (Jvm.Cond.code x code maxLocals ret :: tables_1) room_1) (lw_P b xs) (fun _ _ _ _ _ => True) lw_Q := by
  refine MetFree.of_bodyS (code := code) (maxLocals := maxLocals) (ret := ret) (by decide) ?_ ?_
  · intro args s m h hn
    obtain ⟨meth, c, h1, h2, h3, h4, h5, h6, -, -⟩ := Cond.code_spec hn (atoms_spec (ws := Jvm.Cond.code x code maxLocals ret :: tables_1) h _ List.mem_cons_self)
    exact ⟨meth, c, h1, h2, h3, h4, h5, h6⟩
  · intro p e s m args below meth c s₁ B hml0 hP _
    obtain ⟨rfl, hx, hbd, hgv⟩ := hP
    obtain ⟨scr, harrAt, hlist, hof, hsmall⟩ := hx
    obtain ⟨hcb, hkn, -, -⟩ := State.arrayAt?_spec harrAt
    have hown : s.vm.findClass R_law = some m.cls := findClass_of_methodNamed B.named
    have hts0 : ∀ c ∈ (Jvm.Cond.code x code maxLocals ret :: tables_1), c.before #[Value.ref b] s = true := atoms_spec (ws := Jvm.Cond.code x code maxLocals ret :: tables_1) B.pre
    have hts : ∀ w ∈ lw_tbl, w.before #[Value.ref b] s = true := k2_hts_sels lw_privs (fun w hw => hts0 w (List.mem_cons_of_mem _ hw)) lw_privs_ok
    have hml : c.maxLocals = 4 := B.maxLocals_eq (hts0 _ List.mem_cons_self)
    have X₀ : Stand p l e room_1 s m #[Value.ref b] below meth c s₁ [] 0 0 := Stand.of_body B
    have hh0 : s₁.heap = s.heap := by rw [B.state]; rfl
    have hsz : scr.slots.size = xs.length := by rw [← Array.length_toList, hlist, List.length_map]
    have hval : ∀ j : Nat, j < xs.length → scr.slots[j]? = some (.int (xs.getD j 0)) := fun j hj => by
      rw [← Array.getElem?_toList, hlist]
      simp [hj]
    have hbl : b < s.heap.size := (Array.getElem?_eq_some_iff.mp hcb).1
    have hX : va_X b xs.length (fun j => xs.getD j 0) s s.heap := ⟨scr, hcb, hof, hkn, hsz, hval⟩
    have K : W p l e room_1 s m #[Value.ref b] below meth c s₁.heap [] 0 0 (lw_Z below #[Value.ref b] s) (entryFrame m ([Value.ref b] : List Value).toArray 4) := by
      rw [hh0]
      exact whole_start l hflags hbd ⟨B.exec, B.bytes, B.returns, hml, hown, hts, hX, hbl, B.notSynchronized, hgv⟩
    obtain ⟨t, a1, o, b1, b2, b3⟩ := K s₁ rfl X₀
    exact ⟨t, o, a1, b1, b2, b3⟩
theorem lw_pre_spec {args : Array Value} {s : State} (h : (Jvm.Cond.and given_1 narrow_1).before args s = true) (hr : rest_1_c.before args s = true) : ∃ (b : Addr) (xs : List Int32), lw_P b xs args s := by
  have hs := flat_of_before _ h
  have hq := flat_of_before _ hr
  have hc : (Cond.count 1).before args s = true := hs _ (by decide +kernel)
  have harr : (Cond.arrayOf (.arg 0) .int).before args s = true := hs _ (by decide +kernel)
  have hle : (Cond.le (.length (.arg 0)) (.int 3072)).before args s = true := hs _ (by decide +kernel)
  have hlen : (Cond.isInt (.length (.arg 0))).before args s = true := hq _ (by decide +kernel)
  have hall : (Cond.all (.arg 0) (.isInt (.elem (.arg 0) (.index 0)))).before args s = true := hq _ (by decide +kernel)
  obtain ⟨b, xs, hb, hx⟩ := State.ints_of_pre rfl harr hlen hall
  have hsm : xs.length < 2 ^ 31 := hx.choose_spec.2.2.2
  have hev : (Term.length (.arg 0)).eval args s none [] s = some (.int xs.length.toInt32) := hx.length_eval hb
  have hv := Cond.le_ints hev (show (Term.int 3072).eval args s none [] s = some (.int 3072) from rfl)
  have hd : xs.length.toInt32 ≤ 3072 := by
    simpa [Cond.before, Cond.holds, hv] using hle
  have hN : xs.length ≤ 3072 := (Int32.ofNat_le_ofNat hsm (by decide)).mp (show Int32.ofNat xs.length ≤ Int32.ofNat 3072 from hd)
  exact ⟨b, xs, Cond.one_arg hc (show args[0]? = some (.ref b) from hb), hx, hN, h⟩
theorem lw_comes (l : Launch) (hflags : l.flags = flags0) : Comes l x (Jvm.Cond.code x code maxLocals ret :: tables_1) room_1 (fun tb e args s => Calls_1 tb e args s ∧ rest_1 tb e args s ∧ Pre_1 tb e args s)
    (fun _ _ args s o t => lw_Q args s o t) := by
  intro p e ha hc hk s m args below hf hfit hheap happ hpre
  obtain ⟨b, xs, hP⟩ := lw_pre_spec hpre.2.2 hpre.2.1
  obtain ⟨k, o, h1, h2, h3, hQ⟩ := lw_walk l hflags b xs p e ha hc hk s m args below hf ((Spec.applies_iff_loose hf).mp happ).1 hP trivial
  exact ⟨k, o, h1, h2, h3, hQ⟩
theorem lw_frame {s t : State} {o : Outcome} {args : Array Value} (h : Framed s o t [] 600000 7302250) :
    Framed s o t (fieldLocs frame_1_writes args s ++ arrayLocs frame_1_arrays args s ++ staticLocs frame_1_statics s) 600000 7302250 := h
theorem lw_limb (L : Cond) (hL : ∀ (args : Array Value) (s t : State), L.after args s (.returned (some (.int 1))) t = true) :
    ArmFor flags0 classFile x code maxLocals ret World_1 tables_1 room_1 Calls_1 rest_1 Pre_1
      (fun tb e a s o t => postC L tb e a s o t ∧ Framed s o t (fieldLocs frame_1_writes a s ++ arrayLocs frame_1_arrays a s ++ staticLocs frame_1_statics s) 600000 7302250) := by
  intro l hflags _ _ p e ha hc hk s m args below hf hfit hheap happ hpre
  obtain ⟨k, o, h1, h2, h3, rfl, hF⟩ := lw_comes l hflags p e ha hc hk s m args below hf hfit hheap happ hpre
  exact ⟨k, _, h1, h2, h3, hL args s _, lw_frame hF⟩
theorem i_vc : Claimed_1_1 ∧ Claimed_1_2 := ⟨lw_limb limb_1_1 (fun args s t => by simp [limb_1_1, Cond.after, Cond.holds, Cond.value]), lw_limb limb_1_2 (fun args s t => Cond.after_iff.mpr (by
  first | (rw [show limb_1_2 = Cond.eq .result (.int 1) from rfl, Cond.eq_ints (x := 1) (y := 1) rfl rfl]; simp; done) | (simp [limb_1_2, Cond.value, Term.eval]; done)))⟩

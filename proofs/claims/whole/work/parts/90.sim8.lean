theorem km_initq {m : Nat} {q : km_Q} (h : km_T[m]? = some q) : km_init m = (q.1.name == "<init>") := by
  unfold km_init
  rw [h]
section KM8
variable {l : Launch} {D : km_D}
set_option maxHeartbeats 4000000 in
/-- a run of a method gives its contract -/
theorem km_met {xs : Nat → Int32} {Lx f : Nat} (ih : km_Sim xs Lx f) (hxs : km_xs D = xs) (hLx : km_Lx D = Lx) (hD : km_Dok D) {d j : Nat} {q : km_Q} (hj : j < 223) (hq : km_T[j]? = some q) {as : List Value} {L L1 : km_M} {r : Option Value} (hle : (km_lay as).length ≤ q.2.2.1)
    (h : km_run xs Lx f d j 0 (km_ent q.2.2.1 as) [] L = some (r, L1)) :
    Met l q.1 (km_ws q) (km_rm d (L1.length - L.length) (km_sl L1 - km_sl L)) (km_Pre D as L) (km_Post D r L1) (L1.length - L.length) (km_sl L1 - km_sl L) (km_free D) := by
  obtain ⟨x, hx⟩ := km_M_at hj hq
  unfold km_okM at hx
  simp only [Bool.and_eq_true] at hx
  obtain ⟨-, -, -, hpl, -, -, hcl, -⟩ := hx
  have hcl : km_R q.2.2.2.2.1 = q.1.cls := of_decide_eq_true hcl
  refine va_MetF (cc := q.2.1) (maxL := q.2.2.1) (ret := q.2.2.2.1) hpl rfl ?_
  intro p e s m args below meth c s₁ B hml hv
  obtain ⟨rfl, hK, w⟩ := hv
  have hex := B.exec
  have hb := B.bytes
  have hr := B.returns
  have hts := atoms_spec (ws := km_ws q) B.pre
  have hown : s.vm.findClass q.1.cls = some m.cls := findClass_of_methodNamed B.named
  have hlocks := B.notSynchronized
  have hin : meth.name = q.1.name := (name_of_methodNamed B.named B.method).1
  have hl := lv_entry (as.map (km_cv (km_ad D))) (n := q.2.2.1) (by rw [km_lay_len]; exact hle)
  rw [lg_entry_eq]
  generalize (lg_sl (as.map (km_cv (km_ad D))) ++ List.replicate (q.2.2.1 - (lg_sl (as.map (km_cv (km_ad D)))).length) Slot.unset).toArray = LS at hl ⊢
  obtain ⟨h1, h2⟩ := km_ent_LS hle hl
  have hm := km_run_mono _ _ _ _ _ _ _ _ _ h
  have G := ih d j 0 _ [] L r L1 h q hq D hxs hLx (p := p) (l := l) (e := e) (R := (headSpec (km_ws q) (km_rm d (L1.length - L.length) (km_sl L1 - km_sl L))).room) (s := s) (mm := m) (args := (as.map (km_cv (km_ad D))).toArray) (below := below) (meth := meth) (c := c) (H := s.heap) (H0 := s.heap) (locs := []) (LS := LS)
    (Q := MQ below (km_Post D r L1) (as.map (km_cv (km_ad D))).toArray s (L1.length - L.length) (km_sl L1 - km_sl L) (km_free D)) L.length (km_sl L)
    ⟨hex, hb, hml, by rw [hcl]; exact hown, fun w hw => hts w (List.mem_cons_of_mem _ hw), hK, hD⟩
    (fun hi => by rw [hin]; rw [km_initq hq] at hi; exact eq_of_beq hi) h1 h2 w (Nat.le_refl _) (Nat.le_refl _) (Nat.le_refl _) (Nat.le_refl _) (Nat.le_refl _) (Nat.le_refl _) ?_
  · unfold km_Go at G
    rw [Nat.sub_self, Nat.sub_self] at G
    exact G
  · intro H' locs' LS' pc' ins st' w' hd hret
    have hq0 : ∀ v, v = r.map (km_cv (km_ad D)) → ∀ t : State, t.heap = H' → s.WarmedH t.vm → km_Post D r L1 (as.map (km_cv (km_ad D))).toArray s (.returned v) t := by
      intro v hv t ht hW
      refine ⟨by rw [hv], ?_, ?_, w'.2.2.1, ?_⟩
      · rw [ht]; exact w'.1.moved hW.alike
      · rw [ht]; exact w'.2.1
      · rw [ht]; exact w'.2.2.2.2.2.1
    have hf0 : ∀ q ∈ locs', km_free D q.base := w'.2.2.2.2.2.2
    unfold km_ret at hret
    split at hret
    · split at hret
      · rename_i hrt
        cases hret
        rw [hrt] at hr
        exact W.iret hex hb hr (hq0 _ rfl) hf0 hd
      · rename_i v hrt
        rcases km_cb hret with ⟨hv, h3⟩ | ⟨-, h3⟩
        · cases h3
          rw [hrt] at hr
          refine W.zret hex hb hr ?_ (hq0 _ rfl) hf0 hd
          rcases of_decide_eq_true hv with rfl | rfl <;> rfl
        · cases h3
      · cases hret
    · split at hret
      · rename_i hrt
        cases hret
        rw [hrt] at hr
        exact W.lret hex hb hr (hq0 _ rfl) hf0 hd
      · cases hret
    · split at hret
      · rename_i hrt
        cases hret
        rw [hrt] at hr
        exact W.aret hex hb hr (Or.inl ⟨_, rfl⟩) (Or.inr ⟨_, rfl⟩) (hq0 _ rfl) hf0 hd
      · cases hret
    · split at hret
      · rename_i hrt
        cases hret
        rw [hrt] at hr
        exact W.vret hex hb hr (hq0 _ rfl) hf0 hd
      · cases hret
    · cases hret
end KM8
set_option maxHeartbeats 8000000 in
theorem km_sim (xs : Nat → Int32) (Lx : Nat) : ∀ f, km_Sim xs Lx f := by
  intro f
  induction f with
  | zero => intro d m pc ls st L r L' h; cases h
  | succ f ih =>
    intro d m pc ls st L r L' h q hq D hxs hLx p l e R s mm args below meth c H H0 locs Q LS c0 s0 X hit hln hLS w hc0 hs0 hR1 hR2 hR3 hR4 hret
    subst hxs
    subst hLx
    unfold km_run at h
    rw [hq] at h
    dsimp only at h
    split at h
    · cases h
    · rename_i ins hins
      obtain ⟨n, hd0, hn⟩ := km_dec (km_T_okAt hq) hins
      have hd : ¬ km_len ins = 0 → decode q.2.1 pc = .ok (ins, km_len ins) := fun z => by rw [← hn.resolve_right z]; exact hd0
      have hls : LS.size = q.2.2.1 := by rw [← hln]; exact hLS.1.1
      split at h
      · -- the stack alone
        rename_i st2 hp
        have hz : ¬ km_len ins = 0 := fun z => by obtain ⟨a, b, c, d, rfl⟩ := km_len0 z; cases hp
        exact km_pure_sim X.1 X.2.1 X.2.2.2.1 X.2.2.2.2.1 X.2.2.2.2.2.1.2.1 hp (hd hz) (ih _ _ _ _ _ _ _ _ h q hq D rfl rfl c0 s0 X hit hln hLS w hc0 hs0 hR1 hR2 hR3 hR4 hret)
      · split at h
        · -- locals
          rename_i ls2 st2 hp
          have hz : ¬ km_len ins = 0 := fun z => by obtain ⟨a, b, c, d, rfl⟩ := km_len0 z; cases hp
          exact km_loc_sim X.1 X.2.1 hLS hp (hd hz) (fun LS' hLS' => ih _ _ _ _ _ _ _ _ h q hq D rfl rfl c0 s0 X hit (by rw [km_loc_len hp]; exact hln) hLS' w hc0 hs0 hR1 hR2 hR3 hR4 hret)
        · split at h
          · -- jumps
            rename_i pc2 st2 hp
            exact km_jmp_sim X.1 X.2.1 hp hd0 hn (ih _ _ _ _ _ _ _ _ h q hq D rfl rfl c0 s0 X hit hln hLS w hc0 hs0 hR1 hR2 hR3 hR4 hret)
          · split at h
            · -- the memory
              rename_i st2 L2 hp
              have hz : ¬ km_len ins = 0 := fun z => by obtain ⟨a, b, c, d, rfl⟩ := km_len0 z; cases hp
              have hm := km_mem_mono hp
              have hm2 := km_run_mono _ _ _ _ _ _ _ _ _ h
              exact km_mem_sim X hit hls w hc0 hs0 (by omega) (by omega) ⟨by omega, by omega⟩ hp (hd hz) (fun H' locs' w' => ih _ _ _ _ _ _ _ _ h q hq D rfl rfl c0 s0 X hit hln hLS w' (by omega) (by omega) hR1 hR2 hR3 hR4 hret)
            · split at h
              · -- a return
                rename_i r2 hp
                cases h
                have hz : ¬ km_len ins = 0 := fun z => by obtain ⟨a, b, c, d, rfl⟩ := km_len0 z; cases hp
                exact hret H locs LS pc ins st w (hd hz) hp
              · split at h
                · cases h
                · -- a call
                  rename_i j as rest hp
                  split at h
                  · cases h
                  · rename_i d2
                    split at h
                    · cases h
                    · rename_i qj hqj
                      split at h
                      · cases h
                      · rename_i r1 L1 hc
                        rcases km_cb hc with ⟨hle, hc⟩ | ⟨-, hc⟩
                        · have hle := Nat.le_of_ble_eq_true hle
                          have hm := km_run_mono _ _ _ _ _ _ _ _ _ hc
                          have hm2 := km_run_mono _ _ _ _ _ _ _ _ _ h
                          have hz : ¬ km_len ins = 0 := fun z => by obtain ⟨a, b, c, d, rfl⟩ := km_len0 z; cases hp
                          have hd := hd hz
                          refine km_call X hls w hc0 hs0 hm (by omega) (by omega) ⟨by omega, by omega⟩ hqj hle (fun hj => km_met ih rfl rfl X.2.2.2.2.2.2 hj hqj hle hc) hp hd (fun H' locs' w' => ih _ _ _ _ _ _ _ _ h q hq D rfl rfl c0 s0 X hit hln hLS w' (by omega) (by omega) hR1 hR2 hR3 hR4 hret)
                        · cases hc

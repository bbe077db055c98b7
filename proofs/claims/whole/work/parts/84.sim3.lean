/-! the machine follows: the memory -/
theorem km_uin {k : Nat} (hk : k < 10) : ∀ w ∈ u_ws (km_R k) (km_X k) (km_N k), w ∈ km_G := by
  intro w hw
  obtain ⟨j, hj, rfl⟩ := List.mem_map.mp hw
  have h1 := List.all_eq_true.mp km_L_all k (List.mem_range.mpr hk)
  have h2 := List.all_eq_true.mp h1 j hj
  obtain ⟨e, he, h3⟩ := List.any_eq_true.mp h2
  rw [Bool.and_eq_true] at h3
  have e1 := km_beq h3.1
  have e2 := km_beq h3.2
  have h4 := List.all_eq_true.mp km_L_ok e he
  unfold km_okL at h4
  rw [Bool.and_eq_true] at h4
  rw [e1, e2] at h4
  exact km_inG (of_decide_eq_true h4.1) h4.2
theorem km_fld {c i k j pl : Nat} (h : km_fF km_F c i = some (k, j, pl)) : k < 10 ∧ j < km_N k ∧ (km_X k j).1 = km_R k ∧ (Cond.fieldLink (km_R c) i (km_R k) (km_X k j).2.1 (km_X k j).2.2.1) ∈ km_G := by
  have hm := km_fF_mem h
  have h1 := List.all_eq_true.mp km_F_ok _ hm
  have h2 := List.all_eq_true.mp km_F2_ok _ hm
  unfold km_okF at h1
  unfold km_okF2 at h2
  simp only [Bool.and_eq_true] at h1
  exact ⟨Nat.le_of_ble_eq_true h1.2, Nat.le_of_ble_eq_true h1.1.2, of_decide_eq_true h2, km_inG (of_decide_eq_true h1.1.1.1) h1.1.1.2⟩
theorem km_tyok {k : Nat} (hk : k < 10) : ∀ j, j < km_N k → parseFieldDescriptor (km_X k j).2.2.1 = some (km_Ty k j) := by
  rcases k with _ | _ | _ | _ | _ | _ | _ | _ | _ | _ | k
  · exact tyX0_ok
  · exact tyX1_ok
  · exact tyX2_ok
  · exact tyX3_ok
  · exact tyX4_ok
  · exact tyX5_ok
  · exact tyX6_ok
  · exact tyX7_ok
  · exact tyX8_ok
  · exact tyX9_ok
  · omega
theorem km_nm {k : Nat} (hk : k < 10) : ∀ a, a < km_N k → ∀ b, b < km_N k → a ≠ b → (km_X k a).2.1 ≠ (km_X k b).2.1 := by
  rcases k with _ | _ | _ | _ | _ | _ | _ | _ | _ | _ | k
  · exact nmX0
  · exact nmX1
  · exact nmX2
  · exact nmX3
  · exact nmX4
  · exact nmX5
  · exact nmX6
  · exact nmX7
  · exact nmX8
  · exact nmX9
  · omega
theorem km_fit_s {ty : FieldType} {v : Value} (ad : Nat → Nat) (h : km_fit ty v = true) : narrow ty (km_cv ad v) = km_cv ad v ∧ fits ty (km_cv ad v) = true := by
  unfold km_fit at h
  split at h
  · exact ⟨rfl, rfl⟩
  · rcases of_decide_eq_true h with rfl | rfl
    · exact ⟨rfl, rfl⟩
    · exact ⟨rfl, rfl⟩
  · exact ⟨rfl, rfl⟩
  · exact ⟨rfl, rfl⟩
  · cases h
theorem km_apart {args : Array Value} {s : State} {k : Nat} (hk : k < 10) {cC : ClassId} {iS : Nat → Nat} (hG : ∀ w ∈ km_G, w.before args s = true) (hK : u_Kn s (km_R k) (km_X k) (km_N k) cC iS) : ∀ x y, x < km_N k → y < km_N k → x ≠ y → iS x ≠ iS y := by
  intro x y hx hy hne
  obtain ⟨hS, -⟩ := hK
  obtain ⟨_, _, _, fa, hia, ea⟩ := hS x hx
  obtain ⟨_, _, _, fb, hib, eb⟩ := hS y hy
  rw [← ea, ← eb]
  refine u_apart (u_lays hG (km_uin hk) hx) (u_lays hG (km_uin hk) hy) hia hib ?_
  rw [(State.fieldFound?_type hia (km_tyok hk x hx)).1, (State.fieldFound?_type hib (km_tyok hk y hy)).1]
  exact km_nm hk x hx y hy hne
section KM3
variable {p : Program} {l : Launch} {e : Env} {R : Room} {s : State} {m : MethodId} {args : Array Value} {below : List Frame} {meth : Method} {c : Code} {H : Heap} {locs : List Loc} {cells slots : Nat} {Q : State → Prop}
variable {cc : ByteArray} {pc : Nat} {LS : Array Slot} {po : Nat}
theorem km_get (hx : p.tables.exec = Jvm.exec) (hb : c.code = cc) (hown : s.vm.findClass (km_R po) = some m.cls) (hG : ∀ w ∈ km_G, w.before args s = true)
    {i k j pl : Nat} (hf : km_fF km_F po i = some (k, j, pl)) {cC : ClassId} {iS : Nat → Nat} (hK : u_Kn s (km_R k) (km_X k) (km_N k) cC iS) {a : Nat} {V : Nat → Value} (hcell : t_OB a cC (km_N k) iS H V) {rest : List Value}
    (hd : decode cc pc = .ok (.getfield i, 3)) (kk : W p l e R s m args below meth c H locs cells slots Q (F0 m (pc + 3) LS (V j :: rest))) : W p l e R s m args below meth c H locs cells slots Q (F0 m pc LS (.ref a :: rest)) := by
  obtain ⟨hk, hj, hdc, hw⟩ := km_fld hf
  obtain ⟨cell, q1, q2, q3, q4⟩ := hcell
  obtain ⟨hS, hfc, kC, hkC, hkind⟩ := hK
  obtain ⟨cf, kf, fi, f, hi, hsl⟩ := hS j hj
  refine W.getf hx hb hown (hG _ hw) (by rw [hdc] at hi; exact hi) (u_facts hfc hkC (u_lays hG (km_uin hk) hj) hi).1 q1 (by rw [q3]; exact fun h => by cases h) (v := V j) ?_ rfl rfl hd kk
  rw [hsl, q4 j hj]
theorem km_put (hx : p.tables.exec = Jvm.exec) (hb : c.code = cc) (hown : s.vm.findClass (km_R po) = some m.cls) (hG : ∀ w ∈ km_G, w.before args s = true)
    {i k j pl : Nat} (hf : km_fF km_F po i = some (k, j, pl)) {cC : ClassId} {iS : Nat → Nat} (hK : u_Kn s (km_R k) (km_X k) (km_N k) cC iS) {a : Nat} {V : Nat → Value} (hcell : t_OB a cC (km_N k) iS H V) {v : Value} {rest : List Value}
    (hfin : (km_X k j).2.2.2 = false ∨ (meth.name = "<init>" ∧ k = po)) (hn : narrow (km_Ty k j) v = v ∧ fits (km_Ty k j) v = true)
    (hd : decode cc pc = .ok (.putfield i, 3)) (kk : ∀ (H1 : Heap) (x : Nat), t_OB a cC (km_N k) iS H1 (updV V j v) → H1.size = H.size → (∀ q : Nat, q ≠ a → H1[q]? = H[q]?) → W p l e R s m args below meth c H1 (locs ++ [⟨a, x⟩]) cells slots Q (F0 m (pc + 3) LS rest)) : W p l e R s m args below meth c H locs cells slots Q (F0 m pc LS (v :: .ref a :: rest)) := by
  obtain ⟨hk, hj, hdc, hw⟩ := km_fld hf
  have hap := km_apart hk hG hK
  obtain ⟨cell, q1, q2, q3, q4⟩ := hcell
  obtain ⟨hS, hfc, kC, hkC, hkind⟩ := hK
  obtain ⟨cf, kf, fi, f, hi, hsl⟩ := hS j hj
  have hst := (u_facts hfc hkC (u_lays hG (km_uin hk) hj) hi).1
  have hi' : s.fieldFound? (km_R k) (km_X k j).2.1 (km_X k j).2.2.1 = some (cf, kf, fi, f) := by rw [hdc] at hi; exact hi
  have hlay := hG _ (km_uin hk _ (u_in_lay hj))
  unfold u_lay at hlay
  cases hfn : (km_X k j).2.2.2 with
  | false =>
    rw [if_neg (by rw [hfn]; decide)] at hlay
    have h6 := u_store hfc hkC hkind hlay hi (km_tyok hk j hj) hn.1 hn.2
    refine W.putK hx hb (f := f) ⟨hown, hG _ hw, ⟨_, _, _, hi'⟩, hst⟩ (by rw [q2]; exact h6) q1 q3 (by rw [hsl]; exact k2_hasslot (q4 j hj)) rfl rfl hd fun H' e1 e2 e3 => ?_
    rw [hsl] at e1 ⊢
    exact kk H' _ ⟨_, e1, q2, q3, t_set q4 hap hj v⟩ e2 e3
  | true =>
    rw [if_pos hfn] at hlay
    obtain ⟨hin2, rfl⟩ := hfin.resolve_left (by rw [hfn]; decide)
    have hcf : m.cls = cf := by
      obtain ⟨_, _, c', _, _, _, -, -, hf', -, -, -, hown2, -⟩ := Cond.laysFinal_spec hlay
      have e1 : c' = cf := by have := hi.symm.trans hf'; simp at this; exact this.1.symm
      rw [hdc] at hown2
      rw [← e1]; exact Option.some.inj (hown.symm.trans hown2)
    have h6 := u_fits hfc hkC hkind (Or.inr hlay) hi (km_tyok hk j hj) hn.1 hn.2
    refine W.putFinK hx hb hown (hG _ hw) hi' hst hcf hin2 (by rw [q2]; exact h6) q1 q3 (by rw [hsl]; exact k2_hasslot (q4 j hj)) rfl rfl hd fun H' e1 e2 e3 => ?_
    rw [hsl] at e1 ⊢
    exact kk H' _ ⟨_, e1, q2, q3, t_set q4 hap hj v⟩ e2 e3
end KM3
/-- the world: addresses, the script, the classes -/
abbrev km_D : Type := (Nat → ClassId) × (Nat → Nat → Nat) × (Nat → Nat) × Nat × Nat × Nat × (Nat → Int32)
def km_dC (D : km_D) : Nat → ClassId := D.1
def km_dI (D : km_D) : Nat → Nat → Nat := D.2.1
def km_ad (D : km_D) : Nat → Nat := D.2.2.1
def km_bs (D : km_D) : Nat := D.2.2.2.1
def km_b (D : km_D) : Nat := D.2.2.2.2.1
def km_Lx (D : km_D) : Nat := D.2.2.2.2.2.1
def km_xs (D : km_D) : Nat → Int32 := D.2.2.2.2.2.2
def km_Dok (D : km_D) : Prop := (∀ a, a < km_scr → km_ad D a = km_bs D + a) ∧ km_ad D km_scr = km_b D ∧ km_b D < km_bs D ∧ km_Lx D < 2 ^ 31
def km_cell (D : km_D) (U : State) (q : km_C) (a : Nat) (H : Heap) : Prop :=
  (q.1 < 10 → q.2.1 = km_N q.1 ∧ t_OB a (km_dC D q.1) (km_N q.1) (km_dI D q.1) H (fun j => km_cv (km_ad D) (q.2.2 j))) ∧
  (¬ q.1 < 10 → q.1 < 17 ∧ q.2.1 < 2 ^ 31 ∧ ∃ cA : ClassId, ArrOfT U cA (km_aty q.1) ∧ va_RA U cA (km_aty q.1) ∧ H[a]? = some (arrV cA q.2.1 (fun j => km_cv (km_ad D) (q.2.2 j))))
def km_P (D : km_D) (U : State) (L : km_M) (H : Heap) : Prop := ∀ (a : Nat) (q : km_C), L[a]? = some q → km_cell D U q (km_bs D + a) H
theorem km_cell.kept {D : km_D} {U : State} {q : km_C} {a : Nat} {H H1 : Heap} (h : km_cell D U q a H) (hq : H1[a]? = H[a]?) : km_cell D U q a H1 :=
  ⟨fun z => ⟨(h.1 z).1, (h.1 z).2.kept hq⟩, fun z => ⟨(h.2 z).1, (h.2 z).2.1, by obtain ⟨cA, h1, h2, h3⟩ := (h.2 z).2.2; exact ⟨cA, h1, h2, hq.trans h3⟩⟩⟩
theorem km_cell.moved {D : km_D} {u U : State} {q : km_C} {a : Nat} {H : Heap} (hv : u.vm.Alike U.vm) (h : km_cell D u q a H) : km_cell D U q a H :=
  ⟨h.1, fun z => ⟨(h.2 z).1, (h.2 z).2.1, by obtain ⟨cA, h1, h2, h3⟩ := (h.2 z).2.2; exact ⟨cA, arrOfT_moved hv h1, h2.moved hv, h3⟩⟩⟩
theorem km_P.moved {D : km_D} {u U : State} {L : km_M} {H : Heap} (hv : u.vm.Alike U.vm) (h : km_P D u L H) : km_P D U L H := fun a q hq => (h a q hq).moved hv
theorem km_P.set {D : km_D} {U : State} {L : km_M} {H H1 : Heap} {a : Nat} {q : km_C} (h : km_P D U L H) (hq : km_cell D U q (km_bs D + a) H1) (ho : ∀ x : Nat, x ≠ km_bs D + a → H1[x]? = H[x]?) : km_P D U (L.set a q) H1 := by
  intro b r hr
  by_cases hb : a = b
  · subst hb
    have hl : a < L.length := by
      rcases Nat.lt_or_ge a L.length with h1 | h1
      · exact h1
      · rw [List.getElem?_eq_none (by rw [List.length_set]; exact h1)] at hr; cases hr
    rw [List.getElem?_set_self hl] at hr
    obtain rfl := Option.some.inj hr
    exact hq
  · rw [List.getElem?_set_ne hb] at hr
    exact (h b r hr).kept (ho _ (by omega))
theorem km_P.push {D : km_D} {U : State} {L : km_M} {H H1 : Heap} {q : km_C} (h : km_P D U L H) (hz : H.size = km_bs D + L.length) (hq : km_cell D U q H.size H1) (ho : ∀ x : Nat, x < H.size → H1[x]? = H[x]?) : km_P D U (L ++ [q]) H1 := by
  intro b r hr
  rcases Nat.lt_or_ge b L.length with hb | hb
  · rw [List.getElem?_append_left hb] at hr
    exact (h b r hr).kept (ho _ (by omega))
  · rw [List.getElem?_append_right hb] at hr
    rcases Nat.eq_zero_or_pos (b - L.length) with h0 | h0
    · rw [h0] at hr
      obtain rfl := Option.some.inj hr
      rw [show km_bs D + b = H.size by omega]
      exact hq
    · rw [List.getElem?_eq_none (show [q].length ≤ b - L.length from h0)] at hr
      cases hr

theorem km_psh_s {c i : Nat} {st st' : List Value} (h : km_psh1 st (km_kc c i) = some st') : ∃ v, km_kc c i = some v ∧ (∀ x, v ≠ .long x) ∧ st' = v :: st := by
  unfold km_psh1 at h
  split at h
  · exact ⟨_, by assumption, fun x q => (by cases q), (Option.some.inj h).symm⟩
  · exact ⟨_, by assumption, fun x q => (by cases q), (Option.some.inj h).symm⟩
  · cases h
theorem km_psh_w_s {c i : Nat} {st st' : List Value} (h : km_psh3 st (km_kc c i) = some st') : ∃ v, km_kc c i = some v ∧ (∃ x, v = .int x) ∧ st' = v :: st := by
  unfold km_psh3 at h
  split at h
  · exact ⟨_, by assumption, ⟨_, rfl⟩, (Option.some.inj h).symm⟩
  · cases h
theorem km_psh2_w_s {c i : Nat} {st st' : List Value} (h : km_psh2 st (km_kc c i) = some st') : ∃ v, km_kc c i = some v ∧ (∃ x, v = .long x) ∧ st' = v :: st := by
  unfold km_psh2 at h
  split at h
  · exact ⟨_, by assumption, ⟨_, rfl⟩, (Option.some.inj h).symm⟩
  · cases h
theorem km_dup_s {st st' : List Value} (h : km_dup st = some st') : ∃ v r, st = v :: r ∧ v.category = 1 ∧ st' = v :: v :: r := by
  unfold km_dup at h
  split at h
  · split at h
    · exact ⟨_, _, rfl, by assumption, (Option.some.inj h).symm⟩
    · cases h
  · cases h
theorem km_pop_s {st st' : List Value} (h : km_pop st = some st') : ∃ v, st = v :: st' ∧ v.category = 1 := by
  unfold km_pop at h
  split at h
  · split at h
    · obtain rfl := Option.some.inj h
      exact ⟨_, rfl, by assumption⟩
    · cases h
  · cases h
theorem km_dup2_s {st st' : List Value} (h : km_dup2 st = some st') : ∃ v w r, st = v :: w :: r ∧ v.category = 1 ∧ w.category = 1 ∧ st' = v :: w :: v :: w :: r := by
  unfold km_dup2 at h
  split at h
  · split at h
    · rename_i hc
      exact ⟨_, _, _, rfl, hc.1, hc.2, (Option.some.inj h).symm⟩
    · cases h
  · cases h
def km_cv (ad : Nat → Nat) : Value → Value
  | .ref a => .ref (ad a)
  | v => v
theorem km_cv_cat (ad : Nat → Nat) (v : Value) : (km_cv ad v).category = v.category := by cases v <;> rfl
theorem km_cv_sum (ad : Nat → Nat) (r : List Value) : ((r.map (km_cv ad)).map fun v => v.category) = r.map fun v => v.category := by
  rw [List.map_map]
  exact List.map_congr_left fun v _ => km_cv_cat ad v
theorem km_beq {a b : Nat} (h : Nat.beq a b = true) : a = b := Nat.eq_of_beq_eq_true h
def km_si : Nat → Nat
  | 0 => 48 | 1 => 54 | 2 => 56 | _ => 58
def km_st : Nat → String
  | 0 => "ring" | 1 => "braid" | 2 => "over" | _ => "under"
def km_kcP (c i : Nat) (v : Value) : Prop := (∃ x, v = .int x ∧ Cond.constant (km_R c) i x ∈ km_G) ∨ (∃ x, v = .long x ∧ Cond.constantLong (km_R c) i x ∈ km_G) ∨ (∃ j, j < 4 ∧ c = 7 ∧ i = km_si j ∧ v = .ref (1000001 + j))
set_option maxRecDepth 100000 in
theorem km_kc_ok {c i : Nat} {v : Value} (h : km_kc c i = some v) : km_kcP c i v := by
  have w0_55 : km_kcP 0 55 (.long 2) := Or.inr (Or.inl ⟨_, rfl, km_inG (i := 896) (by decide +kernel) (by decide +kernel)⟩)
  have w8_185 : km_kcP 8 185 (.int (-100000)) := Or.inl ⟨_, rfl, km_inG (i := 821) (by decide +kernel) (by decide +kernel)⟩
  have w8_231 : km_kcP 8 231 (.long (-1)) := Or.inr (Or.inl ⟨_, rfl, km_inG (i := 887) (by decide +kernel) (by decide +kernel)⟩)
  have w9_139 : km_kcP 9 139 (.long 27) := Or.inr (Or.inl ⟨_, rfl, km_inG (i := 1012) (by decide +kernel) (by decide +kernel)⟩)
  have w9_327 : km_kcP 9 327 (.int (-100000)) := Or.inl ⟨_, rfl, km_inG (i := 1409) (by decide +kernel) (by decide +kernel)⟩
  have w9_355 : km_kcP 9 355 (.long 2) := Or.inr (Or.inl ⟨_, rfl, km_inG (i := 1468) (by decide +kernel) (by decide +kernel)⟩)
  have w9_357 : km_kcP 9 357 (.long (-1)) := Or.inr (Or.inl ⟨_, rfl, km_inG (i := 1463) (by decide +kernel) (by decide +kernel)⟩)
  have w10_265 : km_kcP 10 265 (.int 1431655765) := Or.inl ⟨_, rfl, km_inG (i := 653) (by decide +kernel) (by decide +kernel)⟩
  have w10_266 : km_kcP 10 266 (.int 858993459) := Or.inl ⟨_, rfl, km_inG (i := 654) (by decide +kernel) (by decide +kernel)⟩
  have w10_267 : km_kcP 10 267 (.int 252645135) := Or.inl ⟨_, rfl, km_inG (i := 655) (by decide +kernel) (by decide +kernel)⟩
  have w7_48 : km_kcP 7 48 (.ref 1000001) := Or.inr (Or.inr ⟨0, by decide, rfl, rfl, rfl⟩)
  have w7_54 : km_kcP 7 54 (.ref 1000002) := Or.inr (Or.inr ⟨1, by decide, rfl, rfl, rfl⟩)
  have w7_56 : km_kcP 7 56 (.ref 1000003) := Or.inr (Or.inr ⟨2, by decide, rfl, rfl, rfl⟩)
  have w7_58 : km_kcP 7 58 (.ref 1000004) := Or.inr (Or.inr ⟨3, by decide, rfl, rfl, rfl⟩)
  unfold km_kc at h
  split at h
  · rcases km_cb h with ⟨hb, h⟩ | ⟨-, h⟩
    · obtain rfl := km_beq hb; obtain rfl := Option.some.inj h; exact w0_55
    cases h
  · rcases km_cb h with ⟨hb, h⟩ | ⟨-, h⟩
    · obtain rfl := km_beq hb; obtain rfl := Option.some.inj h; exact w7_48
    rcases km_cb h with ⟨hb, h⟩ | ⟨-, h⟩
    · obtain rfl := km_beq hb; obtain rfl := Option.some.inj h; exact w7_54
    rcases km_cb h with ⟨hb, h⟩ | ⟨-, h⟩
    · obtain rfl := km_beq hb; obtain rfl := Option.some.inj h; exact w7_56
    rcases km_cb h with ⟨hb, h⟩ | ⟨-, h⟩
    · obtain rfl := km_beq hb; obtain rfl := Option.some.inj h; exact w7_58
    cases h
  · rcases km_cb h with ⟨hb, h⟩ | ⟨-, h⟩
    · obtain rfl := km_beq hb; obtain rfl := Option.some.inj h; exact w8_185
    rcases km_cb h with ⟨hb, h⟩ | ⟨-, h⟩
    · obtain rfl := km_beq hb; obtain rfl := Option.some.inj h; exact w8_231
    cases h
  · rcases km_cb h with ⟨hb, h⟩ | ⟨-, h⟩
    · obtain rfl := km_beq hb; obtain rfl := Option.some.inj h; exact w9_139
    rcases km_cb h with ⟨hb, h⟩ | ⟨-, h⟩
    · obtain rfl := km_beq hb; obtain rfl := Option.some.inj h; exact w9_327
    rcases km_cb h with ⟨hb, h⟩ | ⟨-, h⟩
    · obtain rfl := km_beq hb; obtain rfl := Option.some.inj h; exact w9_355
    rcases km_cb h with ⟨hb, h⟩ | ⟨-, h⟩
    · obtain rfl := km_beq hb; obtain rfl := Option.some.inj h; exact w9_357
    cases h
  · rcases km_cb h with ⟨hb, h⟩ | ⟨-, h⟩
    · obtain rfl := km_beq hb; obtain rfl := Option.some.inj h; exact w10_265
    rcases km_cb h with ⟨hb, h⟩ | ⟨-, h⟩
    · obtain rfl := km_beq hb; obtain rfl := Option.some.inj h; exact w10_266
    rcases km_cb h with ⟨hb, h⟩ | ⟨-, h⟩
    · obtain rfl := km_beq hb; obtain rfl := Option.some.inj h; exact w10_267
    cases h
  · cases h
/-! the machine follows: what touches the stack alone -/
section KM1
variable {p : Program} {l : Launch} {e : Env} {R : Room} {s : State} {m : MethodId} {args : Array Value} {below : List Frame} {meth : Method} {c : Code} {H : Heap} {locs : List Loc} {cells slots : Nat} {Q : State → Prop}
variable {cc : ByteArray} {pc : Nat} {LS : Array Slot} {ad : Nat → Nat} {po : Nat}
theorem km_kc_sim (hx : p.tables.exec = Jvm.exec) (hb : c.code = cc) (hown : s.vm.findClass (km_R po) = some m.cls) (hG : ∀ w ∈ km_G, w.before args s = true) (hZ : ∀ j, j < 4 → vk_R RX7 (km_si j) (km_st j) (ad (1000001 + j)) s)
    {i : Nat} {v : Value} {r : List Value} (h : km_kc po i = some v) {ins : KI} (hi : (ins = .ldc i ∧ ∀ x, v ≠ .long x) ∨ (ins = .ldc_w i ∧ ∃ x, v = .int x) ∨ (ins = .ldc2_w i ∧ ∃ x, v = .long x)) (hd : decode cc pc = .ok (ins, km_len ins))
    (k : W p l e R s m args below meth c H locs cells slots Q (F0 m (pc + km_len ins) LS (km_cv ad v :: r))) : W p l e R s m args below meth c H locs cells slots Q (F0 m pc LS r) := by
  rcases km_kc_ok h with ⟨x, rfl, hw⟩ | ⟨x, rfl, hw⟩ | ⟨j, hj, rfl, rfl, rfl⟩
  · rcases hi with ⟨rfl, -⟩ | ⟨rfl, -⟩ | ⟨rfl, y, hy⟩
    · exact lv_ldc hx hb hown (hG _ hw) hd k
    · exact lv_ldcw hx hb hown (hG _ hw) hd k
    · cases hy
  · rcases hi with ⟨rfl, h2⟩ | ⟨rfl, y, hy⟩ | ⟨rfl, -⟩
    · exact absurd rfl (h2 x)
    · cases hy
    · exact lv_ldc2 hx hb hown (hG _ hw) hd k
  · rcases hi with ⟨rfl, -⟩ | ⟨rfl, y, hy⟩ | ⟨rfl, y, hy⟩
    · exact va_ldcS hx hb hown (hZ j hj) hd k
    · cases hy
    · cases hy
set_option maxHeartbeats 4000000 in
theorem km_pure_sim (hx : p.tables.exec = Jvm.exec) (hb : c.code = cc) (hown : s.vm.findClass (km_R po) = some m.cls) (hG : ∀ w ∈ km_G, w.before args s = true) (hZ : ∀ j, j < 4 → vk_R RX7 (km_si j) (km_st j) (ad (1000001 + j)) s)
    {ins : KI} {st st' : List Value} (h : km_pure po ins st = some st') (hd : decode cc pc = .ok (ins, km_len ins))
    (k : W p l e R s m args below meth c H locs cells slots Q (F0 m (pc + km_len ins) LS (st'.map (km_cv ad)))) : W p l e R s m args below meth c H locs cells slots Q (F0 m pc LS (st.map (km_cv ad))) := by
  cases ins <;> simp only [km_pure, reduceCtorEq] at h
  case iconst n => obtain rfl := Option.some.inj h; exact lv_iconst hx hb hd rfl k
  case bipush n => obtain rfl := Option.some.inj h; exact lv_bipush hx hb hd rfl k
  case sipush n => obtain rfl := Option.some.inj h; exact lv_sipush hx hb hd rfl k
  case lconst n => obtain rfl := Option.some.inj h; exact lv_lconst hx hb hd rfl k
  case ldc i =>
    obtain ⟨v, h1, hv, rfl⟩ := km_psh_s h
    exact km_kc_sim hx hb hown hG hZ h1 (Or.inl ⟨rfl, hv⟩) hd k
  case ldc_w i =>
    obtain ⟨v, h1, hv, rfl⟩ := km_psh_w_s h
    exact km_kc_sim hx hb hown hG hZ h1 (Or.inr (Or.inl ⟨rfl, hv⟩)) hd k
  case ldc2_w i =>
    obtain ⟨v, h1, hv, rfl⟩ := km_psh2_w_s h
    exact km_kc_sim hx hb hown hG hZ h1 (Or.inr (Or.inr ⟨rfl, hv⟩)) hd k
  case iadd =>
    obtain ⟨x, y, v, r, rfl, hv, rfl⟩ := km_ii_s h
    obtain rfl := Option.some.inj hv
    exact lv_iadd hx hb hd k
  case isub =>
    obtain ⟨x, y, v, r, rfl, hv, rfl⟩ := km_ii_s h
    obtain rfl := Option.some.inj hv
    exact lv_isub hx hb hd k
  case imul =>
    obtain ⟨x, y, v, r, rfl, hv, rfl⟩ := km_ii_s h
    obtain rfl := Option.some.inj hv
    exact lv_imul hx hb hd k
  case iand =>
    obtain ⟨x, y, v, r, rfl, hv, rfl⟩ := km_ii_s h
    obtain rfl := Option.some.inj hv
    exact lv_iand hx hb hd k
  case ior =>
    obtain ⟨x, y, v, r, rfl, hv, rfl⟩ := km_ii_s h
    obtain rfl := Option.some.inj hv
    exact lv_ior hx hb hd k
  case ixor =>
    obtain ⟨x, y, v, r, rfl, hv, rfl⟩ := km_ii_s h
    obtain rfl := Option.some.inj hv
    exact lv_ixor hx hb hd k
  case ishl =>
    obtain ⟨x, y, v, r, rfl, hv, rfl⟩ := km_ii_s h
    obtain rfl := Option.some.inj hv
    exact lv_ishl hx hb hd k
  case ishr =>
    obtain ⟨x, y, v, r, rfl, hv, rfl⟩ := km_ii_s h
    obtain rfl := Option.some.inj hv
    exact lv_ishr hx hb hd k
  case ladd =>
    obtain ⟨x, y, v, r, rfl, hv, rfl⟩ := km_ll_s h
    obtain rfl := Option.some.inj hv
    exact lv_ladd hx hb hd k
  case lsub =>
    obtain ⟨x, y, v, r, rfl, hv, rfl⟩ := km_ll_s h
    obtain rfl := Option.some.inj hv
    exact lv_lsub hx hb hd k
  case lmul =>
    obtain ⟨x, y, v, r, rfl, hv, rfl⟩ := km_ll_s h
    obtain rfl := Option.some.inj hv
    exact lv_lmul hx hb hd k
  case land =>
    obtain ⟨x, y, v, r, rfl, hv, rfl⟩ := km_ll_s h
    obtain rfl := Option.some.inj hv
    exact lv_land hx hb hd k
  case lor =>
    obtain ⟨x, y, v, r, rfl, hv, rfl⟩ := km_ll_s h
    obtain rfl := Option.some.inj hv
    exact lv_lor hx hb hd k
  case lxor =>
    obtain ⟨x, y, v, r, rfl, hv, rfl⟩ := km_ll_s h
    obtain rfl := Option.some.inj hv
    exact lv_lxor hx hb hd k
  case idiv =>
    obtain ⟨x, y, v, r, rfl, hv, rfl⟩ := km_ii_s h
    by_cases h0 : y = 0
    · rw [if_pos h0] at hv; cases hv
    · rw [if_neg h0] at hv
      obtain rfl := Option.some.inj hv
      exact lv_idiv hx hb hd h0 k
  case irem =>
    obtain ⟨x, y, v, r, rfl, hv, rfl⟩ := km_ii_s h
    by_cases h0 : y = 0
    · rw [if_pos h0] at hv; cases hv
    · rw [if_neg h0] at hv
      obtain rfl := Option.some.inj hv
      exact lv_irem hx hb hd h0 k
  case ldiv =>
    obtain ⟨x, y, v, r, rfl, hv, rfl⟩ := km_ll_s h
    by_cases h0 : y = 0
    · rw [if_pos h0] at hv; cases hv
    · rw [if_neg h0] at hv
      obtain rfl := Option.some.inj hv
      exact lv_ldiv hx hb hd h0 k
  case lrem =>
    obtain ⟨x, y, v, r, rfl, hv, rfl⟩ := km_ll_s h
    by_cases h0 : y = 0
    · rw [if_pos h0] at hv; cases hv
    · rw [if_neg h0] at hv
      obtain rfl := Option.some.inj hv
      exact lv_lrem hx hb hd h0 k
  case iushr =>
    obtain ⟨x, y, v, r, rfl, hv, rfl⟩ := km_ii_s h
    obtain rfl := Option.some.inj hv
    exact lv_iushr hx hb hd rfl k
  case lcmp =>
    obtain ⟨x, y, v, r, rfl, hv, rfl⟩ := km_ll_s h
    obtain rfl := Option.some.inj hv
    exact W.lcmp hx hb hd k
  case lshl =>
    obtain ⟨x, y, v, r, rfl, hv, rfl⟩ := km_li_s h
    obtain rfl := Option.some.inj hv
    exact lv_lshl hx hb hd rfl k
  case lshr =>
    obtain ⟨x, y, v, r, rfl, hv, rfl⟩ := km_li_s h
    obtain rfl := Option.some.inj hv
    exact lv_lshr hx hb hd rfl k
  case i2l =>
    obtain ⟨x, r, rfl, rfl⟩ := km_i1_s h
    exact lv_i2l hx hb hd rfl k
  case i2b =>
    obtain ⟨x, r, rfl, rfl⟩ := km_i1_s h
    exact lv_i2b hx hb hd rfl k
  case l2i =>
    obtain ⟨x, r, rfl, rfl⟩ := km_l1_s h
    exact lv_l2i hx hb hd rfl k
  case ineg =>
    obtain ⟨x, r, rfl, rfl⟩ := km_i1_s h
    exact lv_ineg hx hb hd k
  case lneg =>
    obtain ⟨x, r, rfl, rfl⟩ := km_l1_s h
    exact lv_lneg hx hb hd k
  case dup =>
    obtain ⟨v, r, rfl, hc, rfl⟩ := km_dup_s h
    exact lv_dup hx hb hd (by rw [km_cv_cat]; exact hc) k
  case pop =>
    obtain ⟨v, rfl, hc⟩ := km_pop_s h
    exact lv_pop hx hb hd (by rw [km_cv_cat]; exact hc) k
  case dup2 =>
    obtain ⟨v, w, r, rfl, hc, hc2, rfl⟩ := km_dup2_s h
    exact lv_dup2_11 hx hb hd (by rw [km_cv_cat]; exact hc) (by rw [km_cv_cat]; exact hc2) k
end KM1

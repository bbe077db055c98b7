section ALL
variable {xs : Nat → Int32} {Lx d m pc : Nat} {ls : km_L} {st : List Value} {L : km_M} {R : Option Value × km_M} {q : km_Q}
theorem rn_pure {ins : KI} {st' : List Value} (hq : km_T[m]? = some q) (hi : km_at q.2.2.2.2.2.2.2 pc = some ins) (hp : km_pure q.2.2.2.2.1 ins st = some st') (k : ∃ f, km_run xs Lx f d m (pc + km_len ins) ls st' L = some R) : ∃ f, km_run xs Lx f d m pc ls st L = some R := by
  obtain ⟨f, h⟩ := k
  refine ⟨f + 1, ?_⟩
  unfold km_run
  simp only [hq, hi, hp]
  exact h
theorem rn_loc {ins : KI} {ls' : km_L} {st' : List Value} (hq : km_T[m]? = some q) (hi : km_at q.2.2.2.2.2.2.2 pc = some ins) (hp : km_pure q.2.2.2.2.1 ins st = none) (hl : km_loc ins ls st = some (ls', st')) (k : ∃ f, km_run xs Lx f d m (pc + km_len ins) ls' st' L = some R) : ∃ f, km_run xs Lx f d m pc ls st L = some R := by
  obtain ⟨f, h⟩ := k
  refine ⟨f + 1, ?_⟩
  unfold km_run
  simp only [hq, hi, hp, hl]
  exact h
theorem rn_mem {ins : KI} {st' : List Value} {L' : km_M} (hq : km_T[m]? = some q) (hi : km_at q.2.2.2.2.2.2.2 pc = some ins) (hp : km_pure q.2.2.2.2.1 ins st = none) (hl : km_loc ins ls st = none) (hj : km_jmp pc ins st = none) (hm : km_mem xs Lx q.2.2.2.2.1 (km_init m) ins st L = some (st', L')) (k : ∃ f, km_run xs Lx f d m (pc + km_len ins) ls st' L' = some R) : ∃ f, km_run xs Lx f d m pc ls st L = some R := by
  obtain ⟨f, h⟩ := k
  refine ⟨f + 1, ?_⟩
  unfold km_run
  simp only [hq, hi, hp, hl, hj, hm]
  exact h
theorem rn_inv {ins : KI} {j f1 : Nat} {as rest : List Value} {qj : km_Q} {r1 : Option Value} {L1 : km_M} (hq : km_T[m]? = some q) (hi : km_at q.2.2.2.2.2.2.2 pc = some ins) (hp : km_pure q.2.2.2.2.1 ins st = none) (hl : km_loc ins ls st = none) (hj : km_jmp pc ins st = none) (hm : km_mem xs Lx q.2.2.2.2.1 (km_init m) ins st L = none) (hr : km_ret q.2.2.2.1 ins st = none) (hv : km_inv q.2.2.2.2.1 ins st L = some (j, as, rest)) (hqj : km_T[j]? = some qj) (hle : Nat.ble (km_lay as).length qj.2.2.1 = true) (hc : km_run xs Lx f1 d j 0 (km_ent qj.2.2.1 as) [] L = some (r1, L1)) (k : ∃ f, km_run xs Lx f (d + 1) m (pc + 3) ls (r1.toList ++ rest) L1 = some R) : ∃ f, km_run xs Lx f (d + 1) m pc ls st L = some R := by
  obtain ⟨f, h⟩ := k
  refine ⟨f1 + f + 1, ?_⟩
  unfold km_run
  simp only [hq, hi, hp, hl, hj, hm, hr, hv, hqj, hle, cond_true]
  rw [km_run_le _ _ _ _ _ _ _ _ hc (f1 + f) _ (by omega) km_Le.rf]
  exact km_run_le _ _ _ _ _ _ _ _ h (f1 + f) _ (by omega) km_Le.rf
end ALL
theorem and6 {a b c d e f : Bool} (h : (a && b && c && d && e && f) = true) : a = true ∧ b = true ∧ c = true ∧ d = true ∧ e = true ∧ f = true := by
  simp only [Bool.and_eq_true] at h
  obtain ⟨⟨⟨⟨⟨h1, h2⟩, h3⟩, h4⟩, h5⟩, h6⟩ := h
  exact ⟨h1, h2, h3, h4, h5, h6⟩
theorem all_in {V : km_V} {l : List (Nat × Nat × Int)} (h : l.all (fun q => decide (V q.1 q.2.1 = q.2.2)) = true) : ∀ q, q ∈ l → V q.1 q.2.1 = q.2.2 := fun q hq => of_decide_eq_true (List.all_eq_true.mp h q hq)
theorem six_of {I1 I3 : Option (Option Value × km_M)} {M3 : km_M} (h : (rnB I1 && Nat.beq (rnM I1).length 299 && rnB I3 && vwOk M3 && inits.all (fun q => decide (vOf M3 q.1 q.2.1 = q.2.2)) && decide (vOf M3 0 16 = vOf M3 299 16)) = true) : rnB I1 = true ∧ (rnM I1).length = 299 ∧ rnB I3 = true ∧ vwOk M3 = true ∧ (∀ q, q ∈ inits → vOf M3 q.1 q.2.1 = q.2.2) ∧ vOf M3 0 16 = vOf M3 299 16 := by
  obtain ⟨a, b, c, d, e, f⟩ := and6 h
  exact ⟨a, Nat.eq_of_beq_eq_true b, c, d, all_in e, of_decide_eq_true f⟩
theorem init_six : rnB ir1 = true ∧ (rnM ir1).length = 299 ∧ rnB ir3 = true ∧ vwOk im3 = true ∧ (∀ q, q ∈ inits → vOf im3 q.1 q.2.1 = q.2.2) ∧ vOf im3 0 16 = vOf im3 299 16 := six_of init_ok
theorem init_inv0 {V : km_V} (at5 : ∀ q, q ∈ inits → V q.1 q.2.1 = q.2.2) (at6 : V 0 16 = V 299 16) : kInv V ([], []) [] (fun _ => none) [] (V 0 16) := by
  have init_at : ∀ {a i : Nat} {v : Int} (n : Nat), inits[n]? = some (a, i, v) → V a i = v := fun n h => at5 _ (List.mem_of_getElem? h)
  have z3 : ∀ {p : Nat → Prop}, p 0 → p 1 → p 2 → ∀ s, s < 3 → p s := fun {p} h0 h1 h2 s hs => by
    have : s = 0 ∨ s = 1 ∨ s = 2 := by omega
    rcases this with e | e | e <;> subst e
    · exact h0
    · exact h1
    · exact h2
  refine ⟨⟨⟨init_at 0 rfl, init_at 1 rfl, fun i hi => ?_, fun p hp => absurd hp (Nat.not_lt_zero _), fun c hc => absurd hc (Nat.not_lt_zero _)⟩, ⟨⟨fun p hp => absurd hp (Nat.not_lt_zero _), fun p hp => absurd hp (Nat.not_lt_zero _), fun p hp => absurd hp (Nat.not_lt_zero _), fun p hp => absurd hp (Nat.not_lt_zero _)⟩, ⟨init_at 3 rfl, fun f hf => ?_, fun i hi => absurd hi (Nat.not_lt_zero _)⟩, fun f hf => absurd hf (Nat.not_lt_zero _)⟩, ⟨?_, fun p hp => absurd hp (Nat.not_lt_zero _)⟩, ⟨init_at 6 rfl, 0, by decide, init_at 7 rfl, fun i hi => absurd hi (Nat.not_lt_zero _)⟩, ?_, Or.inl (init_at 11 rfl), Or.inl (init_at 12 rfl)⟩, ⟨⟨init_at 13 rfl, init_at 14 rfl, fun i hi => absurd hi (Nat.not_lt_zero _), fun i j hi => absurd hi (Nat.not_lt_zero _), fun c hc => absurd hc (Nat.not_lt_zero _)⟩, ⟨init_at 15 rfl, 0, by decide, init_at 16 rfl, fun i hi => absurd hi (Nat.not_lt_zero _)⟩, ?_⟩, ⟨⟨by decide, by decide, List.Perm.refl _, fun s hs => absurd hs (by simp)⟩, ⟨by decide, fun R h => absurd h (by simp)⟩, fun s S h => absurd h (by simp)⟩, ⟨init_at 20 rfl, fun j hj => absurd hj (Nat.not_lt_zero _)⟩, ⟨init_at 21 rfl, fun j hj => absurd hj (Nat.not_lt_zero _)⟩, by decide, rfl, at6.symm, ?_⟩
  · have e : i = 0 := Nat.le_zero.mp hi
    subst e; exact init_at 2 rfl
  · have e : f = 0 := Nat.le_zero.mp hf
    subst e; exact init_at 4 rfl
  · exact init_at 5 rfl
  · exact z3 ⟨fun _ => init_at 8 rfl, fun S h => absurd h (by simp)⟩ ⟨fun _ => init_at 9 rfl, fun S h => absurd h (by simp)⟩ ⟨fun _ => init_at 10 rfl, fun S h => absurd h (by simp)⟩
  · exact z3 ⟨fun _ => init_at 17 rfl, fun S h => absurd h (by simp)⟩ ⟨fun _ => init_at 18 rfl, fun S h => absurd h (by simp)⟩ ⟨fun _ => init_at 19 rfl, fun S h => absurd h (by simp)⟩
  · intro k hk
    have : k = 0 ∨ k = 1 ∨ k = 2 ∨ k = 3 := by omega
    rcases this with e | e | e | e <;> subst e
    · exact init_at 22 rfl
    · exact init_at 23 rfl
    · exact init_at 24 rfl
    · exact init_at 25 rfl
theorem law_pre {xs : Nat → Int32} {Lx : Nat} {R : Option Value × km_M} {M1 M3 : km_M} (p2 : M1.length = 299) (c1 : km_run xs Lx 100000 12 90 0 (km_ent km_q90.2.2.1 [.ref 0]) [] im0 = some (none, M1)) (c2 : km_run xs Lx 100000 12 124 0 (km_ent km_q124.2.2.1 [.ref 299]) [] (M1 ++ [(9, 52, fun j => defaultValue (km_Ty 9 j))]) = some (none, M3)) (hk : ∃ f, km_run xs Lx f 13 223 18 [some (.ref km_scr), some (.ref 0), some (.ref 299), some (kI ((0 : Nat) : Int))] [] M3 = some R) : ∃ f, km_run xs Lx f 13 223 0 (km_ent 4 [.ref km_scr]) [] [] = some R := by
  have n2 : km_new M1 [] 9 52 (fun j => defaultValue (km_Ty 9 j)) = some ([.ref 299], M1 ++ [(9, 52, fun j => defaultValue (km_Ty 9 j))]) := by
    unfold km_new
    rw [p2]; rfl
  have kd : km_kd (M1 ++ [(9, 52, fun j => defaultValue (km_Ty 9 j))]) 299 9 = true := by
    unfold km_kd
    rw [List.getElem?_append_right (by omega), p2]; rfl
  refine rn_mem (ins := .new 7) (st' := [.ref 0]) (L' := im0) gq223 rfl rfl rfl rfl rfl ?_
  refine rn_pure (ins := .dup) (st' := [.ref 0, .ref 0]) gq223 rfl rfl ?_
  refine rn_inv (ins := .invokespecial 9) (j := 90) (as := [.ref 0]) (rest := [.ref 0]) gq223 rfl rfl rfl rfl rfl rfl rfl gq90 rfl c1 ?_
  refine rn_loc (ins := .astore_n 1) (ls' := [some (.ref km_scr), some (.ref 0), none, none]) (st' := []) gq223 rfl rfl rfl ?_
  refine rn_mem (ins := .new 10) (st' := [.ref 299]) gq223 rfl rfl rfl rfl n2 ?_
  refine rn_pure (ins := .dup) (st' := [.ref 299, .ref 299]) gq223 rfl rfl ?_
  refine rn_inv (ins := .invokespecial 12) (j := 124) (as := [.ref 299]) (rest := [.ref 299]) gq223 rfl rfl rfl rfl rfl rfl ?_ gq124 rfl c2 ?_
  · show cond true (cond (Nat.ble 1 2 && Nat.ble 1 8 && km_kd (M1 ++ [(9, 52, fun j => defaultValue (km_Ty 9 j))]) 299 9) (some (124, [Value.ref 299], [Value.ref 299])) none) none = _
    rw [kd]; rfl
  refine rn_loc (ins := .astore_n 2) (ls' := [some (.ref km_scr), some (.ref 0), some (.ref 299), none]) (st' := []) gq223 rfl rfl rfl ?_
  refine rn_pure (ins := .iconst 0) (st' := [.int (Int32.ofInt 0)]) gq223 rfl rfl ?_
  refine rn_loc (ins := .istore_n 3) (ls' := [some (.ref km_scr), some (.ref 0), some (.ref 299), some (.int (Int32.ofInt 0))]) (st' := []) gq223 rfl rfl rfl ?_
  exact hk
theorem law_any {xs : Nat → Int32} {Lx : Nat} (hL : Lx ≤ 3072) {M3 : km_M} (p4 : vwOk M3 = true) (hi : kInv (vOf M3) ([], []) [] (fun _ => none) [] (vOf M3 0 16)) : ∃ (f : Nat) (L' : km_M) (V' : km_V), km_run xs Lx f 13 223 18 [some (.ref km_scr), some (.ref 0), some (.ref 299), some (kI ((0 : Nat) : Int))] [] M3 = some (some (kI 1), L') ∧ km_Vw V' L' := by
  have K := law_loop (xs := xs) (d := 0) hL (Lx + 6) 0 (vOf M3) ([], []) [] (fun _ => none) [] _ (by omega) hi
  obtain ⟨f, r, L', V', h1, h2, h3⟩ := K M3 (vwOk_s p4)
  subst h3
  exact ⟨f, L', V', h1, h2⟩
theorem law_six {xs : Nat → Int32} {Lx : Nat} (hL : Lx ≤ 3072) {I1 I3 : Option (Option Value × km_M)} {M3 : km_M} (h : rnB I1 = true ∧ (rnM I1).length = 299 ∧ rnB I3 = true ∧ vwOk M3 = true ∧ (∀ q, q ∈ inits → vOf M3 q.1 q.2.1 = q.2.2) ∧ vOf M3 0 16 = vOf M3 299 16) (e1 : I1 = km_runN 100000 12 90 0 (km_ent 2 [.ref 0]) [] im0) (e3 : I3 = km_runN 100000 12 124 0 (km_ent 1 [.ref 299]) [] (rnM I1 ++ [(9, 52, fun j => defaultValue (km_Ty 9 j))])) (e4 : M3 = rnM I3) : ∃ (f : Nat) (L' : km_M) (V' : km_V), km_run xs Lx f 13 223 0 (km_ent 4 [.ref km_scr]) [] [] = some (some (kI 1), L') ∧ km_Vw V' L' := by
  obtain ⟨h1, h2, h3, h4, h5, h6⟩ := h
  obtain ⟨f, L', V', g1, g2⟩ := law_any (xs := xs) hL h4 (init_inv0 h5 h6)
  have c1 := km_runN_s (xs := xs) (Lx := Lx) 100000 12 90 0 (km_ent 2 [.ref 0]) [] im0 _ (e1.symm.trans (rnB_s h1))
  have c2 := km_runN_s (xs := xs) (Lx := Lx) 100000 12 124 0 (km_ent 1 [.ref 299]) [] _ _ (e3.symm.trans (rnB_s h3))
  rw [← e4] at c2
  obtain ⟨f', g⟩ := law_pre h2 c1 c2 ⟨f, g1⟩
  exact ⟨f', L', V', g, g2⟩
/-- the whole law, from an empty memory: it ends, and answers 1 -/
theorem law_all {xs : Nat → Int32} {Lx : Nat} (hL : Lx ≤ 3072) : ∃ (f : Nat) (L' : km_M) (V' : km_V), km_run xs Lx f 13 223 0 (km_ent 4 [.ref km_scr]) [] [] = some (some (kI 1), L') ∧ km_Vw V' L' := law_six hL init_six rfl rfl rfl

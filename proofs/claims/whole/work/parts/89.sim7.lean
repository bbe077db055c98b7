theorem km_run_mono {xs : Nat → Int32} {Lx : Nat} : ∀ (f d m pc : Nat) (ls : km_L) (st : List Value) (L : km_M) (r : Option Value) (L' : km_M), km_run xs Lx f d m pc ls st L = some (r, L') → L.length ≤ L'.length ∧ km_sl L ≤ km_sl L' := by
  intro f
  induction f with
  | zero => intro d m pc ls st L r L' h; cases h
  | succ f ih =>
    intro d m pc ls st L r L' h
    unfold km_run at h
    split at h
    · cases h
    · split at h
      · cases h
      · split at h
        · exact ih _ _ _ _ _ _ _ _ h
        · split at h
          · exact ih _ _ _ _ _ _ _ _ h
          · split at h
            · exact ih _ _ _ _ _ _ _ _ h
            · split at h
              · have h1 := km_mem_mono (by assumption)
                have h2 := ih _ _ _ _ _ _ _ _ h
                omega
              · split at h
                · cases h; exact ⟨Nat.le_refl _, Nat.le_refl _⟩
                · split at h
                  · cases h
                  · split at h
                    · cases h
                    · split at h
                      · cases h
                      · split at h
                        · cases h
                        · rename_i hc
                          rcases km_cb hc with ⟨-, hc⟩ | ⟨-, hc⟩
                          · have h1 := ih _ _ _ _ _ _ _ _ hc
                            have h2 := ih _ _ _ _ _ _ _ _ h
                            omega
                          · cases hc
section KM6
variable {p : Program} {l : Launch} {e : Env} {R : Room} {s : State} {m : MethodId} {args : Array Value} {below : List Frame} {meth : Method} {c : Code} {H : Heap} {locs : List Loc} {Q : State → Prop}
variable {pc : Nat} {LS : Array Slot} {D : km_D}
theorem km_after (hD : km_Dok D) {H0 : Heap} {L L1 : km_M} {c0 s0 : Nat} (w : km_Wd D s H0 H L locs) (hc0 : c0 ≤ L.length) (hs0 : s0 ≤ km_sl L) (hm : L.length ≤ L1.length ∧ km_sl L ≤ km_sl L1) {st rest : List Value} {r1 : Option Value} {a : Array Value}
    (hr : va_Run p l e R s m args below meth c H locs (L.length - c0) (km_sl L - s0) (L1.length - L.length) (km_sl L1 - km_sl L) (F0 m pc LS (st.map (km_cv (km_ad D)))) (rest.map (km_cv (km_ad D))) (km_Post D r1 L1 a) (km_free D))
    (k : ∀ (H' : Heap) (locs' : List Loc), km_Wd D s H0 H' L1 locs' → km_Go p l e R s m args below meth c D H' locs' L1 c0 s0 Q (pc + 3) LS (r1.toList ++ rest)) : km_Go p l e R s m args below meth c D H locs L c0 s0 Q pc LS st := by
  unfold km_Go
  intro T hT X
  obtain ⟨v, st₀, t, T', Lc, h0, X', hL, e1, e2, ⟨hv, hP, hz, hlen, hk⟩, stp⟩ := hr T hT X
  cases hv
  have hal : s.vm.Alike t.vm := by rw [← e2]; exact X'.warmed.alike
  obtain ⟨w1, w2, w3, w4, w5, w6, w7⟩ := w
  rw [h0] at hk
  have hw : km_Wd D s H0 T'.heap L1 (locs ++ Lc) := by
    rw [e1]
    refine ⟨hP.moved hal.symm, hz, hlen, w4.kept (hk _ hD.2.2.1), w5.kept (fun y _ h2 => hk y (by omega)), fun q hq => (hk q hq).trans (w6 q hq), fun q hq => ?_⟩
    rcases List.mem_append.mp hq with h | h
    · exact w7 q h
    · exact hL q h
  have k0 := k T'.heap (locs ++ Lc) hw
  unfold km_Go at k0
  rw [show L.length - c0 + (L1.length - L.length) = L1.length - c0 by omega, show km_sl L - s0 + (km_sl L1 - km_sl L) = km_sl L1 - s0 by omega] at X'
  have ev : (Option.map (km_cv (km_ad D)) r1).toList ++ List.map (km_cv (km_ad D)) rest = List.map (km_cv (km_ad D)) (r1.toList ++ rest) := by
    rw [List.map_append]
    cases r1 <;> rfl
  obtain ⟨t2, a1, b1⟩ := k0 T' rfl X'
  refine ⟨t2, stp t2 ?_, b1⟩
  rw [ev]
  exact a1
end KM6
def km_Sim (xs : Nat → Int32) (Lx : Nat) (f : Nat) : Prop := ∀ (d m pc : Nat) (ls : km_L) (st : List Value) (L : km_M) (r : Option Value) (L' : km_M), km_run xs Lx f d m pc ls st L = some (r, L') →
  ∀ (q : km_Q), km_T[m]? = some q → ∀ (D : km_D), km_xs D = xs → km_Lx D = Lx →
  ∀ {p : Program} {l : Launch} {e : Env} {R : Room} {s : State} {mm : MethodId} {args : Array Value} {below : List Frame} {meth : Method} {c : Code} {H H0 : Heap} {locs : List Loc} {Q : State → Prop} {LS : Array Slot} (c0 s0 : Nat),
  km_Cx D p s mm args c q.2.1 q.2.2.1 q.2.2.2.2.1 → (km_init m = true → meth.name = "<init>") → ls.length = q.2.2.1 → km_LS (km_ad D) LS ls → km_Wd D s H0 H L locs → c0 ≤ L.length → s0 ≤ km_sl L →
  d + 8 ≤ R.frames → 64 * (d + 8) ≤ R.locals → L'.length - c0 ≤ R.cells → km_sl L' - s0 ≤ R.slots →
  (∀ (H' : Heap) (locs' : List Loc) (LS' : Array Slot) (pc' : Nat) (ins : KI) (st' : List Value), km_Wd D s H0 H' L' locs' → decode q.2.1 pc' = .ok (ins, km_len ins) → km_ret q.2.2.2.1 ins st' = some r → W p l e R s mm args below meth c H' locs' (L'.length - c0) (km_sl L' - s0) Q (F0 mm pc' LS' (st'.map (km_cv (km_ad D))))) →
  km_Go p l e R s mm args below meth c D H locs L c0 s0 Q pc LS st
theorem km_T_okAt {m : Nat} {q : km_Q} (h : km_T[m]? = some q) : km_okc q = true := km_T_ok q (List.mem_of_getElem? h)
theorem km_dec {q : km_Q} (h : km_okc q = true) {pc : Nat} {ins : KI} (hi : km_at q.2.2.2.2.2.2.2 pc = some ins) : ∃ n, decode q.2.1 pc = .ok (ins, n) ∧ (n = km_len ins ∨ km_len ins = 0) := by
  have h1 := List.all_eq_true.mp h _ (km_at_mem hi)
  unfold km_okd at h1
  split at h1
  · rename_i i n hd
    rw [Bool.and_eq_true, Bool.or_eq_true] at h1
    have e1 := of_decide_eq_true h1.1
    dsimp only at e1 hd
    subst e1
    exact ⟨n, hd, h1.2.elim (fun z => Or.inl (km_beq z)) (fun z => Or.inr (km_beq z))⟩
  · cases h1
theorem km_len0 {ins : KI} (h : km_len ins = 0) : ∃ a b c d, ins = .tableswitch a b c d := by
  cases ins <;> first | (cases h; done) | exact ⟨_, _, _, _, rfl⟩

/-! more fuel, more known of the locals: the same run -/
def km_Le (l l' : km_L) : Prop := l.length = l'.length ∧ ∀ (i : Nat) (v : Value), l[i]? = some (some v) → l'[i]? = some (some v)
theorem km_Le.rf {l : km_L} : km_Le l l := ⟨rfl, fun _ _ h => h⟩
theorem km_clr_at {ls : km_L} {i j : Nat} {w : Value} (h : ls[j]? = some (some w)) (hn : ¬ (j + 1 = i ∧ w.category = 2)) : (km_clr ls i)[j]? = some (some w) := by
  cases i with
  | zero => exact h
  | succ k =>
    show (km_clrk ls k)[j]? = _
    unfold km_clrk
    split
    · rename_i v hv
      cases hb : Nat.beq v.category 2 with
      | true =>
        show (ls.set k none)[j]? = _
        by_cases hj : k = j
        · subst hj
          rw [hv] at h
          obtain rfl := Option.some.inj (Option.some.inj h)
          exact absurd ⟨rfl, Nat.eq_of_beq_eq_true hb⟩ hn
        · rw [List.getElem?_set_ne hj]; exact h
      | false => exact h
    · exact h
theorem km_clr_le {l l' : km_L} (h : km_Le l l') (i : Nat) : km_Le (km_clr l i) (km_clr l' i) := by
  refine ⟨by rw [km_clr_len, km_clr_len]; exact h.1, fun j v hv => ?_⟩
  obtain ⟨h1, h2⟩ := km_clr_s hv
  exact km_clr_at (h.2 j v h1) h2
theorem km_set_le {l l' : km_L} (h : km_Le l l') (i : Nat) (x : Option Value) : km_Le (l.set i x) (l'.set i x) := by
  refine ⟨by rw [List.length_set, List.length_set]; exact h.1, fun j v hv => ?_⟩
  by_cases hj : i = j
  · subst hj
    by_cases hi : i < l.length
    · rw [List.getElem?_set_self hi] at hv
      rw [List.getElem?_set_self (by rw [← h.1]; exact hi)]
      exact hv
    · rw [List.getElem?_eq_none (by rw [List.length_set]; omega)] at hv
      cases hv
  · rw [List.getElem?_set_ne hj] at hv ⊢
    exact h.2 j v hv
theorem km_st1_le {l l' l2 : km_L} (h : km_Le l l') {i : Nat} {v : Value} (h1 : km_st1 l i v = some l2) : ∃ l2', km_st1 l' i v = some l2' ∧ km_Le l2 l2' := by
  unfold km_st1 at h1 ⊢
  rw [← h.1]
  rcases km_cb h1 with ⟨hb, h2⟩ | ⟨-, h2⟩
  · cases h2
    rw [hb]
    exact ⟨_, rfl, km_set_le (km_clr_le h i) _ _⟩
  · cases h2
theorem km_st2_le {l l' l2 : km_L} (h : km_Le l l') {i : Nat} {v : Value} (h1 : km_st2 l i v = some l2) : ∃ l2', km_st2 l' i v = some l2' ∧ km_Le l2 l2' := by
  unfold km_st2 at h1 ⊢
  rw [← h.1]
  rcases km_cb h1 with ⟨hb, h2⟩ | ⟨-, h2⟩
  · cases h2
    rw [hb]
    exact ⟨_, rfl, km_set_le (km_set_le (km_clr_le h i) _ _) _ _⟩
  · cases h2
theorem km_loc_le {l l' l2 : km_L} (h : km_Le l l') {ins : KI} {st st2 : List Value} (h1 : km_loc ins l st = some (l2, st2)) : ∃ l2', km_loc ins l' st = some (l2', st2) ∧ km_Le l2 l2' := by
  cases ins <;> simp only [km_loc, reduceCtorEq] at h1
  case iload i => obtain ⟨rfl, x, h2, rfl⟩ := km_ldI_s h1; exact ⟨l', by simp only [km_loc, km_ldI, h.2 _ _ h2], h⟩
  case iload_n i => obtain ⟨rfl, x, h2, rfl⟩ := km_ldI_s h1; exact ⟨l', by simp only [km_loc, km_ldI, h.2 _ _ h2], h⟩
  case lload i => obtain ⟨rfl, x, h2, rfl⟩ := km_ldJ_s h1; exact ⟨l', by simp only [km_loc, km_ldJ, h.2 _ _ h2], h⟩
  case lload_n i => obtain ⟨rfl, x, h2, rfl⟩ := km_ldJ_s h1; exact ⟨l', by simp only [km_loc, km_ldJ, h.2 _ _ h2], h⟩
  case aload i => obtain ⟨rfl, x, h2, rfl⟩ := km_ldA_s h1; exact ⟨l', by simp only [km_loc, km_ldA, h.2 _ _ h2], h⟩
  case aload_n i => obtain ⟨rfl, x, h2, rfl⟩ := km_ldA_s h1; exact ⟨l', by simp only [km_loc, km_ldA, h.2 _ _ h2], h⟩
  case istore i => obtain ⟨x, rfl, h2⟩ := km_stI_s h1; obtain ⟨l3, h3, h4⟩ := km_st1_le h h2; exact ⟨l3, by simp only [km_loc, km_stI, h3], h4⟩
  case istore_n i => obtain ⟨x, rfl, h2⟩ := km_stI_s h1; obtain ⟨l3, h3, h4⟩ := km_st1_le h h2; exact ⟨l3, by simp only [km_loc, km_stI, h3], h4⟩
  case astore i => obtain ⟨x, rfl, h2⟩ := km_stA_s h1; obtain ⟨l3, h3, h4⟩ := km_st1_le h h2; exact ⟨l3, by simp only [km_loc, km_stA, h3], h4⟩
  case astore_n i => obtain ⟨x, rfl, h2⟩ := km_stA_s h1; obtain ⟨l3, h3, h4⟩ := km_st1_le h h2; exact ⟨l3, by simp only [km_loc, km_stA, h3], h4⟩
  case lstore i => obtain ⟨x, rfl, h2⟩ := km_stJ_s h1; obtain ⟨l3, h3, h4⟩ := km_st2_le h h2; exact ⟨l3, by simp only [km_loc, km_stJ, h3], h4⟩
  case lstore_n i => obtain ⟨x, rfl, h2⟩ := km_stJ_s h1; obtain ⟨l3, h3, h4⟩ := km_st2_le h h2; exact ⟨l3, by simp only [km_loc, km_stJ, h3], h4⟩
  case iinc i n =>
    split at h1
    · rename_i x h0
      split at h1
      · rename_i l3 h2
        cases h1
        obtain ⟨l3, h3, h4⟩ := km_st1_le h h2
        refine ⟨l3, ?_, h4⟩
        simp only [km_loc]
        rw [h.2 _ _ h0]
        dsimp only
        rw [h3]
      · cases h1
    · cases h1
theorem km_loc_none {l l' : km_L} {ins : KI} {st : List Value} {x : km_L × List Value} (h : km_loc ins l st = none) (h1 : km_loc ins l' st = some x) (pc : Nat) (xs : Nat → Int32) (Lx c : Nat) (it : Bool) (L : km_M) (rt : Option FieldType) : km_jmp pc ins st = none ∧ km_mem xs Lx c it ins st L = none ∧ km_ret rt ins st = none ∧ km_inv c ins st L = none := by
  cases ins <;> simp only [km_loc, reduceCtorEq] at h1
  all_goals exact ⟨rfl, rfl, rfl, rfl⟩
theorem km_run_le {xs : Nat → Int32} {Lx : Nat} : ∀ (f d m pc : Nat) (ls : km_L) (st : List Value) (L : km_M) (r : Option Value × km_M), km_run xs Lx f d m pc ls st L = some r → ∀ (g : Nat) (ls' : km_L), f ≤ g → km_Le ls ls' → km_run xs Lx g d m pc ls' st L = some r := by
  intro f
  induction f with
  | zero => intro d m pc ls st L r h; cases h
  | succ f ih =>
    intro d m pc ls st L r h g ls' hg hle
    obtain ⟨g, rfl⟩ : ∃ k, g = k + 1 := ⟨g - 1, by omega⟩
    have hg : f ≤ g := by omega
    unfold km_run at h ⊢
    split at h
    · cases h
    · rename_i q hq
      (try rw [hq])
      (try dsimp only)
      split at h
      · cases h
      · rename_i ins hins
        (try rw [hins])
        (try dsimp only)
        split at h
        · rename_i st2 hp
          (try rw [hp])
          exact ih _ _ _ _ _ _ _ h g ls' hg hle
        · rename_i hp
          (try rw [hp])
          (try dsimp only)
          split at h
          · rename_i ls2 st2 hl
            obtain ⟨l3, h3, h4⟩ := km_loc_le hle hl
            (try rw [h3])
            exact ih _ _ _ _ _ _ _ h g l3 hg h4
          · rename_i hl
            have hl' : km_loc ins ls' st = none ∨ False := by
              cases hx : km_loc ins ls' st with
              | none => exact Or.inl rfl
              | some x =>
                obtain ⟨e1, e2, e3, e4⟩ := km_loc_none hl hx pc xs Lx q.2.2.2.2.1 (km_init m) L q.2.2.2.1
                rw [e1, e2, e3, e4] at h
                cases h
            (try rw [hl'.resolve_right id])
            (try dsimp only)
            split at h
            · rename_i hj
              (try rw [hj])
              exact ih _ _ _ _ _ _ _ h g ls' hg hle
            · rename_i hj
              (try rw [hj])
              (try dsimp only)
              split at h
              · rename_i hm
                (try rw [hm])
                exact ih _ _ _ _ _ _ _ h g ls' hg hle
              · rename_i hm
                (try rw [hm])
                (try dsimp only)
                split at h
                · rename_i hr
                  (try rw [hr])
                  exact h
                · rename_i hr
                  (try rw [hr])
                  (try dsimp only)
                  split at h
                  · cases h
                  · rename_i j as rest hv
                    (try rw [hv])
                    (try dsimp only)
                    split at h
                    · cases h
                    · (try dsimp only)
                      split at h
                      · cases h
                      · rename_i qj hqj
                        (try rw [hqj])
                        (try dsimp only)
                        split at h
                        · cases h
                        · rename_i r1 L1 hc
                          rcases km_cb hc with ⟨hb, hc⟩ | ⟨-, hc⟩
                          · rw [hb]
                            have h5 := ih _ _ _ _ _ _ _ hc g _ hg km_Le.rf
                            (try dsimp only [cond_true])
                            (try rw [h5])
                            exact ih _ _ _ _ _ _ _ h g ls' hg hle
                          · cases hc
/-! the view: addresses, places, whole numbers -/
abbrev km_V : Type := Nat → Nat → Int
abbrev kI (x : Int) : Value := .int (Int32.ofInt x)
abbrev kJ (x : Int) : Value := .long (Int64.ofInt x)
def km_el (k i : Nat) : Nat := cond (Nat.blt k 10) (match km_Ty k i with | .int => 0 | .boolean => 0 | .long => 1 | _ => 2) (match k with | 10 => 0 | 11 => 0 | 13 => 0 | 12 => 1 | _ => 2)
def km_vl (k a i : Nat) (x : Int) : Value := match km_el k i with
  | 0 => kI x
  | 1 => kJ x
  | _ => .ref (km_rf a i)
def km_Vw (V : km_V) (L : km_M) : Prop := L.length = km_sh.length ∧ ∀ a k n, km_sh[a]? = some (k, n) → ∃ f, L[a]? = some (k, n, f) ∧ ∀ i, i < n → f i = km_vl k a i (V a i)
def up (V : km_V) (a i : Nat) (x : Int) : km_V := fun b j => if b = a ∧ j = i then x else V b j
theorem km_Vw.rd {V : km_V} {L : km_M} (h : km_Vw V L) {a k n i : Nat} (hs : km_sh[a]? = some (k, n)) (hi : i < n) : km_rd L a k i = some (km_vl k a i (V a i)) := by
  obtain ⟨f, h1, h2⟩ := h.2 a k n hs
  unfold km_rd
  rw [h1]
  dsimp only
  rw [Nat.beq_refl, show Nat.blt i n = true from Nat.ble_eq_true_of_le hi]
  exact congrArg some (h2 i hi)
theorem km_Vw.wr {V : km_V} {L : km_M} (h : km_Vw V L) {a k n i : Nat} (hs : km_sh[a]? = some (k, n)) (hi : i < n) {v : Value} {x : Int} (hv : v = km_vl k a i x) : ∃ L', km_wr L a k i v = some L' ∧ km_Vw (up V a i x) L' := by
  obtain ⟨f, h1, h2⟩ := h.2 a k n hs
  refine ⟨L.set a (k, n, updV f i v), ?_, ?_, ?_⟩
  · unfold km_wr
    rw [h1]
    dsimp only
    rw [Nat.beq_refl, show Nat.blt i n = true from Nat.ble_eq_true_of_le hi]
    rfl
  · rw [List.length_set]; exact h.1
  · intro b kb nb hb
    by_cases hab : a = b
    · subst hab
      rw [hs] at hb
      cases hb
      refine ⟨updV f i v, by rw [List.getElem?_set_self (km_lt h1)], fun j hj => ?_⟩
      unfold updV up
      by_cases hj2 : j = i
      · subst hj2
        rw [if_pos rfl, if_pos ⟨rfl, rfl⟩]
        exact hv
      · rw [if_neg hj2, if_neg (fun z => hj2 z.2)]
        exact h2 j hj
    · obtain ⟨g, g1, g2⟩ := h.2 b kb nb hb
      refine ⟨g, by rw [List.getElem?_set_ne hab]; exact g1, fun j hj => ?_⟩
      unfold up
      rw [if_neg (fun z => hab z.1.symm)]
      exact g2 j hj
theorem km_Vw.kd {V : km_V} {L : km_M} (h : km_Vw V L) {a k n : Nat} (hs : km_sh[a]? = some (k, n)) : km_kd L a k = true := by
  obtain ⟨f, h1, -⟩ := h.2 a k n hs
  unfold km_kd
  rw [h1]
  exact Nat.beq_refl k

/-! the constructors: run by the kernel, from an empty memory -/
def km_memN (c : Nat) (it : Bool) (ins : KI) (st : List Value) (L : km_M) : Option (List Value × km_M) :=
  match ins with
  | .iaload => (match st with
    | .int _ :: .ref a :: _ => cond (Nat.beq a km_scr) none (km_mem (fun _ => 0) 0 c it ins st L)
    | _ => none)
  | .arraylength => (match st with
    | .ref a :: _ => cond (Nat.beq a km_scr) none (km_mem (fun _ => 0) 0 c it ins st L)
    | _ => none)
  | _ => km_mem (fun _ => 0) 0 c it ins st L
def km_runN : Nat → Nat → Nat → Nat → km_L → List Value → km_M → Option (Option Value × km_M)
  | 0, _, _, _, _, _, _ => none
  | f + 1, d, m, pc, ls, st, L =>
    match km_T[m]? with
    | none => none
    | some q =>
    match km_at q.2.2.2.2.2.2.2 pc with
    | none => none
    | some ins =>
    match km_pure q.2.2.2.2.1 ins st with
    | some st' => km_runN f d m (pc + km_len ins) ls st' L
    | none =>
    match km_loc ins ls st with
    | some (ls', st') => km_runN f d m (pc + km_len ins) ls' st' L
    | none =>
    match km_jmp pc ins st with
    | some (pc', st') => km_runN f d m pc' ls st' L
    | none =>
    match km_memN q.2.2.2.2.1 (km_init m) ins st L with
    | some (st', L') => km_runN f d m (pc + km_len ins) ls st' L'
    | none =>
    match km_ret q.2.2.2.1 ins st with
    | some r => some (r, L)
    | none =>
    match km_inv q.2.2.2.2.1 ins st L with
    | none => none
    | some (j, as, rest) =>
    match d with
    | 0 => none
    | d' + 1 =>
    match km_T[j]? with
    | none => none
    | some qj =>
    match cond (Nat.ble (km_lay as).length qj.2.2.1) (km_runN f d' j 0 (km_ent qj.2.2.1 as) [] L) none with
    | none => none
    | some (r, L') => km_runN f d m (pc + 3) ls (r.toList ++ rest) L'
theorem km_memN_s {xs : Nat → Int32} {Lx : Nat} {c : Nat} {it : Bool} {ins : KI} {st : List Value} {L : km_M} {r : List Value × km_M} (h : km_memN c it ins st L = some r) : km_mem xs Lx c it ins st L = some r := by
  cases ins
  case iaload =>
    unfold km_memN at h
    dsimp only at h
    split at h
    · rename_i i a r0
      cases hb : Nat.beq a km_scr with
      | true => rw [hb] at h; cases h
      | false =>
        rw [hb] at h
        unfold km_mem at h ⊢
        dsimp only at h ⊢
        rw [hb] at h ⊢
        exact h
    · cases h
  case arraylength =>
    unfold km_memN at h
    dsimp only at h
    split at h
    · rename_i a r0
      cases hb : Nat.beq a km_scr with
      | true => rw [hb] at h; cases h
      | false =>
        rw [hb] at h
        unfold km_mem at h ⊢
        dsimp only at h ⊢
        rw [hb] at h ⊢
        exact h
    · cases h
  all_goals exact h
theorem km_memN_n {xs : Nat → Int32} {Lx : Nat} {c : Nat} {it : Bool} {ins : KI} {st : List Value} {L : km_M} (h : km_memN c it ins st L = none) {x : Option Value} {rt : Option FieldType} (h2 : km_ret rt ins st = some x ∨ ∃ y, km_inv c ins st L = some y) : km_mem xs Lx c it ins st L = none := by
  cases ins
  case iaload => rcases h2 with h2 | ⟨y, h2⟩ <;> cases h2
  case arraylength => rcases h2 with h2 | ⟨y, h2⟩ <;> cases h2
  all_goals exact h
theorem km_runN_s {xs : Nat → Int32} {Lx : Nat} : ∀ (f d m pc : Nat) (ls : km_L) (st : List Value) (L : km_M) (r : Option Value × km_M), km_runN f d m pc ls st L = some r → km_run xs Lx f d m pc ls st L = some r := by
  intro f
  induction f with
  | zero => intro d m pc ls st L r h; cases h
  | succ f ih =>
    intro d m pc ls st L r h
    unfold km_runN at h
    unfold km_run
    split at h
    · cases h
    · rename_i q hq
      try rw [hq]
      try dsimp only
      split at h
      · cases h
      · rename_i ins hins
        try rw [hins]
        try dsimp only
        split at h
        · rename_i st2 hp
          try rw [hp]
          exact ih _ _ _ _ _ _ _ h
        · rename_i hp
          try rw [hp]
          try dsimp only
          split at h
          · rename_i ls2 st2 hl
            try rw [hl]
            exact ih _ _ _ _ _ _ _ h
          · rename_i hl
            try rw [hl]
            try dsimp only
            split at h
            · rename_i hj
              try rw [hj]
              exact ih _ _ _ _ _ _ _ h
            · rename_i hj
              try rw [hj]
              try dsimp only
              split at h
              · rename_i hm
                rw [km_memN_s hm]
                exact ih _ _ _ _ _ _ _ h
              · rename_i hm
                split at h
                · rename_i r2 hr
                  rw [km_memN_n hm (Or.inl hr)]
                  try dsimp only
                  rw [hr]
                  exact h
                · rename_i hr
                  split at h
                  · cases h
                  · rename_i j as rest hv
                    rw [km_memN_n (x := none) (rt := none) hm (Or.inr ⟨_, hv⟩)]
                    try dsimp only
                    rw [hr]
                    try dsimp only
                    rw [hv]
                    try dsimp only
                    split at h
                    · cases h
                    · try dsimp only
                      split at h
                      · cases h
                      · rename_i qj hqj
                        try rw [hqj]
                        try dsimp only
                        split at h
                        · cases h
                        · rename_i r1 L1 hc
                          rcases km_cb hc with ⟨hb, hc⟩ | ⟨-, hc⟩
                          · rw [hb]
                            have h5 := ih _ _ _ _ _ _ _ hc
                            try dsimp only [cond_true]
                            rw [h5]
                            exact ih _ _ _ _ _ _ _ h
                          · cases hc
def toI : Value → Int
  | .int x => x.toInt
  | .long x => x.toInt
  | _ => 0
def vOf (M : km_M) (a i : Nat) : Int := match M[a]? with
  | some q => toI (q.2.2 i)
  | none => 0
def okv (k a i : Nat) (v : Value) : Bool := match km_el k i with
  | 0 => (match v with
    | .int _ => true
    | _ => false)
  | 1 => (match v with
    | .long _ => true
    | _ => false)
  | _ => (match v with
    | .ref r => Nat.beq r (km_rf a i)
    | _ => false)
def vwOk (M : km_M) : Bool := Nat.beq M.length km_sh.length && (List.range km_sh.length).all (fun a => match km_sh[a]?, M[a]? with
  | some p, some q => Nat.beq p.1 q.1 && Nat.beq p.2 q.2.1 && (List.range p.2).all (fun i => okv p.1 a i (q.2.2 i))
  | _, _ => false)
theorem okv_s {k a i : Nat} {v : Value} (h : okv k a i v = true) : v = km_vl k a i (toI v) := by
  unfold okv at h
  unfold km_vl
  generalize km_el k i = z at *
  match z with
  | 0 =>
    cases v
    case int x => show Value.int x = Value.int (Int32.ofInt x.toInt); rw [Int32.ofInt_toInt]
    all_goals exact Bool.noConfusion h
  | 1 =>
    cases v
    case long x => show Value.long x = Value.long (Int64.ofInt x.toInt); rw [Int64.ofInt_toInt]
    all_goals exact Bool.noConfusion h
  | z + 2 =>
    cases v
    case ref r => exact congrArg Value.ref (Nat.eq_of_beq_eq_true h)
    all_goals exact Bool.noConfusion h
theorem vwOk_s {M : km_M} (h : vwOk M = true) : km_Vw (vOf M) M := by
  unfold vwOk at h
  rw [Bool.and_eq_true] at h
  obtain ⟨h1, h2⟩ := h
  refine ⟨Nat.eq_of_beq_eq_true h1, fun a k n hs => ?_⟩
  have ha : a < km_sh.length := (List.getElem?_eq_some_iff.mp hs).1
  have h3 := List.all_eq_true.mp h2 a (List.mem_range.mpr ha)
  rw [hs] at h3
  split at h3
  · rename_i p q e1 e2
    cases e1
    rw [Bool.and_eq_true, Bool.and_eq_true] at h3
    obtain ⟨⟨b1, b2⟩, b3⟩ := h3
    have b1 := Nat.eq_of_beq_eq_true b1
    have b2 := Nat.eq_of_beq_eq_true b2
    refine ⟨q.2.2, ?_, fun i hi => ?_⟩
    · rw [e2]
      dsimp only at b1 b2
      rw [b1, b2]
    · have := okv_s (List.all_eq_true.mp b3 i (List.mem_range.mpr hi))
      unfold vOf
      rw [e2]
      exact this
  · cases h3
def rnM (o : Option (Option Value × km_M)) : km_M := match o with
  | some (none, M) => M
  | _ => []
def rnB (o : Option (Option Value × km_M)) : Bool := match o with
  | some (none, _) => true
  | _ => false
theorem rnB_s {o : Option (Option Value × km_M)} (h : rnB o = true) : o = some (none, rnM o) := by
  unfold rnB at h
  split at h
  · rfl
  · cases h
def im0 : km_M := [(8, 17, fun j => defaultValue (km_Ty 8 j))]
def ir1 : Option (Option Value × km_M) := km_runN 100000 12 90 0 (km_ent 2 [.ref 0]) [] im0
def im2 : km_M := rnM ir1 ++ [(9, 52, fun j => defaultValue (km_Ty 9 j))]
def ir3 : Option (Option Value × km_M) := km_runN 100000 12 124 0 (km_ent 1 [.ref 299]) [] im2
def im3 : km_M := rnM ir3
def inits : List (Nat × Nat × Int) := [(13, 0, 0), (13, 1, 0), (14, 0, 0), (17, 7, 0), (26, 0, 0), (28, 0, 0), (45, 0, 0), (45, 1, 0), (208, 0, 0), (208, 1, 0), (208, 2, 0), (0, 13, 0), (0, 14, 0), (307, 0, 0), (307, 1, 0), (299, 39, 0), (299, 38, 0), (325, 0, 0), (325, 1, 0), (325, 2, 0), (1, 0, 0), (299, 2, 0), (306, 0, keyV 0), (306, 1, keyV 1), (306, 2, keyV 2), (306, 3, keyV 3)]
def initB : Bool := rnB ir1 && Nat.beq (rnM ir1).length 299 && rnB ir3 && vwOk im3 && inits.all (fun q => decide (vOf im3 q.1 q.2.1 = q.2.2)) && decide (vOf im3 0 16 = vOf im3 299 16)
set_option maxRecDepth 100000 in
theorem init_ok : initB = true := by decide +kernel

/-! loosened -/
theorem rwDrop_bits {b c : Nat} (R : Rw) (h : ∀ i, b / 2 ^ i % 2 = c / 2 ^ i % 2) : rwDrop b R = rwDrop c R := by
  have e1 : rwAhd b = rwAhd c := by
    funext x
    unfold rwAhd
    congr 1
    funext i
    rw [h i]
  have e2 : rwGo b = rwGo c := by
    funext x
    unfold rwGo
    rw [h, e1]
  have e3 : (fun i => b / 2 ^ i % 2 != 1) = (fun i => c / 2 ^ i % 2 != 1) := by
    funext i
    rw [h i]
  unfold rwDrop
  rw [e2, e3]
theorem bit_lt (x i : Nat) : x / 2 ^ i % 2 < 2 := Nat.mod_lt _ (by omega)
theorem or2_bit (a b i : Nat) : (2 ^ a ||| 2 ^ b) / 2 ^ i % 2 = if i = a ∨ i = b then 1 else 0 := by
  have h := bor_bit (2 ^ a) b i
  rw [bit_pow] at h
  have h2 := bit_lt (2 ^ a ||| 2 ^ b) i
  by_cases e : i = a ∨ i = b
  · rw [if_pos e]
    refine h.mpr ?_
    rcases e with e | e
    · exact Or.inl (if_pos e)
    · exact Or.inr e
  · rw [if_neg e]
    have : ¬ (2 ^ a ||| 2 ^ b) / 2 ^ i % 2 = 1 := by
      intro z
      rcases h.mp z with z | z
      · rw [if_neg (fun q => e (Or.inl q))] at z; omega
      · exact e (Or.inr z)
    omega
theorem rwAhd_or2 {a b : Nat} (h : a < b) (c : Nat) : rwAhd (2 ^ a ||| 2 ^ b) c = (if a < c then 1 else 0) + (if b < c then 1 else 0) := by
  induction c with
  | zero => rfl
  | succ c ih =>
    rw [rwAhd_succ, ih, or2_bit]
    have e1 : (if (if c = a ∨ c = b then 1 else 0) = 1 then 1 else 0) = if c = a ∨ c = b then 1 else 0 := by
      by_cases e : c = a ∨ c = b
      · rw [if_pos e, if_pos rfl]
      · rw [if_neg e, if_neg (by omega)]
    rw [e1]
    by_cases c1 : a < c <;> by_cases c2 : b < c <;> by_cases c3 : c = a ∨ c = b <;> by_cases c4 : a < c + 1 <;> by_cases c5 : b < c + 1 <;> simp only [c1, c2, c3, c4, c5, if_true, if_false] <;> omega
theorem rwGo_or2 {a b : Nat} (h : a < b) (x : Nat) : rwGo (2 ^ a ||| 2 ^ b) x = (rwGo (2 ^ b) x).bind (rwGo (2 ^ a)) := by
  rw [rwGo_pow]
  unfold rwGo
  rw [or2_bit, rwAhd_or2 h]
  by_cases e1 : x / 2 = b
  · rw [if_pos e1, if_pos (by rw [if_pos (Or.inr e1)])]; rfl
  · rw [if_neg e1]
    have hb : ∀ y : Nat, (some y).bind (rwGo (2 ^ a)) = rwGo (2 ^ a) y := fun _ => rfl
    have e0 : (some (if b < x / 2 then x - 2 else x)).bind (fun x => if 2 ^ a / 2 ^ (x / 2) % 2 = 1 then none else some (x - 2 * rwAhd (2 ^ a) (x / 2))) = rwGo (2 ^ a) (if b < x / 2 then x - 2 else x) := rfl
    rw [e0, rwGo_pow]
    by_cases e2 : x / 2 = a
    · rw [if_pos (by rw [if_pos (Or.inl e2)]), if_neg (show ¬ b < x / 2 by omega), if_pos e2]
    · rw [if_neg (by rw [if_neg (by omega)]; omega)]
      by_cases e3 : b < x / 2
      · have p1 : ¬ (x - 2) / 2 = a := by omega
        have p2 : a < (x - 2) / 2 := by omega
        have p3 : a < x / 2 := by omega
        rw [if_pos e3, if_pos e3, if_neg p1, if_pos p2, if_pos p3]
        congr 1
      · rw [if_neg e3, if_neg e3, if_neg e2]
        by_cases e4 : a < x / 2
        · rw [if_pos e4, if_pos e4]
        · rw [if_neg e4, if_neg e4]; rfl
theorem rwDrop_or2 {a b : Nat} (h : a < b) {R : Rw} (hb : b < rwn R) : rwDrop (2 ^ a) (rwDrop (2 ^ b) R) = rwDrop (2 ^ a ||| 2 ^ b) R := by
  have n1 : rwn (rwDrop (2 ^ b) R) = rwn R - 1 := by rw [rwDrop_n, rwAhd_pow, if_pos hb]
  have n2 : rwn (rwDrop (2 ^ a) (rwDrop (2 ^ b) R)) = rwn R - 2 := by rw [rwDrop_n, n1, rwAhd_pow, if_pos (by omega)]; omega
  have n3 : rwn (rwDrop (2 ^ a ||| 2 ^ b) R) = rwn R - 2 := by rw [rwDrop_n, rwAhd_or2 h, if_pos (by omega), if_pos hb]
  have e1 : (rwDrop (2 ^ a) (rwDrop (2 ^ b) R)).1 = (rwDrop (2 ^ a ||| 2 ^ b) R).1 := by
    unfold rwDrop
    dsimp only
    rw [List.map_map]
    apply List.map_congr_left
    intro l _
    show (l.filterMap (rwGo (2 ^ b))).filterMap (rwGo (2 ^ a)) = _
    rw [List.filterMap_filterMap]
    congr 1
    funext x
    exact (rwGo_or2 h x).symm
  have e2 : (rwDrop (2 ^ a) (rwDrop (2 ^ b) R)).2 = (rwDrop (2 ^ a ||| 2 ^ b) R).2 := by
    refine gd_ext 0 (n2.trans n3.symm) (fun i hi => ?_)
    have hi : i < rwn R - 2 := by rw [← n2]; exact hi
    -- the crossing whose sign it is
    have key : ∀ c1 c2, c1 < rwn R - 1 → c1 ≠ a → c1 - (if a < c1 then 1 else 0) = i → c2 < rwn R → c2 ≠ b → c2 - (if b < c2 then 1 else 0) = c1 → c2 ≠ a → c2 - ((if a < c2 then 1 else 0) + (if b < c2 then 1 else 0)) = i → (rwDrop (2 ^ a) (rwDrop (2 ^ b) R)).2.getD i 0 = (rwDrop (2 ^ a ||| 2 ^ b) R).2.getD i 0 := by
      intro c1 c2 q1 q2 q3 q4 q5 q6 q7 q8
      have s1 := rwSg_at (f := fun c => (rwDrop (2 ^ b) R).2.getD c 0) (b := 2 ^ a) (n := rwn (rwDrop (2 ^ b) R)) (c := c1) (by omega) (by rw [bit_pow, if_neg q2]; omega)
      have s2 := rwSg_at (f := fun c => R.2.getD c 0) (b := 2 ^ b) (n := rwn R) (c := c2) q4 (by rw [bit_pow, if_neg q5]; omega)
      have s3 := rwSg_at (f := fun c => R.2.getD c 0) (b := 2 ^ a ||| 2 ^ b) (n := rwn R) (c := c2) q4 (by rw [or2_bit, if_neg (by omega)]; omega)
      rw [rwAhd_pow, q3] at s1
      rw [rwAhd_pow, q6] at s2
      rw [rwAhd_or2 h, q8] at s3
      exact s1.trans (s2.trans s3.symm)
    by_cases c1 : i < a
    · exact key i i (by omega) (by omega) (by rw [if_neg (by omega)]; rfl) (by omega) (by omega) (by rw [if_neg (by omega)]; rfl) (by omega) (by rw [if_neg (by omega), if_neg (by omega)]; rfl)
    · by_cases c2 : i + 1 < b
      · exact key (i + 1) (i + 1) (by omega) (by omega) (by rw [if_pos (by omega)]; rfl) (by omega) (by omega) (by rw [if_neg (by omega)]; rfl) (by omega) (by rw [if_pos (by omega), if_neg (by omega)]; rfl)
      · exact key (i + 1) (i + 2) (by omega) (by omega) (by rw [if_pos (by omega)]; rfl) (by omega) (by omega) (by rw [if_pos (by omega)]; rfl) (by omega) (by rw [if_pos (by omega), if_pos (by omega)]; rfl)
  exact Prod.ext e1 e2
def rwOut (R : Rw) (f : Nat) : Rw := rwDrop (rwXs R (rwR (rwV R) f)) R
def rwShed : Nat → Rw → Rw
  | 0, R => R
  | k + 1, R => match rwGoF R with
    | none => R
    | some f => rwShed k (rwOut R f)
/-- what a kink, a pair takes along -/
theorem rwOut_k {R : Rw} (ok : rwOk R) {f : Nat} (hf : f < (rwFc R).length) (hk : rwK R f = 1 ∨ rwK R f = 2) : (rwL (rwV R) f = 1 ∧ rwK R f = 1 ∧ rwXs R (rwR (rwV R) f) = 2 ^ rwCb R ((rwR (rwV R) f).getD 0 0) ∧ rwCb R ((rwR (rwV R) f).getD 0 0) < rwn R) ∨ (rwL (rwV R) f = 2 ∧ rwK R f = 2 ∧ rwXs R (rwR (rwV R) f) = 2 ^ rwCb R ((rwR (rwV R) f).getD 0 0) ||| 2 ^ rwCb R ((rwR (rwV R) f).getD (0 + 1) 0) ∧ rwCb R ((rwR (rwV R) f).getD 0 0) < rwn R ∧ rwCb R ((rwR (rwV R) f).getD (0 + 1) 0) < rwn R ∧ rwCb R ((rwR (rwV R) f).getD 0 0) ≠ rwCb R ((rwR (rwV R) f).getD (0 + 1) 0)) := by
  have hp := rwV_pos ok hf
  have b0 := rwV_lt ok hf hp
  have c0 := rwCb_lt ok b0
  by_cases c1 : rwL (rwV R) f = 1
  · left
    have e1 : rwK R f = 1 := by unfold rwK rwKind; unfold rwL at c1; rw [if_pos c1]
    refine ⟨c1, e1, ?_, c0⟩
    have e2 : rwR (rwV R) f = [(rwR (rwV R) f).getD 0 0] := by
      unfold rwL at c1
      match rwR (rwV R) f, c1 with
      | [a], _ => rfl
    have e3 : rwXs R (rwR (rwV R) f) = 0 ||| 2 ^ rwCb R ((rwR (rwV R) f).getD 0 0) := congrArg (rwXs R) e2
    rw [e3, Nat.zero_or]
  · right
    by_cases c2 : rwL (rwV R) f = 2
    · have b1 := rwV_lt ok hf (i := 0 + 1) (by omega)
      have kk : rwK R f = rwKind R [(rwR (rwV R) f).getD 0 0, (rwR (rwV R) f).getD (0 + 1) 0] := congrArg (rwKind R) (list2 (l := rwR (rwV R) f) c2)
      rw [rwKind2 ok b0 b1] at kk
      by_cases c3 : rwCb R ((rwR (rwV R) f).getD 0 0) = rwCb R ((rwR (rwV R) f).getD (0 + 1) 0)
      · rw [if_pos c3] at kk; omega
      · have e3 : rwXs R (rwR (rwV R) f) = 0 ||| 2 ^ rwCb R ((rwR (rwV R) f).getD 0 0) ||| 2 ^ rwCb R ((rwR (rwV R) f).getD (0 + 1) 0) := congrArg (rwXs R) (list2 (l := rwR (rwV R) f) c2)
        rw [Nat.zero_or] at e3
        refine ⟨c2, ?_, e3, c0, rwCb_lt ok b1, c3⟩
        rw [if_neg c3] at kk
        split at kk
        · exact kk
        · omega
    · exfalso
      unfold rwK rwKind at hk
      unfold rwL at c1 c2
      rw [if_neg c1] at hk
      by_cases c3 : 3 < (rwR (rwV R) f).length ∨ rwBc (rwXs R (rwR (rwV R) f)) ≠ (rwR (rwV R) f).length
      · rw [if_pos c3] at hk; omega
      · rw [if_neg c3, if_neg c2] at hk
        split at hk <;> omega
theorem or2_comm (a b : Nat) : 2 ^ a ||| 2 ^ b = 2 ^ b ||| 2 ^ a := Nat.or_comm _ _
theorem rwOut_n {R : Rw} (ok : rwOk R) {f : Nat} (hf : f < (rwFc R).length) (hk : rwK R f = 1 ∨ rwK R f = 2) : rwn (rwOut R f) < rwn R := by
  unfold rwOut
  rcases rwOut_k ok hf hk with ⟨-, -, e, h⟩ | ⟨-, -, e, h1, h2, h3⟩
  · rw [e, rwDrop_n, rwAhd_pow, if_pos h]; omega
  · rw [e]
    by_cases q : rwCb R ((rwR (rwV R) f).getD 0 0) < rwCb R ((rwR (rwV R) f).getD (0 + 1) 0)
    · rw [rwDrop_n, rwAhd_or2 q, if_pos h1, if_pos h2]; omega
    · rw [or2_comm, rwDrop_n, rwAhd_or2 (by omega), if_pos h1, if_pos h2]; omega
theorem find_range_s {p : Nat → Bool} {n c : Nat} (h : (List.range n).find? p = some c) : c < n ∧ p c = true :=
  ⟨List.mem_range.mp (List.mem_of_find?_eq_some h), List.find?_some h⟩
theorem rwFk_s {R : Rw} {q f : Nat} (h : rwFk R q = some f) : f < (rwFc R).length ∧ rwK R f = q := by
  obtain ⟨h1, h2⟩ := find_range_s h
  exact ⟨h1, beq_iff_eq.mp h2⟩
theorem rwGoF_s {R : Rw} {f : Nat} (h : rwGoF R = some f) : f < (rwFc R).length ∧ (rwK R f = 1 ∨ rwK R f = 2) := by
  unfold rwGoF at h
  split at h
  · rename_i g hg
    cases h
    exact ⟨(rwFk_s hg).1, Or.inl (rwFk_s hg).2⟩
  · exact ⟨(rwFk_s h).1, Or.inr (rwFk_s h).2⟩
theorem rwGoF_0 {R : Rw} (ok : rwOk R) (h : rwn R = 0) : rwGoF R = none := by
  cases hg : rwGoF R with
  | none => rfl
  | some f =>
    have h1 := (rwGoF_s hg).1
    have h2 := rwFc_len R
    have h3 := ok.len
    omega
theorem rwShed_ok : ∀ (k : Nat) (R : Rw), rwOk R → rwOk (rwShed k R) ∧ rwn (rwShed k R) ≤ rwn R := by
  intro k
  induction k with
  | zero => intro R ok; exact ⟨ok, Nat.le_refl _⟩
  | succ k ih =>
    intro R ok
    unfold rwShed
    cases hg : rwGoF R with
    | none => exact ⟨ok, Nat.le_refl _⟩
    | some f =>
      have h1 := rwGoF_s hg
      have h2 := rwOut_n ok h1.1 h1.2
      have h3 := ih (rwOut R f) (rwDrop_ok ok)
      exact ⟨h3.1, Nat.le_trans h3.2 (by omega)⟩
/-- more steps change nothing -/
theorem rwShed_more : ∀ (k : Nat) (R : Rw), rwOk R → rwn R ≤ k → ∀ m, k ≤ m → rwShed m R = rwShed k R := by
  intro k
  induction k with
  | zero =>
    intro R ok h m _
    cases m with
    | zero => rfl
    | succ m => unfold rwShed; rw [rwGoF_0 ok (by omega)]
  | succ k ih =>
    intro R ok h m hm
    obtain ⟨m, rfl⟩ : ∃ m', m = m' + 1 := ⟨m - 1, by omega⟩
    unfold rwShed
    cases hg : rwGoF R with
    | none => rfl
    | some f =>
      have h1 := rwGoF_s hg
      have h2 := rwOut_n ok h1.1 h1.2
      exact ih (rwOut R f) (rwDrop_ok ok) (by omega) m (by omega)
theorem rwShed_step {R : Rw} (ok : rwOk R) {f : Nat} (hg : rwGoF R = some f) : rwShed 8 R = rwShed 8 (rwOut R f) := by
  have h1 := rwGoF_s hg
  have h2 := rwOut_n ok h1.1 h1.2
  have h3 := ok.2.1
  rw [← rwShed_more 8 R ok h3 9 (by omega)]
  show (match rwGoF R with | none => R | some f => rwShed 8 (rwOut R f)) = _
  rw [hg]
section SHA
variable {xs : Nat → Int32} {Lx d : Nat} {V : km_V} {t r a : Nat} {R : Rw}
theorem sp_shed {K : Int → km_V → Prop} (hr : km_sh[r]? = some (5, 5)) (ht : km_sh[t]? = some (2, 11)) (ap : r + 3 < t ∨ t + 10 < r) (hR : kRC V r R) (ok : rwOk R) (k : ∀ W, kRC W r (rwShed 8 R) → (∀ a j, ¬ (r ≤ a ∧ a ≤ r + 3 ∨ t ≤ a ∧ a ≤ t + 10) → W a j = V a j) → K ((rwn R : Int) - (rwn (rwShed 8 R) : Int)) W) : kCI xs Lx (d + 3) 73 5 [.ref r, .ref t] V K := by
  have o2 := ok.2.1
  refine b73_0 hr ht ?_
  rw [hR.2.1]
  suffices H : ∀ n c : Nat, c + n = 8 → ∀ (R' : Rw) (W : km_V), rwOk R' → rwn R' ≤ n → rwShed n R' = rwShed 8 R → kRC W r R' → (∀ a j, ¬ (r ≤ a ∧ a ≤ r + 3 ∨ t ≤ a ∧ a ≤ t + 10) → W a j = V a j) → kGo xs Lx (d + 3) 73 7 [some (.ref r), some (.ref t), some (kI (rwn R : Int)), some (kI (c : Int)), none] [] W (fun r V' => ∃ x, r = some (kI x) ∧ K x V') from
    H 8 0 rfl R V ok o2 rfl hR (fun _ _ _ => rfl)
  intro n
  induction n with
  | zero =>
    intro c hc R' W ok' hn he hR' hf
    have e1 : R' = rwShed 8 R := he
    subst e1
    have e2 := hR'.2.1
    exact b73_7 hr ht ⟨by omega, fun _ => ⟨_, rfl, by rw [e2]; exact k W hR' hf⟩, fun h => by omega⟩
  | succ n ih =>
    intro c hc R' W ok' hn he hR' hf
    have e2 := hR'.2.1
    have o2' := ok'.2.1
    refine b73_7 hr ht ⟨by omega, fun h => by omega, fun _ => ⟨by omega, fun h => ⟨_, rfl, ?_⟩, fun h => ?_⟩⟩
    · have e3 : rwShed (n + 1) R' = R' := by unfold rwShed; rw [rwGoF_0 ok' (by omega)]
      rw [e3] at he
      subst he
      rw [e2]
      exact k W hR' hf
    · refine sp_trace ht hr ap hR' ok' (fun W1 hD f1 => ?_)
      have hR1 : kRC W1 r R' := hR'.fr (fun a j ha => f1 a j (by omega))
      have e4 := hR1.2.1
      refine sp_firstToGo ht ok' hD ?_
      cases hg : rwGoF R' with
      | none =>
        have e3 : rwShed (n + 1) R' = R' := by unfold rwShed; rw [hg]
        rw [e3] at he
        subst he
        refine ⟨by show kR (-1); omega, fun h => absurd rfl h, fun _ => ⟨_, rfl, ?_⟩⟩
        rw [e4]
        exact k W1 hR1 (fun a j ha => by rw [f1 a j (by omega)]; exact hf a j ha)
      | some f =>
        have h1 := rwGoF_s hg
        have h2 := rwOut_n ok' h1.1 h1.2
        have h3 := rwFc_len R'
        have h4 := ok'.len
        have e3 : rwShed (n + 1) R' = rwShed n (rwOut R' f) := by
          show (match rwGoF R' with | none => R' | some f => rwShed n (rwOut R' f)) = _
          rw [hg]
        rw [e3] at he
        refine ⟨by show kR (f : Int); omega, fun _ => ?_, fun h => by have h : (f : Int) = -1 := h; omega⟩
        refine sp_crossingsAt ht ok' hD.1 hD.2.1 h1.1 ?_
        have bx : rwXs R' (rwR (rwV R') f) < 256 := by
          have := rwXs_lt ok' h1.1 (rwR (rwV R') f).length
          rwa [List.take_length] at this
        refine sp_drop hr hR1 ok' bx (fun W2 hR2 f2 => ?_)
        exact ih (c + 1) (by omega) (rwOut R' f) W2 (rwDrop_ok ok') (by omega) he hR2 (fun a j ha => by rw [f2 a j (by omega), f1 a j (by omega)]; exact hf a j ha)
end SHA
section SHB
variable {xs : Nat → Int32} {Lx d : Nat} {V : km_V} {a : Nat} {R : Rw}
theorem sp_goesOut {f : Nat} {K : km_V → Prop} (ha : km_sh[a]? = some (11, 78)) (ha2 : ¬ (313 ≤ a ∧ a ≤ 321)) (hR : kRf (V a) R) (ok : rwOk R) (hM : kMF V R) (hf : f < (rwFc R).length) (hk : rwK R f = 1 ∨ rwK R f = 2) (k : ∀ W, kRf (W a) (rwOut R f) → (∀ b j, b ≠ a → W b j = V b j) → K W) : kCV xs Lx (d + 2) 170 5 [.ref 299, .ref a, kI f] V K := by
  have o2 := ok.2.1
  have o3 := ok.len
  have l1 := rwFc_len R
  obtain ⟨hE, h1, h2⟩ := id hM
  obtain ⟨q1, q2⟩ := h2 f hf
  have hp := rwV_pos ok hf
  have b0 := rwV_lt ok hf hp
  obtain ⟨s1, s2⟩ := kcb_eq ok hE b0
  have c0 := rwCb_lt ok b0
  refine b170_0 ha ⟨by omega, ?_⟩
  simp only [tn, q1, q2, s1]
  refine ⟨s2, fun z hz => ?_⟩
  subst hz
  rcases rwOut_k ok hf hk with ⟨e1, e2, e3, e4⟩ | ⟨e1, e2, e3, e4, e5, e6⟩
  · refine ⟨by omega, fun _ => ⟨by omega, fun _ => ?_, fun h => by omega⟩, fun h => by omega⟩
    refine sp_dropsOut ha hR ok e4 (fun W j1 g1 => ⟨fun _ => ⟨True.intro, k W ?_ g1⟩, fun h => absurd rfl h⟩)
    unfold rwOut
    rw [e3]
    exact j1
  · have b1 := rwV_lt ok hf (i := 0 + 1) (by omega)
    obtain ⟨t1, t2⟩ := kturn_eq hR ok hE b0
    rw [← rwV_at hf (by omega)] at t1
    obtain ⟨s3, s4⟩ := kcb_eq ok hE b1
    refine ⟨by omega, fun h => by omega, fun _ => ⟨t2, ?_⟩⟩
    rw [t1, s3]
    refine ⟨s4, fun z hz => ?_⟩
    subst hz
    refine ⟨by omega, by omega, fun h => ?_, fun h => ?_⟩
    · have q : rwCb R ((rwR (rwV R) f).getD 0 0) < rwCb R ((rwR (rwV R) f).getD (0 + 1) 0) := by omega
      refine sp_dropsOut ha hR ok e5 (fun W1 j1 g1 => ⟨fun h => by omega, fun _ => ?_⟩)
      have ok1 := rwDrop_ok (b := 2 ^ rwCb R ((rwR (rwV R) f).getD (0 + 1) 0)) ok
      refine sp_dropsOut ha j1 ok1 (by rw [rwDrop_n, rwAhd_pow, if_pos e5]; omega) (fun W2 j2 g2 => ⟨True.intro, k W2 ?_ (fun b j hb => by rw [g2 b j hb, g1 b j hb])⟩)
      unfold rwOut
      rw [e3, ← rwDrop_or2 q e5]
      exact j2
    · have q : rwCb R ((rwR (rwV R) f).getD (0 + 1) 0) < rwCb R ((rwR (rwV R) f).getD 0 0) := by omega
      refine sp_dropsOut ha hR ok e4 (fun W1 j1 g1 => ⟨fun h => by omega, fun _ => ?_⟩)
      have ok1 := rwDrop_ok (b := 2 ^ rwCb R ((rwR (rwV R) f).getD 0 0)) ok
      refine sp_dropsOut ha j1 ok1 (by rw [rwDrop_n, rwAhd_pow, if_pos e4]; omega) (fun W2 j2 g2 => ⟨True.intro, k W2 ?_ (fun b j hb => by rw [g2 b j hb, g1 b j hb])⟩)
      unfold rwOut
      rw [e3, or2_comm, ← rwDrop_or2 q e4]
      exact j2
theorem sp_loosens {K : Int → km_V → Prop} (ha : km_sh[a]? = some (11, 78)) (ha2 : ¬ (313 ≤ a ∧ a ≤ 321)) (hR : kRf (V a) R) (ok : rwOk R) (k : ∀ W, kRf (W a) (rwShed 8 R) → (∀ b j, ¬ (b = a ∨ b = 299 ∧ (j = 25 ∨ j = 32) ∨ 313 ≤ b ∧ b ≤ 321) → W b j = V b j) → K ((rwn R : Int) - (rwn (rwShed 8 R) : Int)) W) : kCI xs Lx (d + 4) 171 5 [.ref 299, .ref a] V K := by
  have o2 := ok.2.1
  have a9 : a ≠ 299 := fun z => by subst z; exact absurd ha (by decide)
  refine b171_0 ha (fun z hz => ?_)
  simp only [tnn1] at hz
  rw [hR.2.1] at hz
  subst hz
  suffices H : ∀ (n : Nat) (R' : Rw) (W : km_V), rwOk R' → rwn R' ≤ n → rwShed 8 R' = rwShed 8 R → kRf (W a) R' → (∀ b j, ¬ (b = a ∨ b = 299 ∧ (j = 25 ∨ j = 32) ∨ 313 ≤ b ∧ b ≤ 321) → W b j = V b j) → kGo xs Lx (d + 4) 171 6 [some (.ref 299), some (.ref a), some (kI (rwn R : Int)), some (kI 1), none] [] W (fun r V' => ∃ x, r = some (kI x) ∧ K x V') from
    H 8 R V ok o2 rfl hR (fun _ _ _ => rfl)
  have fin : ∀ (R' : Rw) (W : km_V), rwOk R' → rwGoF R' = none → rwShed 8 R' = rwShed 8 R → kRf (W a) R' → (∀ b j, ¬ (b = a ∨ b = 299 ∧ (j = 25 ∨ j = 32) ∨ 313 ≤ b ∧ b ≤ 321) → W b j = V b j) → kGo xs Lx (d + 4) 171 6 [some (.ref 299), some (.ref a), some (kI (rwn R : Int)), some (kI 0), none] [] W (fun r V' => ∃ x, r = some (kI x) ∧ K x V') := by
    intro R' W ok' hg he hR' hf
    have e3 : rwShed 8 R' = R' := by unfold rwShed; rw [hg]
    rw [e3] at he
    subst he
    refine b171_6 ha ⟨by omega, fun _ => ⟨_, rfl, ?_⟩, fun h => absurd rfl h⟩
    simp only [tnn1]
    rw [hR'.2.1]
    exact k W hR' hf
  intro n
  induction n with
  | zero =>
    intro R' W ok' hn he hR' hf
    have hg := rwGoF_0 ok' (show rwn R' = 0 by omega)
    have g1 : rwFk R' 1 = none := by
      unfold rwGoF at hg
      split at hg
      · cases hg
      · assumption
    have g2 : rwFk R' 2 = none := by
      unfold rwGoF at hg
      rw [g1] at hg
      exact hg
    refine b171_6 ha ⟨by omega, fun h => absurd h (by decide), fun _ => ?_⟩
    refine sp_firstOf ha ha2 hR' ok' (by decide : 1 < 4) (fun W1 m1 f1 => ?_)
    rw [g1]
    have hR1 : kRf (W1 a) R' := hR'.fr ok' (fun j _ => f1 a j (by omega))
    refine ⟨by show kR (-1); omega, fun h => absurd h (by decide), fun _ => ?_⟩
    refine sp_firstOf ha ha2 hR1 ok' (by decide : 2 < 4) (fun W2 m2 f2 => ?_)
    rw [g2]
    have hR2 : kRf (W2 a) R' := hR1.fr ok' (fun j _ => f2 a j (by omega))
    exact ⟨by show kR (-1); omega, fun _ => fin R' W2 ok' hg he hR2 (fun b j hb => by rw [f2 b j (by omega), f1 b j (by omega)]; exact hf b j hb), fun h => absurd h (by decide)⟩
  | succ n ih =>
    intro R' W ok' hn he hR' hf
    have h3 := rwFc_len R'
    have h4 := ok'.len
    have o2' := ok'.2.1
    refine b171_6 ha ⟨by omega, fun h => absurd h (by decide), fun _ => ?_⟩
    refine sp_firstOf ha ha2 hR' ok' (by decide : 1 < 4) (fun W1 m1 f1 => ?_)
    have hR1 : kRf (W1 a) R' := hR'.fr ok' (fun j _ => f1 a j (by omega))
    cases g1 : rwFk R' 1 with
    | some f =>
      have q := rwFk_s g1
      have hg : rwGoF R' = some f := by unfold rwGoF; rw [g1]
      have h2 := rwOut_n ok' q.1 (Or.inl q.2)
      refine ⟨by show kR (f : Int); omega, fun _ => ?_, fun h => by have h : (f : Int) < 0 := h; omega⟩
      refine sp_goesOut ha ha2 hR1 ok' m1 q.1 (Or.inl q.2) (fun W2 j2 f2 => ?_)
      exact ih (rwOut R' f) W2 (rwDrop_ok ok') (by omega) (by rw [← rwShed_step ok' hg]; exact he) j2 (fun b j hb => by rw [f2 b j (by omega), f1 b j (by omega)]; exact hf b j hb)
    | none =>
      refine ⟨by show kR (-1); omega, fun h => absurd h (by decide), fun _ => ?_⟩
      refine sp_firstOf ha ha2 hR1 ok' (by decide : 2 < 4) (fun W2 m2 f2 => ?_)
      have hR2 : kRf (W2 a) R' := hR1.fr ok' (fun j _ => f2 a j (by omega))
      have fr2 : ∀ b j, ¬ (b = a ∨ b = 299 ∧ (j = 25 ∨ j = 32) ∨ 313 ≤ b ∧ b ≤ 321) → W2 b j = V b j := fun b j hb => by rw [f2 b j (by omega), f1 b j (by omega)]; exact hf b j hb
      cases g2 : rwFk R' 2 with
      | none =>
        have hg : rwGoF R' = none := by unfold rwGoF; rw [g1]; exact g2
        exact ⟨by show kR (-1); omega, fun _ => fin R' W2 ok' hg he hR2 fr2, fun h => absurd h (by decide)⟩
      | some f =>
        have q := rwFk_s g2
        have hg : rwGoF R' = some f := by unfold rwGoF; rw [g1]; exact g2
        have h2 := rwOut_n ok' q.1 (Or.inr q.2)
        refine ⟨by show kR (f : Int); omega, fun h => by have h : (f : Int) < 0 := h; omega, fun _ => ?_⟩
        refine sp_goesOut ha ha2 hR2 ok' m2 q.1 (Or.inr q.2) (fun W3 j3 f3 => ?_)
        exact ih (rwOut R' f) W3 (rwDrop_ok ok') (by omega) (by rw [← rwShed_step ok' hg]; exact he) j3 (fun b j hb => by rw [f3 b j (by omega)]; exact fr2 b j hb)
end SHB

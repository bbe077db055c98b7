/-! parts -/
def rwPp (R : Rw) (m : Nat) : List (Nat × Nat) := (List.range m).map (fun k => ((rwP R).getD k 0 / 2, (rwP R).getD (rwNx R k) 0 / 2))
def rwPu (R : Rw) : (Nat → Nat) × Nat := ufRun (rwn R) (rwPp R (rwP R).length)
def rwParts (R : Rw) : Nat := (rwPu R).2
theorem rwPp_lt {R : Rw} (ok : rwOk R) {m : Nat} (hm : m ≤ (rwP R).length) : ∀ p, p ∈ rwPp R m → p.1 < rwn R ∧ p.2 < rwn R := by
  intro p hp
  have l := ok.len
  obtain ⟨k, hk, rfl⟩ := List.mem_map.mp hp
  have hk := List.mem_range.mp hk
  have h1 := ok.lt k (by omega)
  have h2 := ok.lt (rwNx R k) (by have := rwNx_lt (R := R) (p := k) (by omega); omega)
  exact ⟨by dsimp only; omega, by dsimp only; omega⟩
theorem rwPu_ok {R : Rw} (ok : rwOk R) : ufOk (rwn R) (rwPu R) := ufRun_ok _ _ (uf0_ok _) (rwPp_lt ok (Nat.le_refl _))
theorem rwPu_nx {R : Rw} {k : Nat} (hk : k < (rwP R).length) : (rwPu R).1 ((rwP R).getD k 0 / 2) = (rwPu R).1 ((rwP R).getD (rwNx R k) 0 / 2) :=
  ufRun_pair (rwPp R (rwP R).length) (fun k => k, rwn R) ((rwP R).getD k 0 / 2, (rwP R).getD (rwNx R k) 0 / 2) (List.mem_map.mpr ⟨k, List.mem_range.mpr hk, rfl⟩)
/-- the label of a ring -/
def rwLb (R : Rw) (i : Nat) : Nat := (rwPu R).1 ((rwP R).getD (rwF R i) 0 / 2)
theorem rwLb_at {R : Rw} {i : Nat} (hi : i < R.1.length) : ∀ j, j < rwL R i → (rwPu R).1 ((rwP R).getD (rwF R i + j) 0 / 2) = rwLb R i := by
  intro j
  induction j with
  | zero => intro _; rfl
  | succ j ih =>
    intro hj
    have e4 := rwF_end hi
    rw [← ih (by omega), rwPu_nx (k := rwF R i + j) (by omega), rwNx_F hi (by omega), if_pos hj]
theorem rwLb_G {R : Rw} {p : Nat} (hp : p < (rwP R).length) : (rwPu R).1 ((rwP R).getD p 0 / 2) = rwLb R (rwG R p) := by
  obtain ⟨i, j, hi, hj, rfl⟩ := rw_split hp
  rw [rwG_F hi hj]
  exact rwLb_at hi j hj
def rwBo (R : Rw) (c : Nat) : Nat := 2 ^ rwG R (rwPos R (2 * c + 1)) ||| 2 ^ rwG R (rwPos R (2 * c))
def ptS (p B : Nat) : Nat := if p &&& B = 0 then p else p ||| B
def ptT (R : Rw) (p : Nat) : Nat := ((List.range (rwn R)).map (rwBo R)).foldl ptS p
def rwPw (R : Rw) (i : Nat) : Nat := ptT R (ptT R (ptT R (2 ^ i)))
theorem bit_or (a b i : Nat) : (a ||| b) / 2 ^ i % 2 = 1 ↔ (a / 2 ^ i % 2 = 1 ∨ b / 2 ^ i % 2 = 1) := by
  have h := Nat.testBit_or a b i
  rw [Nat.testBit_eq_decide_div_mod_eq, Nat.testBit_eq_decide_div_mod_eq, Nat.testBit_eq_decide_div_mod_eq] at h
  constructor
  · intro z
    rw [decide_eq_true z] at h
    have := h.symm
    rw [Bool.or_eq_true, decide_eq_true_iff, decide_eq_true_iff] at this
    exact this
  · intro z
    have h2 : (decide (a / 2 ^ i % 2 = 1) || decide (b / 2 ^ i % 2 = 1)) = true := by
      rw [Bool.or_eq_true, decide_eq_true_iff, decide_eq_true_iff]; exact z
    rw [h2] at h
    exact of_decide_eq_true h
/-- no common bit -/
theorem and_zero : ∀ p, p < 16 → ∀ a, a < 4 → ∀ b, b < 4 → (p &&& (2 ^ a ||| 2 ^ b) = 0 ↔ ¬ (p / 2 ^ a % 2 = 1 ∨ p / 2 ^ b % 2 = 1)) := by decide +kernel
theorem ptS_lt {p B : Nat} (hp : p < 16) (hB : B < 16) : ptS p B < 16 := by
  unfold ptS
  split
  · exact hp
  · exact Nat.or_lt_two_pow (n := 4) hp hB
theorem ptS_or {p B : Nat} : p ||| ptS p B = ptS p B := by
  unfold ptS
  split
  · exact Nat.or_self p
  · rw [← Nat.or_assoc, Nat.or_self]
theorem ptF_or : ∀ (l : List Nat) (p : Nat), p ||| l.foldl ptS p = l.foldl ptS p := by
  intro l
  induction l with
  | nil => intro p; exact Nat.or_self p
  | cons B t ih =>
    intro p
    rw [List.foldl_cons]
    have h1 := ih (ptS p B)
    have h2 := @ptS_or p B
    rw [← h1, ← h2, Nat.or_assoc, ← Nat.or_assoc p p, Nat.or_self]
theorem ptF_lt : ∀ (l : List Nat) (p : Nat), p < 16 → (∀ B, B ∈ l → B < 16) → l.foldl ptS p < 16 := by
  intro l
  induction l with
  | nil => intro p h _; exact h
  | cons B t ih =>
    intro p h hB
    rw [List.foldl_cons]
    exact ih _ (ptS_lt h (hB B List.mem_cons_self)) (fun B' h' => hB B' (List.mem_cons_of_mem _ h'))
theorem or_eq_anti {p q : Nat} (h1 : p ||| q = q) (h2 : q ||| p = p) : p = q := by
  rw [← h2, Nat.or_comm, h1]
/-- a turn that changes nothing: closed -/
theorem ptF_closed : ∀ (l : List Nat) (p : Nat), l.foldl ptS p = p → ∀ B, B ∈ l → ptS p B = p := by
  intro l
  induction l with
  | nil => intro p _ B hB; cases hB
  | cons B t ih =>
    intro p h B' hB'
    rw [List.foldl_cons] at h
    have h1 := ptF_or t (ptS p B)
    rw [h] at h1
    have h2 := @ptS_or p B
    have e : ptS p B = p := (or_eq_anti h2 h1).symm
    rcases List.mem_cons.mp hB' with q | q
    · subst q; exact e
    · rw [e] at h
      exact ih p h B' q
theorem pc_grow : ∀ p, p < 16 → ∀ q, q < 16 → p ||| q = q → p ≠ q → rwBc p < rwBc q := by decide +kernel
theorem pc_le : ∀ p, p < 16 → rwBc p ≤ 4 ∧ (rwBc p = 4 → p = 15) := by decide +kernel
theorem pc_one : ∀ i, i < 4 → rwBc (2 ^ i) = 1 ∧ 2 ^ i < 16 := by decide +kernel
theorem or15 : ∀ B, B < 16 → 15 ||| B = 15 := by decide +kernel
theorem ptS15 {B : Nat} (hB : B < 16) : ptS 15 B = 15 := by
  unfold ptS
  split
  · rfl
  · exact or15 B hB
theorem rwBo_lt {R : Rw} (ok : rwOk R) {c : Nat} (hc : c < rwn R) : rwBo R c < 16 := by
  have o1 := ok.1
  have h1 := rwG_lt (rwPos_s ok (x := 2 * c + 1) (by omega)).1
  have h2 := rwG_lt (rwPos_s ok (x := 2 * c) (by omega)).1
  exact Nat.or_lt_two_pow (n := 4) (Nat.pow_lt_pow_right (by omega) (by omega)) (Nat.pow_lt_pow_right (by omega) (by omega))
theorem rwPw_closed {R : Rw} (ok : rwOk R) {i : Nat} (hi : i < 4) : rwPw R i < 16 ∧ ∀ c, c < rwn R → ptS (rwPw R i) (rwBo R c) = rwPw R i := by
  have hB : ∀ B, B ∈ (List.range (rwn R)).map (rwBo R) → B < 16 := fun B h => by
    obtain ⟨c, hc, rfl⟩ := List.mem_map.mp h
    exact rwBo_lt ok (List.mem_range.mp hc)
  have mB : ∀ c, c < rwn R → rwBo R c ∈ (List.range (rwn R)).map (rwBo R) := fun c hc => List.mem_map.mpr ⟨c, List.mem_range.mpr hc, rfl⟩
  have lt : ∀ p, p < 16 → ptT R p < 16 := fun p hp => ptF_lt _ p hp hB
  have gr : ∀ p, p < 16 → ptT R p ≠ p → rwBc p < rwBc (ptT R p) := fun p hp h => pc_grow p hp _ (lt p hp) (ptF_or _ p) (fun z => h z.symm)
  have p0 := pc_one i hi
  have l1 := lt _ p0.2
  have l2 := lt _ l1
  have l3 := lt _ l2
  refine ⟨l3, fun c hc => ?_⟩
  have cl : ∀ p, ptT R p = p → ptS p (rwBo R c) = p := fun p h => ptF_closed _ p h _ (mB c hc)
  unfold rwPw
  by_cases e1 : ptT R (2 ^ i) = 2 ^ i
  · rw [e1, e1, e1]; exact cl _ e1
  · by_cases e2 : ptT R (ptT R (2 ^ i)) = ptT R (2 ^ i)
    · rw [e2, e2]; exact cl _ e2
    · by_cases e3 : ptT R (ptT R (ptT R (2 ^ i))) = ptT R (ptT R (2 ^ i))
      · rw [e3]; exact cl _ e3
      · have g1 := gr _ p0.2 e1
        have g2 := gr _ l1 e2
        have g3 := gr _ l2 e3
        have g4 := pc_le _ l3
        rw [g4.2 (by omega)]
        exact ptS15 (rwBo_lt ok hc)
/-- the rings of a part are those with its label -/
theorem rwPw_bit {R : Rw} (ok : rwOk R) {i : Nat} (hi : i < R.1.length) (hne : 0 < rwL R i) : ∀ j, j < 4 → (rwPw R i / 2 ^ j % 2 = 1 ↔ (j < R.1.length ∧ 0 < rwL R j ∧ rwLb R j = rwLb R i)) := by
  have o1 := ok.1
  have o3 := ok.len
  obtain ⟨c1, c2⟩ := rwPw_closed ok (show i < 4 by omega)
  have over : ∀ c, c < rwn R → rwPos R (2 * c + 1) < (rwP R).length ∧ (rwP R).getD (rwPos R (2 * c + 1)) 0 = 2 * c + 1 := fun c hc => rwPos_s ok (by omega)
  have under : ∀ c, c < rwn R → rwPos R (2 * c) < (rwP R).length ∧ (rwP R).getD (rwPos R (2 * c)) 0 = 2 * c := fun c hc => rwPos_s ok (by omega)
  -- what lies in it has the label
  have sound : ∀ p, (∀ j, j < 4 → p / 2 ^ j % 2 = 1 → (j < R.1.length ∧ 0 < rwL R j ∧ rwLb R j = rwLb R i)) → p < 16 → ∀ j, j < 4 → ptT R p / 2 ^ j % 2 = 1 → (j < R.1.length ∧ 0 < rwL R j ∧ rwLb R j = rwLb R i) := by
    have gen : ∀ (l : List Nat), (∀ c, c ∈ l → c < rwn R) → ∀ p, p < 16 → (∀ j, j < 4 → p / 2 ^ j % 2 = 1 → (j < R.1.length ∧ 0 < rwL R j ∧ rwLb R j = rwLb R i)) → ∀ j, j < 4 → (l.map (rwBo R)).foldl ptS p / 2 ^ j % 2 = 1 → (j < R.1.length ∧ 0 < rwL R j ∧ rwLb R j = rwLb R i) := by
      intro l
      induction l with
      | nil => intro _ p _ h; exact h
      | cons c t ih =>
        intro hl p hp h
        have hc := hl c List.mem_cons_self
        rw [List.map_cons, List.foldl_cons]
        refine ih (fun c' h' => hl c' (List.mem_cons_of_mem _ h')) _ (ptS_lt hp (rwBo_lt ok hc)) (fun j hj hb => ?_)
        obtain ⟨a1, a2⟩ := over c hc
        obtain ⟨b1, b2⟩ := under c hc
        have ga := rwG_lt a1
        have gb := rwG_lt b1
        have la := rwLb_G a1
        have lb := rwLb_G b1
        rw [a2, show (2 * c + 1) / 2 = c by omega] at la
        rw [b2, show 2 * c / 2 = c by omega] at lb
        have ne : ∀ q, q < (rwP R).length → 0 < rwL R (rwG R q) := by
          intro q hq
          obtain ⟨i', j', hi', hj', rfl⟩ := rw_split hq
          rw [rwG_F hi' hj']; omega
        unfold ptS at hb
        by_cases e : p &&& rwBo R c = 0
        · rw [if_pos e] at hb; exact h j hj hb
        · rw [if_neg e] at hb
          have az := (not_congr (and_zero p hp _ (show rwG R (rwPos R (2 * c + 1)) < 4 by omega) _ (show rwG R (rwPos R (2 * c)) < 4 by omega))).mp e
          have lc : (rwPu R).1 c = rwLb R i := by
            apply Classical.byContradiction
            intro hcon
            refine az (fun z => ?_)
            rcases z with z | z
            · exact hcon (la.trans (h _ (by omega) z).2.2)
            · exact hcon (lb.trans (h _ (by omega) z).2.2)
          rcases (bit_or p (rwBo R c) j).mp hb with z | z
          · exact h j hj z
          · have z2 := (bor_bit (2 ^ rwG R (rwPos R (2 * c + 1))) (rwG R (rwPos R (2 * c))) j).mp z
            rw [bit_pow] at z2
            by_cases e2 : j = rwG R (rwPos R (2 * c + 1))
            · subst e2; exact ⟨ga, ne _ a1, la.symm.trans lc⟩
            · rcases z2 with z2 | z2
              · rw [if_neg e2] at z2; omega
              · subst z2; exact ⟨gb, ne _ b1, lb.symm.trans lc⟩
    intro p h hp
    exact gen (List.range (rwn R)) (fun c hc => List.mem_range.mp hc) p hp h
  intro j hj
  constructor
  · have hB : ∀ p, p < 16 → ptT R p < 16 := fun p hp => ptF_lt _ p hp (fun B h => by
      obtain ⟨c, hc, rfl⟩ := List.mem_map.mp h
      exact rwBo_lt ok (List.mem_range.mp hc))
    have p0 := pc_one i (by omega)
    have s0 : ∀ j, j < 4 → 2 ^ i / 2 ^ j % 2 = 1 → (j < R.1.length ∧ 0 < rwL R j ∧ rwLb R j = rwLb R i) := by
      intro j hj h
      rw [bit_pow] at h
      by_cases e : j = i
      · subst e; exact ⟨hi, hne, rfl⟩
      · rw [if_neg e] at h; omega
    exact sound _ (sound _ (sound _ s0 p0.2) (hB _ p0.2)) (hB _ (hB _ p0.2)) j hj
  · rintro ⟨h1, h2, h3⟩
    -- the ring of a pass of a crossing lies in it or not
    have both : ∀ c, c < rwn R → (rwPw R i / 2 ^ rwG R (rwPos R (2 * c + 1)) % 2 = 1 ↔ rwPw R i / 2 ^ rwG R (rwPos R (2 * c)) % 2 = 1) := by
      intro c hc
      have ga := rwG_lt (over c hc).1
      have gb := rwG_lt (under c hc).1
      have hcl := c2 c hc
      have az := and_zero _ c1 (rwG R (rwPos R (2 * c + 1))) (by omega) (rwG R (rwPos R (2 * c))) (by omega)
      unfold ptS at hcl
      by_cases e : rwPw R i &&& rwBo R c = 0
      · have := az.mp e
        constructor
        · intro z; exact absurd (Or.inl z) this
        · intro z; exact absurd (Or.inr z) this
      · rw [if_neg e] at hcl
        have ba : rwPw R i / 2 ^ rwG R (rwPos R (2 * c + 1)) % 2 = 1 := by
          rw [← hcl]
          refine (bit_or _ _ _).mpr (Or.inr ?_)
          refine (bor_bit _ _ _).mpr (Or.inl ?_)
          rw [bit_pow, if_pos rfl]
        have bb : rwPw R i / 2 ^ rwG R (rwPos R (2 * c)) % 2 = 1 := by
          rw [← hcl]
          refine (bit_or _ _ _).mpr (Or.inr ?_)
          exact (bor_bit _ _ _).mpr (Or.inr rfl)
        exact ⟨fun _ => bb, fun _ => ba⟩
    have gp : ∀ p, p < (rwP R).length → (rwPw R i / 2 ^ rwG R p % 2 = 1 ↔ rwPw R i / 2 ^ rwG R (rwPos R (2 * ((rwP R).getD p 0 / 2))) % 2 = 1) := by
      intro p hp
      have lp := ok.lt p (by omega)
      by_cases e : (rwP R).getD p 0 % 2 = 0
      · rw [rwPos_eq ok hp (by omega)]
      · rw [← both _ (by omega), rwPos_eq ok hp (by omega)]
    have fm := ufRun_min (N := rwn R) (f := fun c => rwPw R i / 2 ^ rwG R (rwPos R (2 * c)) % 2) (rwPp R (rwP R).length) (fun k => k, rwn R) (fun j k _ _ h => congrArg (fun c => rwPw R i / 2 ^ rwG R (rwPos R (2 * c)) % 2) h) (fun p hp => by
      have := rwPp_lt ok (Nat.le_refl _) p hp
      refine ⟨this.1, this.2, ?_⟩
      obtain ⟨k, hk, rfl⟩ := List.mem_map.mp hp
      have hk := List.mem_range.mp hk
      dsimp only
      have q1 := gp k hk
      have q2 := gp _ (rwNx_lt hk)
      rw [rwNx_G hk] at q2
      have b1 := bit_lt (rwPw R i) (rwG R (rwPos R (2 * ((rwP R).getD k 0 / 2))))
      have b2 := bit_lt (rwPw R i) (rwG R (rwPos R (2 * ((rwP R).getD (rwNx R k) 0 / 2))))
      omega)
    have e4 := rwF_end hi
    have e4' := rwF_end h1
    have l1 := ok.lt (rwF R i) (by omega)
    have l2 := ok.lt (rwF R j) (by omega)
    have fin := fm ((rwP R).getD (rwF R j) 0 / 2) ((rwP R).getD (rwF R i) 0 / 2) (by omega) (by omega) h3
    have q1 := gp (rwF R i) (by omega)
    have q2 := gp (rwF R j) (by omega)
    have gi := rwG_F hi hne
    have gj := rwG_F h1 h2
    rw [Nat.add_zero] at gi gj
    rw [gi] at q1
    rw [gj] at q2
    have own : rwPw R i / 2 ^ i % 2 = 1 := by
      have m : ∀ p, p / 2 ^ i % 2 = 1 → ptT R p / 2 ^ i % 2 = 1 := by
        intro p h
        have := ptF_or ((List.range (rwn R)).map (rwBo R)) p
        show ((List.range (rwn R)).map (rwBo R)).foldl ptS p / 2 ^ i % 2 = 1
        rw [← this]
        exact (bit_or _ _ _).mpr (Or.inl h)
      exact m _ (m _ (m _ (by rw [bit_pow, if_pos rfl])))
    rw [q2, fin, ← q1]
    exact own
section PTA
variable {xs : Nat → Int32} {Lx d : Nat} {V : km_V} {t r a : Nat} {R : Rw}
theorem sp_partWith {i : Nat} {K : Int → km_V → Prop} (ht : km_sh[t]? = some (2, 11)) (hr : km_sh[r]? = some (5, 5)) (hR : kRC V r R) (ok : rwOk R) (hE : kDE V t R) (hi : i < R.1.length) (k : K (rwPw R i : Int) V) : kCI xs Lx (d + 0) 33 7 [.ref t, .ref r, kI i] V K := by
  have o1 := ok.1
  have o2 := ok.2.1
  have o3 := ok.len
  have e1 := hR.2.1
  refine b33_0 ht hr ⟨by omega, fun z hz => ?_⟩
  rw [tn, Int.one_mul] at hz
  subst hz
  have p0 := pc_one i (by omega)
  have hB : ∀ B, B ∈ (List.range (rwn R)).map (rwBo R) → B < 16 := fun B h => by
    obtain ⟨c, hc, rfl⟩ := List.mem_map.mp h
    exact rwBo_lt ok (List.mem_range.mp hc)
  -- a turn
  have turn : ∀ (T p : Nat), p < 16 → T < 4 → kGo xs Lx (d + 0) 33 7 [some (.ref t), some (.ref r), none, some (kI (ptT R p : Int)), some (kI ((T + 1 : Nat) : Int)), none, none] [] V (fun r V' => ∃ x, r = some (kI x) ∧ K x V') → kGo xs Lx (d + 0) 33 7 [some (.ref t), some (.ref r), none, some (kI (p : Int)), some (kI (T : Int)), none, none] [] V (fun r V' => ∃ x, r = some (kI x) ∧ K x V') := by
    intro T p hp hT hk
    refine b33_7 ht hr ⟨by omega, fun h => by omega, fun _ => ?_⟩
    refine kloop0 (rwn R) (fun c => kGo xs Lx (d + 0) 33 16 [some (.ref t), some (.ref r), none, some (kI ((((List.range c).map (rwBo R)).foldl ptS p : Nat) : Int)), some (kI (T : Int)), some (kI (c : Int)), none] [] V _) ?_ (fun c hc ih => ?_) 0 (Nat.zero_le _)
    · exact b33_16 ht hr ⟨by omega, by omega, fun _ => hk, fun h => by omega⟩
    · obtain ⟨p1, p2⟩ := rwPos_s ok (x := 2 * c + 1) (by omega)
      obtain ⟨u1, u2⟩ := rwPos_s ok (x := 2 * c) (by omega)
      have v1 : V (t + 4) c = (rwPos R (2 * c + 1) : Int) := by
        have := (hE.2.1 _ p1).1 (by omega)
        rwa [p2, show (2 * c + 1) / 2 = c by omega] at this
      have v2 : V (t + 5) c = (rwPos R (2 * c) : Int) := by
        have := (hE.2.1 _ u1).2 (by omega)
        rwa [u2, show 2 * c / 2 = c by omega] at this
      have w1 := (hE.1 _ p1).2.2
      have w2 := (hE.1 _ u1).2.2
      have g1 := rwG_lt p1
      have g2 := rwG_lt u1
      have es : ((List.range (c + 1)).map (rwBo R)).foldl ptS p = ptS (((List.range c).map (rwBo R)).foldl ptS p) (rwBo R c) := by
        rw [List.range_succ, List.map_append, List.foldl_append]; rfl
      rw [es] at ih
      have bl := rwBo_lt ok hc
      have pl : ((List.range c).map (rwBo R)).foldl ptS p < 16 := ptF_lt _ _ hp (fun B h => by
        obtain ⟨c', hc', rfl⟩ := List.mem_map.mp h
        exact rwBo_lt ok (by have := List.mem_range.mp hc'; omega))
      have al : ((List.range c).map (rwBo R)).foldl ptS p &&& rwBo R c ≤ rwBo R c := Nat.and_le_right
      generalize ((List.range c).map (rwBo R)).foldl ptS p = q at *
      refine b33_16 ht hr ⟨by omega, by omega, fun h => by omega, fun h => ?_⟩
      simp only [tn, v1, v2, w1, w2, one_pow]
      refine ⟨by omega, by omega, by omega, by omega, by omega, one_pow0 _, one_pow0 _, fun z hz => ?_⟩
      have hz : z = (rwBo R c : Int) := hz
      subst hz
      simp only [tn]
      refine ⟨by omega, by omega, by omega, fun h6 z hz => ?_, fun h6 z hz => ?_⟩
      · have e : ptS q (rwBo R c) = q := by unfold ptS; rw [if_pos (by omega)]
        rw [e] at ih
        have hz : z = ((q ||| 0 : Nat) : Int) := hz
        rw [Nat.or_zero] at hz
        subst hz
        exact ih
      · have e : ptS q (rwBo R c) = q ||| rwBo R c := by unfold ptS; rw [if_neg (by omega)]
        rw [e] at ih
        subst hz
        exact ih
  have t1 : ∀ p, p < 16 → ptT R p < 16 := fun p hp => ptF_lt _ p hp hB
  refine turn 1 (2 ^ i) p0.2 (by omega) (turn 2 _ (t1 _ p0.2) (by omega) (turn 3 _ (t1 _ (t1 _ p0.2)) (by omega) ?_))
  exact b33_7 ht hr ⟨by omega, fun _ => ⟨_, rfl, k⟩, fun h => by omega⟩
theorem sp_partsOf {K : Int → km_V → Prop} (ht : km_sh[t]? = some (2, 11)) (hr : km_sh[r]? = some (5, 5)) (hR : kRC V r R) (ok : rwOk R) (hE : kDE V t R) (k : K (rwParts R : Int) V) : kCI xs Lx (d + 1) 32 5 [.ref t, .ref r] V K := by
  have o1 := ok.1
  have o2 := ok.2.1
  have o3 := ok.len
  have e1 := hR.1
  refine b32_0 ht hr ?_
  suffices H : ∀ c, c ≤ R.1.length → ∀ (st : List Nat) (m : Nat), st.length ≤ c → m < 16 → (∀ x, x ∈ st → x < rwn R) → (st.map (rwPu R).1).Nodup → (∀ j, j < 4 → (m / 2 ^ j % 2 = 1 ↔ (j < R.1.length ∧ 0 < rwL R j ∧ ∃ x, x ∈ st ∧ rwLb R j = (rwPu R).1 x))) → (∀ j, j < c → 0 < rwL R j → ∃ x, x ∈ st ∧ rwLb R j = (rwPu R).1 x) → kGo xs Lx (d + 1) 32 7 [some (.ref t), some (.ref r), some (kI (st.length : Int)), some (kI (m : Int)), some (kI (c : Int))] [] V (fun r V' => ∃ x, r = some (kI x) ∧ K x V') from
    H 0 (Nat.zero_le _) [] 0 (Nat.le_refl _) (by decide) (fun x hx => absurd hx List.not_mem_nil) List.nodup_nil (fun j hj => by
      constructor
      · intro h; simp at h
      · rintro ⟨_, _, x, hx, _⟩; exact absurd hx List.not_mem_nil) (fun j hj => absurd hj (Nat.not_lt_zero _))
  refine kloop0 R.1.length _ ?_ (fun c hc ih => ?_)
  · intro st m hst hm hlt hnd hb hall
    refine b32_7 ht hr ⟨by omega, by omega, fun _ => ⟨_, rfl, ?_⟩, fun h => by omega⟩
    have : st.length = rwParts R := ufCount (rwPu_ok ok) hlt hnd (fun cr hcr => by
      obtain ⟨p, hp, hx⟩ := ok.sur (x := 2 * cr) (by omega)
      have hp : p < (rwP R).length := by omega
      have lb := rwLb_G hp
      rw [hx, show 2 * cr / 2 = cr by omega] at lb
      obtain ⟨i', j', hi', hj', rfl⟩ := rw_split hp
      rw [rwG_F hi' hj'] at lb
      obtain ⟨x, hx1, hx2⟩ := hall i' hi' (by omega)
      exact ⟨x, hx1, lb.trans hx2⟩)
    rw [this]
    exact k
  · intro st m hst hm hlt hnd hb hall
    have f1 := hR.2.2.1 c (by omega)
    have f2 := hR.2.2.1 (c + 1) (by omega)
    have e3 := rwF_succ hc
    have e4 := rwF_end hc
    have k1 := kc_div m c
    refine b32_7 ht hr ⟨by omega, by omega, fun h => by omega, fun h => ?_⟩
    simp only [tn, tn1, f1, f2, k1]
    refine ⟨by omega, by omega, by omega, by omega, fun h6 => ?_, fun h6 => ⟨by omega, by omega, by omega, fun h7 => ?_, fun h7 => ?_⟩⟩
    · refine ih st m (by omega) hm hlt hnd hb (fun j hj hl => ?_)
      by_cases e : j = c
      · subst e; omega
      · exact hall j (by omega) hl
    · refine ih st m (by omega) hm hlt hnd hb (fun j hj hl => ?_)
      by_cases e : j = c
      · subst e; exact ((hb j (by omega)).mp (by omega)).2.2
      · exact hall j (by omega) hl
    · have hne : 0 < rwL R c := by omega
      have pw := rwPw_bit ok hc hne
      have pl := (rwPw_closed ok (show c < 4 by omega)).1
      have l1 := ok.lt (rwF R c) (by omega)
      have hnl : ∀ x, x ∈ st → rwLb R c ≠ (rwPu R).1 x := fun x hx he => by
        have := (hb c (by omega)).mpr ⟨hc, hne, x, hx, he⟩
        omega
      refine sp_partWith ht hr hR ok hE hc ⟨by omega, by omega, fun z hz => ?_⟩
      have hz : z = ((m ||| rwPw R c : Nat) : Int) := hz
      subst hz
      have := ih (st ++ [(rwP R).getD (rwF R c) 0 / 2]) (m ||| rwPw R c) (by rw [List.length_append, List.length_singleton]; omega) (Nat.or_lt_two_pow (n := 4) hm pl) (fun x hx => by
          rcases List.mem_append.mp hx with z | z
          · exact hlt x z
          · rw [List.mem_singleton.mp z]; omega) (by
          rw [List.map_append]
          refine nodup_app1 hnd (fun z => ?_)
          obtain ⟨x, hx, hxe⟩ := List.mem_map.mp z
          exact hnl x hx hxe.symm) (fun j hj => by
          rw [bit_or, hb j hj, pw j hj]
          constructor
          · rintro (⟨z1, z2, x, z3, z4⟩ | ⟨z1, z2, z3⟩)
            · exact ⟨z1, z2, x, List.mem_append_left _ z3, z4⟩
            · exact ⟨z1, z2, _, List.mem_append_right _ (List.mem_singleton.mpr rfl), z3⟩
          · rintro ⟨z1, z2, x, z3, z4⟩
            rcases List.mem_append.mp z3 with z | z
            · exact Or.inl ⟨z1, z2, x, z, z4⟩
            · rw [List.mem_singleton.mp z] at z4
              exact Or.inr ⟨z1, z2, z4⟩) (fun j hj hl => by
          by_cases e : j = c
          · subst e; exact ⟨_, List.mem_append_right _ (List.mem_singleton.mpr rfl), rfl⟩
          · obtain ⟨x, z1, z2⟩ := hall j (by omega) hl
            exact ⟨x, List.mem_append_left _ z1, z2⟩)
      rw [List.length_append, List.length_singleton] at this
      exact this
theorem sp_mpartsOf {K : Int → km_V → Prop} (ha : km_sh[a]? = some (11, 78)) (ha2 : ¬ (313 ≤ a ∧ a ≤ 318) ∧ a ≠ 322) (hR : kRf (V a) R) (ok : rwOk R) (k : ∀ W, kME W R → (∀ b j, ¬ (b = 299 ∧ j = 25 ∨ 313 ≤ b ∧ b ≤ 318 ∨ b = 322) → W b j = V b j) → K (rwParts R : Int) W) : kCI xs Lx (d + 2) 162 4 [.ref 299, .ref a] V K := by
  have o2 := ok.2.1
  have o3 := ok.len
  have a9 : a ≠ 299 := fun z => by subst z; exact absurd ha (by decide)
  refine b162_0 ha (sp_laysEdges ha ha2.1 hR ok (fun W0 hE f0 z hz => ?_))
  have e1 : W0 a 1 = (rwn R : Int) := (f0 _ _ (by omega)).trans hR.2.1
  simp only [tnn1] at hz
  rw [e1] at hz
  subst hz
  have fr : ∀ W : km_V, (∀ b j, b ≠ 322 → W b j = W0 b j) → kME W R ∧ (∀ b j, ¬ (b = 299 ∧ j = 25 ∨ 313 ≤ b ∧ b ≤ 318 ∨ b = 322) → W b j = V b j) ∧ W 299 25 = ((rwP R).length : Int) ∧ W a 1 = (rwn R : Int) := fun W hf => ⟨hE.fr (hf _ _ (by omega)) (fun b j hb => hf b j (by omega)), fun b j hb => by rw [hf b j (by omega)]; exact f0 b j (by omega), (hf _ _ (by omega)).trans hE.1, (hf _ _ (by omega)).trans e1⟩
  refine kloop (rwn R) (fun m W => (∀ k, k < m → W 322 k = (k : Int)) ∧ (∀ b j, b ≠ 322 → W b j = W0 b j)) (fun m W => kGo xs Lx (d + 2) 162 11 [some (.ref 299), some (.ref a), some (kI (rwn R : Int)), some (kI (m : Int))] [] W _) (fun W ⟨g1, g2⟩ => ?_) (fun m W hm ⟨g1, g2⟩ ih => ?_) 0 W0 (Nat.zero_le _) ⟨fun k hk => by omega, fun _ _ _ => rfl⟩
  · obtain ⟨q1, q2, q3, q4⟩ := fr W g2
    refine b162_11 ha ⟨by omega, by simp only [tnn1]; omega, fun _ => ?_, fun h => by simp only [tnn1] at h; omega⟩
    refine kloop (rwP R).length (fun c W => kUf W (rwn R) (ufRun (rwn R) (rwPp R c)).1 ∧ (∀ b j, b ≠ 322 → W b j = W0 b j)) (fun c W => kGo xs Lx (d + 2) 162 33 [some (.ref 299), some (.ref a), some (kI ((ufRun (rwn R) (rwPp R c)).2 : Int)), some (kI (c : Int))] [] W _) (fun W ⟨g1, g2⟩ => ?_) (fun c W hc ⟨g1, g2⟩ ih => ?_) 0 W (Nat.zero_le _) ⟨fun k hk => g1 k hk, g2⟩
    · obtain ⟨q1, q2, q3, q4⟩ := fr W g2
      exact b162_33 ha ⟨by omega, by omega, fun _ => ⟨_, rfl, k W q1 q2⟩, fun h => by omega⟩
    · obtain ⟨q1, q2, q3, q4⟩ := fr W g2
      have nx := rwNx_lt hc
      have l1 := ok.lt c (by omega)
      have l2 := ok.lt (rwNx R c) (by omega)
      have t1 := q1.2.1 c hc
      have t2 := (q1.2.1 _ nx).1
      have u0 : ufOk (rwn R) (ufRun (rwn R) (rwPp R c)) := ufRun_ok _ _ (uf0_ok _) (rwPp_lt ok (by omega))
      have er : ufRun (rwn R) (rwPp R (c + 1)) = ufStep (ufRun (rwn R) (rwPp R c)) ((rwP R).getD c 0 / 2, (rwP R).getD (rwNx R c) 0 / 2) := by
        unfold ufRun rwPp
        rw [List.range_succ, List.map_append, List.foldl_append]
        rfl
      rw [er] at ih
      generalize ufRun (rwn R) (rwPp R c) = S at *
      refine b162_33 ha ⟨by omega, by omega, fun h => by omega, fun h => ?_⟩
      simp only [tn, tnn1, t1.1, t1.2.2.1, t2, q4]
      refine ⟨by omega, by omega, by omega, by omega, ?_⟩
      refine sp_joins (x := (rwP R).getD c 0 / 2) (y := (rwP R).getD (rwNx R c) 0 / 2) g1 u0 (by omega) (by omega) (by omega) (fun W1 j1 f1 => ?_)
      have := ih W1 ⟨j1, fun b j hb => by rw [f1 b j hb]; exact g2 b j hb⟩
      rwa [show (S.2 : Int) - ((S.2 : Int) - ((ufStep S ((rwP R).getD c 0 / 2, (rwP R).getD (rwNx R c) 0 / 2)).2 : Int)) = ((ufStep S ((rwP R).getD c 0 / 2, (rwP R).getD (rwNx R c) 0 / 2)).2 : Int) by omega]
  · obtain ⟨q1, q2, q3, q4⟩ := fr W g2
    refine b162_11 ha ⟨by omega, by simp only [tnn1]; omega, fun h => by simp only [tnn1] at h; omega, fun h => ⟨by omega, ih _ ⟨fun k hk => ?_, fun b j hb => by rw [up_ne (by omega)]; exact g2 b j hb⟩⟩⟩
    simp only [tn]
    by_cases e : k = m
    · subst e; rw [up_at]
    · rw [up_ne (by omega)]; exact g1 k (by omega)
def rwPl (R : Rw) : Prop := (rwFc R).length = rwn R + 2 * rwParts R
theorem rwParts_le {R : Rw} (ok : rwOk R) : rwParts R ≤ rwn R := by
  have := (rwPu_ok ok).2
  have h2 := List.countP_le_length (p := fun k => (rwPu R).1 k == k) (l := List.range (rwn R))
  rw [List.length_range] at h2
  unfold rwParts
  omega
theorem sp_isPlane {K : Int → km_V → Prop} (ht : km_sh[t]? = some (2, 11)) (hr : km_sh[r]? = some (5, 5)) (hR : kRC V r R) (ok : rwOk R) (hD : kDr V t R) (k1 : rwPl R → K 1 V) (k0 : ¬ rwPl R → K 0 V) : kCI xs Lx (d + 2) 34 2 [.ref t, .ref r] V K := by
  have o2 := ok.2.1
  have o3 := ok.len
  have l1 := rwFc_len R
  have l2 := rwParts_le ok
  have e1 := hR.2.1
  have e2 := hD.2.1.1
  unfold rwPl at k1 k0
  refine b34_0 ht hr (sp_partsOf ht hr hR ok hD.1 ⟨by omega, by omega, fun h => ⟨_, rfl, k0 (by omega)⟩, fun h => ⟨_, rfl, k1 (by omega)⟩⟩)
theorem sp_canBeDrawn {K : Int → km_V → Prop} (ha : km_sh[a]? = some (11, 78)) (ha2 : ¬ (313 ≤ a ∧ a ≤ 322)) (hR : kRf (V a) R) (ok : rwOk R) (k : ∀ W, (∀ b j, ¬ (b = 299 ∧ (j = 25 ∨ j = 32) ∨ 313 ≤ b ∧ b ≤ 322) → W b j = V b j) → (rwPl R → K 1 W) ∧ (¬ rwPl R → K 0 W)) : kCI xs Lx (d + 3) 164 2 [.ref 299, .ref a] V K := by
  have o2 := ok.2.1
  have o3 := ok.len
  have l1 := rwFc_len R
  have l2 := rwParts_le ok
  have a9 : a ≠ 299 := fun z => by subst z; exact absurd ha (by decide)
  refine b164_0 ha (sp_laysFaces ha (by omega) hR ok (fun W1 hM f1 => ?_))
  have hR1 : kRf (W1 a) R := hR.fr ok (fun j _ => f1 a j (by omega))
  refine sp_mpartsOf ha (by omega) hR1 ok (fun W2 hE f2 => ?_)
  have kk := k W2 (fun b j hb => by rw [f2 b j (by omega), f1 b j (by omega)])
  unfold rwPl at kk
  have e1 := hR1.2.1
  simp only [tnn1, e1]
  exact ⟨by omega, by omega, fun h => ⟨_, rfl, kk.2 (by omega)⟩, fun h => ⟨_, rfl, kk.1 (by omega)⟩⟩
end PTA

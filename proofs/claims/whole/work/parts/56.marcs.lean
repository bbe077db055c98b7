/-! the model's arcs -/
/-- the s-th place behind place j0 of ring i -/
def rwCy (R : Rw) (i j0 s : Nat) : Nat := rwF R i + (j0 + s) % rwL R i
theorem rwCy_nx {R : Rw} {i j0 s : Nat} (hi : i < R.1.length) (hj : j0 < rwL R i) : rwNx R (rwCy R i j0 s) = rwCy R i j0 (s + 1) := by
  have h1 : (j0 + s) % rwL R i < rwL R i := Nat.mod_lt _ (by omega)
  unfold rwCy
  rw [rwNx_F hi h1, ← Nat.add_assoc, Nat.add_mod (j0 + s) 1]
  by_cases h : (j0 + s) % rwL R i + 1 < rwL R i
  · rw [if_pos h, Nat.mod_eq_of_lt (show 1 < rwL R i by omega), Nat.mod_eq_of_lt h]
  · rw [if_neg h]
    by_cases h2 : rwL R i = 1
    · rw [h2]; omega
    · rw [Nat.mod_eq_of_lt (show 1 < rwL R i by omega), show (j0 + s) % rwL R i + 1 = rwL R i by omega, Nat.mod_self]
theorem rwCy_lt {R : Rw} {i j0 s : Nat} (hi : i < R.1.length) (hj : j0 < rwL R i) : rwCy R i j0 s < (rwP R).length := by
  have h1 : (j0 + s) % rwL R i < rwL R i := Nat.mod_lt _ (by omega)
  have := rwF_end hi
  unfold rwCy
  omega
theorem rwCy_lo {R : Rw} {i j0 s : Nat} (h : j0 + s < rwL R i) : rwCy R i j0 s = rwF R i + (j0 + s) := by
  unfold rwCy; rw [Nat.mod_eq_of_lt h]
theorem rwCy_hi {R : Rw} {i j0 s : Nat} (h : rwL R i ≤ j0 + s) (h2 : j0 + s < 2 * rwL R i) : rwCy R i j0 s = rwF R i + (j0 + s - rwL R i) := by
  unfold rwCy; rw [Nat.mod_eq_sub_mod h, Nat.mod_eq_of_lt (by omega)]
theorem rwU_const {R : Rw} {p : Nat} : ∀ (t : Nat), p + t ≤ (rwP R).length → (∀ s, s < t → (rwP R).getD (p + s) 0 % 2 = 1) → rwU R (p + t) = rwU R p := by
  intro t
  induction t with
  | zero => intro _ _; rfl
  | succ t ih =>
    intro h h2
    have h3 := h2 t (by omega)
    rw [← Nat.add_assoc, rwU_succ (by omega), ih (by omega) (fun s hs => h2 s (by omega)), if_neg (by omega)]
    rfl
theorem rwU_over {R : Rw} {p q s : Nat} (hs : p ≤ s) (hs2 : s < q) (hq : q ≤ (rwP R).length) (h : rwU R q = rwU R p) : (rwP R).getD s 0 % 2 = 1 := by
  have h1 := rwU_le (R := R) hs (by omega)
  have h2 := rwU_le (R := R) (show s + 1 ≤ q by omega) hq
  have h3 := rwU_succ (R := R) (p := s) (by omega)
  apply Classical.byContradiction
  intro hc
  rw [if_pos (by omega)] at h3
  omega
theorem rwA_A {R : Rw} {i j0 : Nat} (hi : i < R.1.length) (hj : j0 < rwL R i) (hu : (rwP R).getD (rwF R i + j0) 0 % 2 = 0) : ∀ t, t < rwL R i → (∀ s, 1 ≤ s → s ≤ t → (rwP R).getD (rwCy R i j0 s) 0 % 2 = 1) → rwA R (rwCy R i j0 t) = rwU R (rwF R i + j0) := by
  intro t ht ho
  have e4 := rwF_end hi
  have e3 := rwF_succ hi
  have us := rwU_succ (R := R) (p := rwF R i + j0) (by omega)
  rw [if_pos hu] at us
  have m1 := rwU_le (R := R) (show rwF R i ≤ rwF R i + j0 by omega) (by omega)
  have m2 := rwU_le (R := R) (show rwF R i + j0 + 1 ≤ rwF R (i + 1) by omega) (by omega)
  have hm : (j0 + t) % rwL R i < rwL R i := Nat.mod_lt _ (by omega)
  unfold rwA
  rw [show rwG R (rwCy R i j0 t) = i from rwG_F hi hm, if_neg (by omega)]
  by_cases h : j0 + t < rwL R i
  · have c1 : rwU R (rwF R i + j0 + 1 + t) = rwU R (rwF R i + j0 + 1) := rwU_const t (by omega) (fun s hs => by
      have := ho (s + 1) (by omega) (by omega)
      rw [rwCy_lo (by omega)] at this
      rwa [show rwF R i + (j0 + (s + 1)) = rwF R i + j0 + 1 + s by omega] at this)
    have e : rwCy R i j0 t + 1 = rwF R i + j0 + 1 + t := by unfold rwCy; rw [Nat.mod_eq_of_lt h]; omega
    rw [e, c1, if_neg (by omega)]; omega
  · have hmod : (j0 + t) % rwL R i = j0 + t - rwL R i := by
      rw [Nat.mod_eq_sub_mod (by omega), Nat.mod_eq_of_lt (by omega)]
    have c1 : rwU R (rwF R i + j0 + 1 + (rwL R i - 1 - j0)) = rwU R (rwF R i + j0 + 1) := rwU_const _ (by omega) (fun s hs => by
      have := ho (s + 1) (by omega) (by omega)
      rw [rwCy_lo (by omega)] at this
      rwa [show rwF R i + (j0 + (s + 1)) = rwF R i + j0 + 1 + s by omega] at this)
    have c2 : rwU R (rwF R i + (j0 + t - rwL R i + 1)) = rwU R (rwF R i) := rwU_const _ (by omega) (fun s hs => by
      have := ho (s + rwL R i - j0) (by omega) (by omega)
      rw [rwCy_hi (by omega) (by omega), show j0 + (s + rwL R i - j0) - rwL R i = s by omega] at this
      exact this)
    have e : rwCy R i j0 t + 1 = rwF R i + (j0 + t - rwL R i + 1) := by unfold rwCy; rw [hmod]; omega
    rw [e, c2, if_pos rfl, e3, show rwF R i + rwL R i = rwF R i + j0 + 1 + (rwL R i - 1 - j0) by omega, c1]; omega
theorem rwA_B {R : Rw} {i j0 : Nat} (hi : i < R.1.length) (hj : j0 < rwL R i) (hu : (rwP R).getD (rwF R i + j0) 0 % 2 = 0) {o : Nat} (ho : o < (rwP R).length) (hr : rwU R (rwF R (rwG R o)) ≠ rwU R (rwF R (rwG R o + 1))) (hA : rwA R o = rwU R (rwF R i + j0)) : ∃ t, t < rwL R i ∧ o = rwCy R i j0 t ∧ ∀ s, 1 ≤ s → s ≤ t → (rwP R).getD (rwCy R i j0 s) 0 % 2 = 1 := by
  have e4 := rwF_end hi
  have e3 := rwF_succ hi
  have us := rwU_succ (R := R) (p := rwF R i + j0) (by omega)
  rw [if_pos hu] at us
  have m1 := rwU_le (R := R) (show rwF R i ≤ rwF R i + j0 by omega) (by omega)
  have m2 := rwU_le (R := R) (show rwF R i + j0 + 1 ≤ rwF R (i + 1) by omega) (by omega)
  obtain ⟨i', j', hi', hj', rfl⟩ := rw_split ho
  have e3' := rwF_succ hi'
  have e4' := rwF_end hi'
  unfold rwA at hA
  rw [rwG_F hi' hj'] at hA hr
  rw [if_neg hr] at hA
  have n1 := rwU_le (R := R) (show rwF R i' ≤ rwF R i' + j' + 1 by omega) (by omega)
  have n2 := rwU_le (R := R) (show rwF R i' + j' + 1 ≤ rwF R (i' + 1) by omega) (by omega)
  have hii : i' = i := by
    by_cases c1 : i' < i
    · have q := rwU_le (R := R) (rwF_le (R := R) (show i' + 1 ≤ i by omega) (by omega)) (by omega)
      split at hA <;> omega
    · by_cases c2 : i < i'
      · have q := rwU_le (R := R) (rwF_le (R := R) (show i + 1 ≤ i' by omega) (by omega)) (by omega)
        split at hA <;> omega
      · omega
  subst hii
  by_cases hjj : j0 ≤ j'
  · have n3 := rwU_le (R := R) (show rwF R i' + j0 + 1 ≤ rwF R i' + j' + 1 by omega) (by omega)
    rw [if_neg (by omega)] at hA
    refine ⟨j' - j0, by omega, by unfold rwCy; rw [Nat.mod_eq_of_lt (by omega)]; omega, fun s h1 h2 => ?_⟩
    rw [rwCy_lo (by omega)]
    exact rwU_over (p := rwF R i' + j0 + 1) (q := rwF R i' + j' + 1) (by omega) (by omega) (by omega) (by omega)
  · have n3 := rwU_le (R := R) (show rwF R i' + j' + 1 ≤ rwF R i' + j0 by omega) (by omega)
    by_cases c : rwU R (rwF R i' + j' + 1) = rwU R (rwF R i')
    · rw [if_pos c] at hA
      refine ⟨rwL R i' - j0 + j', by omega, ?_, fun s h1 h2 => ?_⟩
      · unfold rwCy
        rw [show j0 + (rwL R i' - j0 + j') = j' + rwL R i' by omega, Nat.add_mod_right, Nat.mod_eq_of_lt hj']
      · by_cases c3 : j0 + s < rwL R i'
        · rw [rwCy_lo c3]
          exact rwU_over (p := rwF R i' + j0 + 1) (q := rwF R (i' + 1)) (by omega) (by omega) (by omega) (by omega)
        · rw [rwCy_hi (by omega) (by omega)]
          exact rwU_over (p := rwF R i') (q := rwF R i' + j' + 1) (by omega) (by omega) (by omega) c
    · rw [if_neg c] at hA
      omega
section MAA
variable {xs : Nat → Int32} {Lx d : Nat} {V : km_V} {a : Nat} {R : Rw}
theorem sp_laysArcs {K : Int → km_V → Prop} (ha : km_sh[a]? = some (11, 78)) (ha2 : ¬ (313 ≤ a ∧ a ≤ 318) ∧ a ≠ 331) (hR : kRf (V a) R) (ok : rwOk R) (k : ∀ W, kME W R → (∀ p, p < (rwP R).length → W 331 p = (rwA R p : Int)) → (∀ b j, ¬ (b = 299 ∧ j = 25 ∨ 313 ≤ b ∧ b ≤ 318 ∨ b = 331) → W b j = V b j) → K (rwAc R : Int) W) : kCI xs Lx (d + 2) 203 6 [.ref 299, .ref a] V K := by
  have o1 := ok.1
  have o2 := ok.2.1
  have o3 := ok.len
  have ua := rwU_all ok
  have a9 : a ≠ 299 := fun z => by subst z; exact absurd ha (by decide)
  refine b203_0 ha (sp_laysEdges ha ha2.1 hR ok (fun W1 hE f1 => ?_))
  have hE1 := hE.1
  have hE2 := hE.2.1
  have R0 : W1 a 0 = (R.1.length : Int) := (f1 _ _ (by omega)).trans hR.1
  -- only cell 331 changes from here
  have fr : ∀ W : km_V, (∀ b j, b ≠ 331 → W b j = W1 b j) → kME W R ∧ (∀ b j, ¬ (b = 299 ∧ j = 25 ∨ 313 ≤ b ∧ b ≤ 318 ∨ b = 331) → W b j = V b j) ∧ W 299 25 = ((rwP R).length : Int) ∧ W a 0 = (R.1.length : Int) := by
    intro W hf
    refine ⟨hE.fr (hf _ _ (by omega)) (fun b j hb => hf b j (by omega)), fun b j hb => by rw [hf b j (by omega)]; exact f1 b j (by omega), (hf _ _ (by omega)).trans hE1, (hf _ _ (by omega)).trans R0⟩
  -- the rings without passes under
  have ph2 : ∀ W : km_V, (∀ o, o < (rwP R).length → rwU R (rwF R (rwG R o)) ≠ rwU R (rwF R (rwG R o + 1)) → W 331 o = (rwA R o : Int)) → (∀ b j, b ≠ 331 → W b j = W1 b j) → kGo xs Lx (d + 2) 203 91 [some (.ref 299), some (.ref a), some (kI ((rwn R + rwZ R 0 : Nat) : Int)), some (kI ((0 : Nat) : Int)), none, none] [] W (fun r V' => ∃ x, r = some (kI x) ∧ K x V') := by
    intro W hW hf
    refine kloop R.1.length (fun c W => (∀ o, o < (rwP R).length → (rwU R (rwF R (rwG R o)) ≠ rwU R (rwF R (rwG R o + 1)) ∨ rwG R o < c) → W 331 o = (rwA R o : Int)) ∧ (∀ b j, b ≠ 331 → W b j = W1 b j)) (fun c W => kGo xs Lx (d + 2) 203 91 [some (.ref 299), some (.ref a), some (kI ((rwn R + rwZ R c : Nat) : Int)), some (kI (c : Int)), none, none] [] W (fun r V' => ∃ x, r = some (kI x) ∧ K x V')) (fun W ⟨g1, g2⟩ => ?_) (fun c W hc ⟨g1, g2⟩ ih => ?_) 0 W (Nat.zero_le _) ⟨fun o ho hh => hW o ho (by omega), hf⟩
    · obtain ⟨q1, q2, q3, q4⟩ := fr W g2
      refine b203_91 ha ⟨by omega, by simp only [tn0]; omega, fun _ => ⟨_, rfl, k W q1 (fun p hp => g1 p hp (Or.inr (rwG_lt hp))) q2⟩, fun h => by simp only [tn0] at h; omega⟩
    · obtain ⟨q1, q2, q3, q4⟩ := fr W g2
      have e3 := rwF_succ hc
      have e4 := rwF_end hc
      have z2 := rwZ_succ R c
      have zl := rwZ_le R c
      have us := rwU_le (R := R) (show rwF R c ≤ rwF R (c + 1) by omega) (by omega)
      refine b203_91 ha ⟨by omega, by simp only [tn0]; omega, fun h => by simp only [tn0] at h; omega, fun h => ?_⟩
      have hh : ∀ j, j ≤ (rwP R).length → ∀ x : Int, ((x = 0 ∧ ∀ o, o < j → rwG R o = c → (rwP R).getD o 0 % 2 = 1) ∨ (x = 1 ∧ ∃ o, o < j ∧ rwG R o = c ∧ (rwP R).getD o 0 % 2 = 0)) → kGo xs Lx (d + 2) 203 104 [some (.ref 299), some (.ref a), some (kI ((rwn R + rwZ R c : Nat) : Int)), some (kI (c : Int)), some (kI x), some (kI (j : Int))] [] W (fun r V' => ∃ x, r = some (kI x) ∧ K x V') := by
        refine kloop0 (rwP R).length _ ?_ (fun j hj ih2 => ?_)
        · intro x hx
          refine b203_104 ha ⟨by omega, by omega, fun _ => ⟨by rcases hx with ⟨hx, _⟩ | ⟨hx, _⟩ <;> omega, fun h6 => ?_, fun h6 => ?_⟩, fun h => by omega⟩
          · have hov : ∀ o, o < (rwP R).length → rwG R o = c → (rwP R).getD o 0 % 2 = 1 := by
              rcases hx with ⟨_, hx⟩ | ⟨hx, _⟩
              · exact hx
              · omega
            have hz : rwU R (rwF R c) = rwU R (rwF R (c + 1)) := by
              rw [e3]
              exact (rwU_const (rwL R c) (by omega) (fun s hs => hov _ (by omega) (rwG_F hc hs))).symm
            rw [if_pos hz] at z2
            refine kloop (rwP R).length (fun m W' => (∀ o, o < (rwP R).length → (rwU R (rwF R (rwG R o)) ≠ rwU R (rwF R (rwG R o + 1)) ∨ rwG R o < c) → W' 331 o = (rwA R o : Int)) ∧ (∀ o, o < m → rwG R o = c → W' 331 o = ((rwn R + rwZ R c : Nat) : Int)) ∧ (∀ b j, b ≠ 331 → W' b j = W1 b j)) (fun m W' => kGo xs Lx (d + 2) 203 165 [some (.ref 299), some (.ref a), some (kI ((rwn R + rwZ R c : Nat) : Int)), some (kI (c : Int)), none, some (kI (m : Int))] [] W' (fun r V' => ∃ x, r = some (kI x) ∧ K x V')) (fun W' ⟨r1, r2, r3⟩ => ?_) (fun m W' hm ⟨r1, r2, r3⟩ ih3 => ?_) 0 W (Nat.zero_le _) ⟨g1, fun o ho => by omega, g2⟩
            · obtain ⟨s1, s2, s3, s4⟩ := fr W' r3
              refine b203_165 ha ⟨by omega, by omega, fun _ => ?_, fun h => by omega⟩
              rw [z2] at ih
              refine ih W' ⟨fun o ho hh => ?_, r3⟩
              by_cases e : rwG R o = c
              · rw [r2 o ho e]
                unfold rwA
                rw [e, if_pos hz]
              · exact r1 o ho (by omega)
            · obtain ⟨s1, s2, s3, s4⟩ := fr W' r3
              have t1 := (s1.2.1 m hm).2.1
              have t2 := rwG_lt hm
              refine b203_165 ha ⟨by omega, by omega, fun h => by omega, fun h => ?_⟩
              simp only [tn, t1]
              refine ⟨by omega, by omega, by omega, fun h7 => ?_, fun h7 => ?_⟩
              · refine ih3 W' ⟨r1, fun o ho hg => ?_, r3⟩
                by_cases e : o = m
                · subst e; omega
                · exact r2 o (by omega) hg
              · refine ih3 _ ⟨fun o ho hh => ?_, fun o ho hg => ?_, fun b j hb => by rw [up_ne (by omega)]; exact r3 b j hb⟩
                · by_cases e : o = m
                  · subst e
                    have hgc : rwG R o = c := by omega
                    rw [hgc] at hh
                    omega
                  · rw [up_ne (by omega)]; exact r1 o ho hh
                · by_cases e : o = m
                  · subst e; exact up_at _ _ _ _
                  · rw [up_ne (by omega)]; exact r2 o (by omega) hg
          · have hex : ∃ o, o < (rwP R).length ∧ rwG R o = c ∧ (rwP R).getD o 0 % 2 = 0 := by
              rcases hx with ⟨hx, _⟩ | ⟨_, hx⟩
              · omega
              · exact hx
            have hz : rwU R (rwF R c) ≠ rwU R (rwF R (c + 1)) := by
              intro hz
              obtain ⟨o, ho1, ho2, ho3⟩ := hex
              obtain ⟨i', j', hi', hj', rfl⟩ := rw_split ho1
              rw [rwG_F hi' hj'] at ho2
              subst ho2
              have := rwU_over (R := R) (p := rwF R i') (q := rwF R (i' + 1)) (s := rwF R i' + j') (by omega) (by omega) (by omega) hz.symm
              omega
            have z3 : rwZ R (c + 1) = rwZ R c := by rw [z2, if_neg hz]; rfl
            rw [z3] at ih
            refine ih W ⟨fun o ho hh => g1 o ho ?_, g2⟩
            by_cases e : rwG R o = c
            · rw [e]; exact Or.inl hz
            · omega
        · intro x hx
          have t0 := q1.2.1 j hj
          have t1 := t0.2.1
          have t2 := rwG_lt hj
          have l1 := ok.lt j (by omega)
          refine b203_104 ha ⟨by omega, by omega, fun h => by omega, fun h => ⟨by rcases hx with ⟨hx, _⟩ | ⟨hx, _⟩ <;> omega, fun h6 => ?_, fun h6 => ?_⟩⟩
          · refine ih2 1 (Or.inr ⟨rfl, ?_⟩)
            rcases hx with ⟨hx, _⟩ | ⟨_, o, ho, hx⟩
            · omega
            · exact ⟨o, by omega, hx⟩
          · have hov : ∀ o, o < j → rwG R o = c → (rwP R).getD o 0 % 2 = 1 := by
              rcases hx with ⟨_, hx⟩ | ⟨hx, _⟩
              · exact hx
              · omega
            simp only [tn, t1, t0.1]
            refine ⟨by omega, by omega, by omega, fun h7 => ?_, fun h7 => ⟨by omega, by omega, fun h8 => ?_, fun h8 => ?_⟩⟩
            · refine ih2 0 (Or.inl ⟨rfl, fun o ho hg => ?_⟩)
              by_cases e : o = j
              · subst e; omega
              · exact hov o (by omega) hg
            · refine ih2 0 (Or.inl ⟨rfl, fun o ho hg => ?_⟩)
              by_cases e : o = j
              · subst e; omega
              · exact hov o (by omega) hg
            · exact ih2 1 (Or.inr ⟨rfl, j, by omega, by omega, by omega⟩)
      exact hh 0 (Nat.zero_le _) 0 (Or.inl ⟨rfl, fun o ho => by omega⟩)
  -- the passes under
  refine kloop (rwP R).length (fun c W => (∀ o, o < (rwP R).length → rwU R (rwF R (rwG R o)) ≠ rwU R (rwF R (rwG R o + 1)) → rwA R o < rwU R c → W 331 o = (rwA R o : Int)) ∧ (∀ b j, b ≠ 331 → W b j = W1 b j)) (fun c W => kGo xs Lx (d + 2) 203 9 [some (.ref 299), some (.ref a), some (kI (rwU R c : Int)), some (kI (c : Int)), none, none] [] W _) (fun W ⟨g1, g2⟩ => ?_) (fun c W hc ⟨g1, g2⟩ ih => ?_) 0 W1 (Nat.zero_le _) ⟨fun o ho _ hA => absurd hA (Nat.not_lt_zero _), fun _ _ _ => rfl⟩
  · obtain ⟨q1, q2, q3, q4⟩ := fr W g2
    refine b203_9 ha ⟨by omega, by omega, fun _ => ?_, fun h => by omega⟩
    rw [ua] at g1 ⊢
    refine ph2 W (fun o ho hh => g1 o ho hh ?_) g2
    unfold rwA
    rw [if_neg hh]
    have l1 := rwG_lt ho
    have n1 := rwU_le (R := R) (show o + 1 ≤ (rwP R).length by omega) (Nat.le_refl _)
    have n2 := rwF_le (R := R) (show rwG R o + 1 ≤ R.1.length by omega) (Nat.le_refl _)
    rw [rwF_all] at n2
    have n3 := rwU_le (R := R) n2 (Nat.le_refl _)
    have n4 := rwU_le (R := R) (rwF_le (R := R) (show rwG R o ≤ rwG R o + 1 by omega) (by omega)) n2
    split
    · omega
    · have : rwU R (rwF R (rwG R o)) ≤ rwU R (o + 1) := by
        obtain ⟨i', j', hi', hj', rfl⟩ := rw_split ho
        rw [rwG_F hi' hj']
        exact rwU_le (by omega) (by omega)
      omega
  · obtain ⟨q1, q2, q3, q4⟩ := fr W g2
    obtain ⟨t1, t2, t3, t4⟩ := q1.2.1 c hc
    have l1 := ok.lt c (by omega)
    have us := rwU_succ hc
    have ul := rwU_le (R := R) (show c ≤ (rwP R).length by omega) (Nat.le_refl _)
    refine b203_9 ha ⟨by omega, by omega, fun h => by omega, fun h => ?_⟩
    simp only [tn, t1]
    refine ⟨by omega, by omega, by omega, fun h6 => ?_, fun h6 => ?_⟩
    · rw [if_pos (by omega)] at us
      intro z hz
      rw [up_ne (by omega), t3] at hz
      subst hz
      obtain ⟨i, j0, hi, hj, rfl⟩ := rw_split hc
      have e0 : rwCy R i j0 0 = rwF R i + j0 := by unfold rwCy; rw [Nat.add_zero, Nat.mod_eq_of_lt hj]
      have e1 := rwCy_nx (s := 0) hi hj
      rw [e0] at e1
      rw [e1]
      have rl := rwL_le ok hi
      have hu : (rwP R).getD (rwF R i + j0) 0 % 2 = 0 := by omega
      have main : ∀ n s : Nat, s + n = rwL R i → 1 ≤ s → ∀ W : km_V, (∀ o, o < (rwP R).length → rwU R (rwF R (rwG R o)) ≠ rwU R (rwF R (rwG R o + 1)) → rwA R o < rwU R (rwF R i + j0) → W 331 o = (rwA R o : Int)) → (∀ t, 1 ≤ t → t < s → (rwP R).getD (rwCy R i j0 t) 0 % 2 = 1) → (∀ t, t < s → W 331 (rwCy R i j0 t) = (rwU R (rwF R i + j0) : Int)) → (∀ b j, b ≠ 331 → W b j = W1 b j) → kGo xs Lx (d + 2) 203 47 [some (.ref 299), some (.ref a), some (kI (rwU R (rwF R i + j0) : Int)), some (kI ((rwF R i + j0 : Nat) : Int)), some (kI (rwCy R i j0 s : Int)), none] [] W (fun r V' => ∃ x, r = some (kI x) ∧ K x V') := by
        intro n
        induction n with
        | zero =>
          intro s hs h1s W w1 w2 w3 w4
          obtain ⟨q1, q2, q3, q4⟩ := fr W w4
          have es : rwCy R i j0 s = rwF R i + j0 := by
            unfold rwCy
            rw [show s = rwL R i by omega, Nat.add_mod_right, Nat.mod_eq_of_lt hj]
          rw [es]
          obtain ⟨t1, t2, t3, t4⟩ := q1.2.1 _ hc
          refine b203_47 ha ?_
          simp only [tn, t1]
          refine ⟨by omega, by omega, by omega, fun _ => ?_, fun h => by omega⟩
          rw [us] at ih
          refine ih W ⟨fun o ho hh hA => ?_, w4⟩
          by_cases e : rwA R o = rwU R (rwF R i + j0)
          · obtain ⟨t, ht, he, hov⟩ := rwA_B hi hj hu ho hh e
            rw [he, w3 t (by omega), ← he, e]
          · exact w1 o ho hh (by omega)
        | succ n ihn =>
          intro s hs h1s W w1 w2 w3 w4
          obtain ⟨q1, q2, q3, q4⟩ := fr W w4
          have cl := rwCy_lt (s := s) hi hj
          obtain ⟨t1, t2, t3, t4⟩ := q1.2.1 _ cl
          have l2 := ok.lt _ (show rwCy R i j0 s < 2 * rwn R by omega)
          refine b203_47 ha ?_
          simp only [tn, t1]
          refine ⟨by omega, by omega, by omega, fun h7 => ?_, fun h7 => ?_⟩
          · rw [us] at ih
            refine ih W ⟨fun o ho hh hA => ?_, w4⟩
            by_cases e : rwA R o = rwU R (rwF R i + j0)
            · obtain ⟨t, ht, he, hov⟩ := rwA_B hi hj hu ho hh e
              have hts : t < s := by
                apply Classical.byContradiction
                intro hc
                have := hov s h1s (by omega)
                omega
              rw [he, w3 t hts, ← he, e]
            · exact w1 o ho hh (by omega)
          · intro z hz
            rw [up_ne (by omega), t3, rwCy_nx hi hj] at hz
            subst hz
            have hov : ∀ t, 1 ≤ t → t < s + 1 → (rwP R).getD (rwCy R i j0 t) 0 % 2 = 1 := by
              intro t h1 h2
              by_cases e : t = s
              · subst e; omega
              · exact w2 t h1 (by omega)
            have hAs := rwA_A hi hj hu s (by omega) (fun t h1 h2 => hov t h1 (by omega))
            refine ihn (s + 1) (by omega) (by omega) _ (fun o ho hh hA => ?_) hov (fun t ht => ?_) (fun b j hb => by rw [up_ne (by omega)]; exact w4 b j hb)
            · by_cases e : o = rwCy R i j0 s
              · subst e; omega
              · rw [up_ne (by omega)]; exact w1 o ho hh hA
            · by_cases e : rwCy R i j0 t = rwCy R i j0 s
              · rw [e, up_at]
              · rw [up_ne (by omega)]
                refine w3 t ?_
                by_cases e2 : t = s
                · subst e2; exact absurd rfl e
                · omega
      refine main (rwL R i - 1) 1 (by omega) (Nat.le_refl _) _ (fun o ho hh hA => ?_) (fun t h1 h2 => by omega) (fun t ht => ?_) (fun b j hb => by rw [up_ne (by omega)]; exact g2 b j hb)
      · have hA0 := rwA_A hi hj hu 0 (by omega) (fun t h1 h2 => by omega)
        rw [e0] at hA0
        by_cases e : o = rwF R i + j0
        · subst e; omega
        · rw [up_ne (by omega)]; exact g1 o ho hh hA
      · have : t = 0 := by omega
        subst this
        rw [e0, up_at]
    · have us2 : rwU R (c + 1) = rwU R c := by rw [us, if_neg (by omega)]; rfl
      rw [us2] at ih
      exact ih W ⟨g1, g2⟩
theorem sp_passAt {c o : Nat} {K : Int → km_V → Prop} (ok : rwOk R) (hE : kME V R) (hc : c < rwn R) (ho : o < 2) (k : ∀ p, p < (rwP R).length → (rwP R).getD p 0 = 2 * c + o → K (p : Int) V) : kCI xs Lx (d + 0) 190 4 [.ref 299, kI c, kI o] V K := by
  have o2 := ok.2.1
  have o3 := ok.len
  obtain ⟨p, hp, hx⟩ := ok.sur (x := 2 * c + o) (by omega)
  refine b190_0 ?_
  refine kloop0 p (fun j => kGo xs Lx (d + 0) 190 2 [some (.ref 299), some (kI c), some (kI o), some (kI (j : Int))] [] V _) ?_ (fun j hj ih => ?_) 0 (Nat.zero_le _)
  · have t1 := (hE.2.1 p (by omega)).1
    refine b190_2 ⟨by omega, by rw [tn, t1]; omega, by omega, fun _ => ⟨_, rfl, k p (by omega) hx⟩, fun h => by rw [tn, t1] at h; omega⟩
  · have t1 := (hE.2.1 j (by omega)).1
    have l1 := ok.lt j (by omega)
    refine b190_2 ⟨by omega, by rw [tn, t1]; omega, by omega, fun h => ?_, fun _ => ih⟩
    rw [tn, t1] at h
    have := ok.inj (p := j) (q := p) (by omega) (by omega) (by omega)
    omega
end MAA

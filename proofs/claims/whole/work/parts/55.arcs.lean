/-! arcs -/
def rwU (R : Rw) (p : Nat) : Nat := ((rwP R).take p).countP (fun x => x % 2 == 0)
theorem rwU_succ {R : Rw} {p : Nat} (h : p < (rwP R).length) : rwU R (p + 1) = rwU R p + (if (rwP R).getD p 0 % 2 = 0 then 1 else 0) := by
  unfold rwU
  rw [take_gd 0 h, List.countP_append]
  simp [List.countP_cons]
theorem rwU_le {R : Rw} {p q : Nat} (h : p ≤ q) (hq : q ≤ (rwP R).length) : rwU R p ≤ rwU R q := by
  induction q with
  | zero => have : p = 0 := by omega
            subst this; exact Nat.le_refl _
  | succ q ih =>
    by_cases e : p = q + 1
    · subst e; exact Nat.le_refl _
    · have := ih (by omega) (by omega)
      rw [rwU_succ (by omega)]
      omega
theorem range_even (n : Nat) : (List.range (2 * n)).countP (fun x => x % 2 == 0) = n := by
  induction n with
  | zero => rfl
  | succ n ih =>
    rw [range_two, List.countP_append, ih]
    have e1 : (2 * n % 2 == 0) = true := beq_iff_eq.mpr (by omega)
    have e2 : ((2 * n + 1) % 2 == 0) = false := beq_eq_false_iff_ne.mpr (by omega)
    simp [List.countP_cons, e1, e2]
theorem rwU_all {R : Rw} (ok : rwOk R) : rwU R (rwP R).length = rwn R := by
  unfold rwU
  rw [List.take_length, ok.2.2.1.countP_eq, range_even]
/-- rings without passes under among the first i -/
def rwZ (R : Rw) (i : Nat) : Nat := (List.range i).countP (fun r => rwU R (rwF R r) == rwU R (rwF R (r + 1)))
theorem rwZ_succ (R : Rw) (i : Nat) : rwZ R (i + 1) = rwZ R i + (if rwU R (rwF R i) = rwU R (rwF R (i + 1)) then 1 else 0) := by
  unfold rwZ
  rw [List.range_succ, List.countP_append]
  simp [List.countP_cons]
theorem rwZ_le (R : Rw) (i : Nat) : rwZ R i ≤ i := by
  induction i with
  | zero => exact Nat.le_refl _
  | succ i ih => rw [rwZ_succ]; split <;> omega
def rwAc (R : Rw) : Nat := rwn R + rwZ R R.1.length
def rwA (R : Rw) (p : Nat) : Nat := if rwU R (rwF R (rwG R p)) = rwU R (rwF R (rwG R p + 1)) then rwn R + rwZ R (rwG R p) else if rwU R (p + 1) = rwU R (rwF R (rwG R p)) then rwU R (rwF R (rwG R p + 1)) - 1 else rwU R (p + 1) - 1
theorem rwZ_mono (R : Rw) {i j : Nat} (h : i ≤ j) : rwZ R i ≤ rwZ R j := by
  induction j with
  | zero => have : i = 0 := by omega
            subst this; exact Nat.le_refl _
  | succ j ih =>
    by_cases e : i = j + 1
    · subst e; exact Nat.le_refl _
    · have := ih (by omega)
      rw [rwZ_succ]; omega
theorem rwA_lt {R : Rw} (ok : rwOk R) {p : Nat} (hp : p < (rwP R).length) : rwA R p < rwAc R ∧ rwAc R ≤ 12 := by
  have o1 := ok.1
  have o2 := ok.2.1
  have z1 := rwZ_le R R.1.length
  have ua := rwU_all ok
  have hg := rwG_lt hp
  have u1 := rwU_le (R := R) (show p + 1 ≤ (rwP R).length by omega) (Nat.le_refl _)
  have f1 := rwF_le (R := R) (show rwG R p + 1 ≤ R.1.length by omega) (Nat.le_refl _)
  rw [rwF_all] at f1
  have u2 := rwU_le (R := R) f1 (Nat.le_refl _)
  have u3 := rwU_le (R := R) (rwF_le (R := R) (show rwG R p ≤ rwG R p + 1 by omega) (by omega)) f1
  refine ⟨?_, by unfold rwAc; omega⟩
  unfold rwA rwAc
  by_cases h : rwU R (rwF R (rwG R p)) = rwU R (rwF R (rwG R p + 1))
  · rw [if_pos h]
    have := rwZ_succ R (rwG R p)
    rw [if_pos h] at this
    have := rwZ_mono R (show rwG R p + 1 ≤ R.1.length by omega)
    omega
  · rw [if_neg h]
    split
    · omega
    · have u4 := rwU_succ hp
      have : rwU R (rwF R (rwG R p)) ≤ rwU R (p + 1) := by
        obtain ⟨i, j, hi, hj, rfl⟩ := rw_split hp
        rw [rwG_F hi hj]
        exact rwU_le (by omega) (by omega)
      omega
def kAr (V : km_V) (R : Rw) : Prop := V 28 0 = (rwAc R : Int) ∧ (∀ p, p < (rwP R).length → V 29 p = (rwA R p : Int))
theorem kAr.fr {V W : km_V} {R : Rw} (h : kAr V R) (h0 : W 28 0 = V 28 0) (hf : ∀ j, W 29 j = V 29 j) : kAr W R :=
  ⟨by rw [h0]; exact h.1, fun p hp => by rw [hf]; exact h.2 p hp⟩
section ARA
variable {xs : Nat → Int32} {Lx d : Nat} {V : km_V} {r : Nat} {R : Rw}
theorem sp_fill {i : Nat} {x : Int} {K : km_V → Prop} (hr : km_sh[r]? = some (5, 5)) (hr2 : r + 1 ≠ 29) (hR : kRC V r R) (ok : rwOk R) (hi : i < R.1.length) (k : ∀ W, (∀ j, j < rwL R i → W 29 (rwF R i + j) = x) → (∀ a p, ¬ (a = 29 ∧ rwF R i ≤ p ∧ p < rwF R i + rwL R i) → W a p = V a p) → K W) : kCV xs Lx (d + 0) 2 5 [.ref 28, .ref r, kI i, kI x] V K := by
  obtain ⟨h1, h2, h3, h4, h5⟩ := hR
  have o1 := ok.1
  have o2 := ok.2.1
  have o3 := ok.len
  have e1 := h3 i (by omega)
  have e2 := h3 (i + 1) (by omega)
  have e3 := rwF_succ hi
  have e4 := rwF_end hi
  refine b2_0 hr ⟨by omega, fun z hz => ?_⟩
  rw [tn, e1] at hz
  subst hz
  refine kloop (rwL R i) (fun c W => (∀ j, j < c → W 29 (rwF R i + j) = x) ∧ (∀ a p, ¬ (a = 29 ∧ rwF R i ≤ p ∧ p < rwF R i + rwL R i) → W a p = V a p)) (fun c W => kGo xs Lx (d + 0) 2 8 [some (.ref 28), some (.ref r), some (kI i), some (kI x), some (kI ((rwF R i + c : Nat) : Int))] [] W _) (fun W ⟨g1, g2⟩ => ?_) (fun c W hc ⟨g1, g2⟩ ih => ?_) 0 V (Nat.zero_le _) ⟨fun j hj => by omega, fun _ _ _ => rfl⟩
  · have q : W (r + 1) (i + 1) = _ := (g2 _ _ (by omega)).trans e2
    exact b2_8 hr ⟨by omega, by omega, by rw [tn1, q]; omega, fun _ => ⟨rfl, k W g1 g2⟩, fun h => by rw [tn1, q] at h; omega⟩
  · have q : W (r + 1) (i + 1) = _ := (g2 _ _ (by omega)).trans e2
    refine b2_8 hr ⟨by omega, by omega, by rw [tn1, q]; omega, fun h => by rw [tn1, q] at h; omega, fun h => ⟨by omega, ?_⟩⟩
    simp only [tn]
    refine ih _ ⟨fun j hj => ?_, fun a p hp => by rw [up_ne (by omega)]; exact g2 a p hp⟩
    by_cases e : j = c
    · subst e; rw [up_at]
    · rw [up_ne (by omega)]; exact g1 j (by omega)
theorem sp_numberRing {i : Nat} {K : Int → km_V → Prop} (hr : km_sh[r]? = some (5, 5)) (hr2 : r + 1 ≠ 29 ∧ r + 2 ≠ 29) (hR : kRC V r R) (ok : rwOk R) (hi : i < R.1.length) (k : ∀ W, (∀ j, j < rwL R i → W 29 (rwF R i + j) = if rwU R (rwF R i + j + 1) = rwU R (rwF R i) then V 29 (rwF R i + j) else (rwU R (rwF R i + j + 1) : Int) - 1) → (∀ a p, ¬ (a = 29 ∧ rwF R i ≤ p ∧ p < rwF R i + rwL R i) → W a p = V a p) → K (rwU R (rwF R (i + 1)) : Int) W) : kCI xs Lx (d + 1) 3 6 [.ref 28, .ref r, kI i, kI (rwU R (rwF R i) : Int)] V K := by
  obtain ⟨h1, h2, h3, h4, h5⟩ := hR
  have o1 := ok.1
  have o2 := ok.2.1
  have o3 := ok.len
  have ua := rwU_all ok
  have e1 := h3 i (by omega)
  have e2 := h3 (i + 1) (by omega)
  have e3 := rwF_succ hi
  have e4 := rwF_end hi
  refine b3_0 hr ⟨by omega, fun z hz => ?_⟩
  rw [tn, e1] at hz
  subst hz
  refine kloop (rwL R i) (fun c W => (∀ j, j < rwL R i → W 29 (rwF R i + j) = if j < c ∧ rwU R (rwF R i + j + 1) ≠ rwU R (rwF R i) then (rwU R (rwF R i + j + 1) : Int) - 1 else V 29 (rwF R i + j)) ∧ (∀ a p, ¬ (a = 29 ∧ rwF R i ≤ p ∧ p < rwF R i + rwL R i) → W a p = V a p)) (fun c W => kGo xs Lx (d + 1) 3 11 [some (.ref 28), some (.ref r), some (kI i), some (kI (rwU R (rwF R i) : Int)), some (kI (rwU R (rwF R i + c) : Int)), some (kI ((rwF R i + c : Nat) : Int))] [] W _) (fun W ⟨g1, g2⟩ => ?_) (fun c W hc ⟨g1, g2⟩ ih => ?_) 0 V (Nat.zero_le _) ⟨fun j hj => by rw [if_neg (by omega)], fun _ _ _ => rfl⟩
  · have q : W (r + 1) (i + 1) = _ := (g2 _ _ (by omega)).trans e2
    rw [← e3]
    refine b3_11 hr ⟨by omega, by omega, by rw [tn1, q]; omega, fun _ => ⟨_, rfl, k W (fun j hj => ?_) g2⟩, fun h => by rw [tn1, q] at h; omega⟩
    rw [g1 j hj]
    by_cases e : rwU R (rwF R i + j + 1) = rwU R (rwF R i)
    · rw [if_pos e, if_neg (by omega)]
    · rw [if_neg e, if_pos ⟨hj, e⟩]
  · have q : W (r + 1) (i + 1) = _ := (g2 _ _ (by omega)).trans e2
    have q2 : W (r + 2) (rwF R i + c) = _ := (g2 _ _ (by omega)).trans (h4 (rwF R i + c) (by omega))
    have us := rwU_succ (R := R) (p := rwF R i + c) (by omega)
    have ul := rwU_le (R := R) (show rwF R i + c + 1 ≤ (rwP R).length by omega) (Nat.le_refl _)
    have um := rwU_le (R := R) (show rwF R i ≤ rwF R i + c by omega) (by omega)
    rw [← Nat.add_assoc] at ih
    have upd : ∀ y : Int, y = (rwU R (rwF R i + c + 1) : Int) - 1 → rwU R (rwF R i + c + 1) ≠ rwU R (rwF R i) → (∀ j, j < rwL R i → up W 29 (rwF R i + c) y 29 (rwF R i + j) = if j < c + 1 ∧ rwU R (rwF R i + j + 1) ≠ rwU R (rwF R i) then (rwU R (rwF R i + j + 1) : Int) - 1 else V 29 (rwF R i + j)) ∧ (∀ a p, ¬ (a = 29 ∧ rwF R i ≤ p ∧ p < rwF R i + rwL R i) → up W 29 (rwF R i + c) y a p = V a p) := by
      intro y hy hne
      refine ⟨fun j hj => ?_, fun a p hp => by rw [up_ne (by omega)]; exact g2 a p hp⟩
      by_cases e : j = c
      · subst e; rw [up_at, if_pos ⟨by omega, hne⟩, hy]
      · rw [up_ne (by omega), g1 j hj]
        by_cases e' : j < c ∧ rwU R (rwF R i + j + 1) ≠ rwU R (rwF R i)
        · rw [if_pos e', if_pos ⟨by omega, e'.2⟩]
        · rw [if_neg e', if_neg (fun z => e' ⟨by omega, z.2⟩)]
    have same : rwU R (rwF R i + c + 1) = rwU R (rwF R i) → (∀ j, j < rwL R i → W 29 (rwF R i + j) = if j < c + 1 ∧ rwU R (rwF R i + j + 1) ≠ rwU R (rwF R i) then (rwU R (rwF R i + j + 1) : Int) - 1 else V 29 (rwF R i + j)) ∧ (∀ a p, ¬ (a = 29 ∧ rwF R i ≤ p ∧ p < rwF R i + rwL R i) → W a p = V a p) := by
      intro he
      refine ⟨fun j hj => ?_, g2⟩
      rw [g1 j hj]
      by_cases e' : j < c ∧ rwU R (rwF R i + j + 1) ≠ rwU R (rwF R i)
      · rw [if_pos e', if_pos ⟨by omega, e'.2⟩]
      · rw [if_neg e', if_neg]
        rintro ⟨z1, z2⟩
        refine e' ⟨?_, z2⟩
        by_cases e : j = c
        · subst e; exact absurd he z2
        · omega
    refine b3_11 hr ⟨by omega, by omega, by rw [tn1, q]; omega, fun h => by rw [tn1, q] at h; omega, fun h => ?_⟩
    simp only [tn, q2]
    refine ⟨by omega, by omega, fun h6 => ?_, fun h6 => ?_⟩
    · rw [if_pos (by omega)] at us
      rw [us] at ih upd
      refine ⟨by omega, by omega, fun h7 => by omega, fun h7 => ⟨by omega, ih _ (upd _ (by omega) (by omega))⟩⟩
    · rw [if_neg (by omega), Nat.add_zero] at us
      rw [us] at ih upd same
      rw [Int.add_zero]
      refine ⟨by omega, by omega, fun h7 => ih _ (same (by omega)), fun h7 => ⟨by omega, ih _ (upd _ rfl (by omega))⟩⟩
theorem sp_number {K : km_V → Prop} (hr : km_sh[r]? = some (5, 5)) (hr2 : r + 3 < 28 ∨ 29 < r) (hR : kRC V r R) (ok : rwOk R) (k : ∀ W, kAr W R → (∀ a j, ¬ (a = 28 ∧ j = 0 ∨ a = 29) → W a j = V a j) → K W) : kCV xs Lx (d + 2) 1 6 [.ref 28, .ref r] V K := by
  have hR0 := hR
  obtain ⟨h1, h2, h3, h4, h5⟩ := hR
  have o1 := ok.1
  have o2 := ok.2.1
  have o3 := ok.len
  have ua := rwU_all ok
  refine b1_0 hr ?_
  have u0 : (rwU R 0 : Int) = 0 := rfl
  refine kloop R.1.length (fun c W => W 28 0 = ((rwn R + rwZ R c : Nat) : Int) ∧ (∀ p, p < rwF R c → W 29 p = (rwA R p : Int)) ∧ (∀ a j, ¬ (a = 28 ∧ j = 0 ∨ a = 29) → W a j = V a j)) (fun c W => kGo xs Lx (d + 2) 1 12 [some (.ref 28), some (.ref r), some (kI (rwU R (rwF R c) : Int)), some (kI (c : Int)), none, none] [] W _) (fun W ⟨g1, g2, g3⟩ => ?_) (fun c W hc ⟨g1, g2, g3⟩ ih => ?_) 0 _ (Nat.zero_le _) ⟨by rw [up_at, h2]; rfl, fun p hp => by rw [rwF_zero] at hp; omega, fun a j ha => up_ne (by omega)⟩
  · have e0 : W r 0 = _ := (g3 _ _ (by omega)).trans h1
    exact b1_12 hr ⟨by omega, by omega, fun _ => ⟨rfl, k W ⟨g1, fun p hp => g2 p (by rw [rwF_all]; exact hp)⟩ g3⟩, fun h => by omega⟩
  · have e0 : W r 0 = _ := (g3 _ _ (by omega)).trans h1
    have e1 : W (r + 1) c = _ := (g3 _ _ (by omega)).trans (h3 c (by omega))
    have e2 : W (r + 1) (c + 1) = _ := (g3 _ _ (by omega)).trans (h3 (c + 1) (by omega))
    have e3 := rwF_succ hc
    have e4 := rwF_end hc
    have hRW : kRC W r R := hR0.fr (fun a j ha => g3 a j (by omega))
    have us := rwU_le (R := R) (show rwF R c ≤ rwF R (c + 1) by omega) (by omega)
    have ul := rwU_le (R := R) (show rwF R (c + 1) ≤ (rwP R).length by omega) (Nat.le_refl _)
    have z1 := rwZ_le R c
    have z2 := rwZ_succ R c
    refine b1_12 hr ⟨by omega, by omega, fun h => by omega, fun h => ⟨by omega, fun z hz => ?_⟩⟩
    rw [tn, e1] at hz
    subst hz
    have hh : ∀ j, j ≤ rwL R c → kGo xs Lx (d + 2) 1 31 [some (.ref 28), some (.ref r), some (kI (rwU R (rwF R c) : Int)), some (kI (c : Int)), some (kI ((rwU R (rwF R c + j) - rwU R (rwF R c) : Nat) : Int)), some (kI ((rwF R c + j : Nat) : Int))] [] W (fun r V' => r = none ∧ K V') := by
      refine kloop0 (rwL R c) _ ?_ (fun j hj ih2 => ?_)
      · rw [← e3]
        refine b1_31 hr ⟨by omega, by omega, by rw [tn1, e2]; omega, fun _ => ⟨by omega, fun h6 => ?_, fun h6 => ?_⟩, fun h => by rw [tn1, e2] at h; omega⟩
        · -- a ring with passes under
          have hne : ¬ rwU R (rwF R c) = rwU R (rwF R (c + 1)) := by omega
          have z3 : rwZ R (c + 1) = rwZ R c := by rw [z2, if_neg hne]; rfl
          have ex : (rwU R (rwF R c) : Int) + ((rwU R (rwF R (c + 1)) - rwU R (rwF R c) : Nat) : Int) - 1 = ((rwU R (rwF R (c + 1)) - 1 : Nat) : Int) := by omega
          rw [ex]
          refine sp_fill hr (by omega) hRW ok hc (fun W1 j1 f1 => ?_)
          have hR1 : kRC W1 r R := hRW.fr (fun a j ha => f1 a j (by omega))
          refine sp_numberRing hr (by omega) hR1 ok hc (fun W2 j2 f2 => ?_)
          refine ih W2 ⟨by rw [f2 _ _ (by omega), f1 _ _ (by omega), g1, z3], fun p hp => ?_, fun a j ha => by rw [f2 _ _ (by omega), f1 _ _ (by omega)]; exact g3 a j ha⟩
          by_cases e : p < rwF R c
          · rw [f2 _ _ (by omega), f1 _ _ (by omega)]; exact g2 p e
          · obtain ⟨j, rfl⟩ : ∃ j, p = rwF R c + j := ⟨p - rwF R c, by omega⟩
            have hj : j < rwL R c := by omega
            rw [j2 j hj]
            unfold rwA
            rw [rwG_F hc hj, if_neg hne]
            by_cases e5 : rwU R (rwF R c + j + 1) = rwU R (rwF R c)
            · rw [if_pos e5, if_pos e5, j1 j hj]
            · have := rwU_le (R := R) (show rwF R c ≤ rwF R c + j + 1 by omega) (by omega)
              rw [if_neg e5, if_neg e5]; omega
        · rw [if_pos (by omega)] at z2
          rw [g1]
          refine sp_fill hr (by omega) hRW ok hc (fun W1 j1 f1 => ?_)
          have ey : (rwU R (rwF R c) : Int) = (rwU R (rwF R (c + 1)) : Int) := by omega
          rw [ey]
          refine ih _ ⟨by rw [up_at, f1 _ _ (by omega), g1, z2]; omega, fun p hp => ?_, fun a j ha => by rw [up_ne (by omega), f1 _ _ (by omega)]; exact g3 a j ha⟩
          rw [up_ne (by omega)]
          by_cases e : p < rwF R c
          · rw [f1 _ _ (by omega)]; exact g2 p e
          · obtain ⟨j, rfl⟩ : ∃ j, p = rwF R c + j := ⟨p - rwF R c, by omega⟩
            have hj : j < rwL R c := by omega
            rw [j1 j hj]
            unfold rwA
            rw [rwG_F hc hj, if_pos (by omega)]
      · have q2 : W (r + 2) (rwF R c + j) = _ := (g3 _ _ (by omega)).trans (h4 (rwF R c + j) (by omega))
        have ut := rwU_succ (R := R) (p := rwF R c + j) (by omega)
        have um := rwU_le (R := R) (show rwF R c ≤ rwF R c + j by omega) (by omega)
        have un := rwU_le (R := R) (show rwF R c + j ≤ (rwP R).length by omega) (Nat.le_refl _)
        rw [← Nat.add_assoc] at ih2
        rw [ut] at ih2
        refine b1_31 hr ⟨by omega, by omega, by rw [tn1, e2]; omega, fun h => by rw [tn1, e2] at h; omega, fun h => ?_⟩
        simp only [tn, q2]
        refine ⟨by omega, by omega, fun h6 => ?_, fun h6 => ?_⟩
        · rw [if_pos (by omega), show rwU R (rwF R c + j) + 1 - rwU R (rwF R c) = rwU R (rwF R c + j) - rwU R (rwF R c) + 1 by omega] at ih2
          exact ih2
        · rw [if_neg (by omega), Nat.add_zero] at ih2
          rw [Int.add_zero]
          exact ih2
    have h0 := hh 0 (Nat.zero_le _)
    simp only [Nat.add_zero, Nat.sub_self] at h0
    exact h0
end ARA

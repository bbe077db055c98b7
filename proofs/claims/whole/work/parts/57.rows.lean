/-! the rows of numbers that crossings make of arcs -/
def rwPos (R : Rw) (x : Nat) : Nat := match (List.range (rwP R).length).find? (fun p => (rwP R).getD p 0 == x) with
  | some p => p
  | none => 0
theorem rwPos_eq {R : Rw} (ok : rwOk R) {p x : Nat} (hp : p < (rwP R).length) (e : (rwP R).getD p 0 = x) : rwPos R x = p := by
  have l := ok.len
  unfold rwPos
  rw [find_uni hp e (fun q hq h => ok.inj (by omega) (by omega) (h.trans e.symm))]
theorem rwPos_s {R : Rw} (ok : rwOk R) {x : Nat} (hx : x < 2 * rwn R) : rwPos R x < (rwP R).length ∧ (rwP R).getD (rwPos R x) 0 = x := by
  have l := ok.len
  obtain ⟨p, hp, e⟩ := ok.sur hx
  rw [rwPos_eq ok (by omega) e]
  exact ⟨by omega, e⟩
def rwM (R : Rw) (c a : Nat) : Int := (if a = rwA R (rwPos R (2 * c + 1)) then 2 else 0) - (if a = rwA R (rwPos R (2 * c)) then 1 else 0) - (if a = rwA R (rwAh R (rwPos R (2 * c))) then 1 else 0)
theorem rwM_r (R : Rw) (c a : Nat) : -2 ≤ rwM R c a ∧ rwM R c a ≤ 2 := by
  unfold rwM
  split <;> split <;> split <;> omega
theorem rwM_at (R : Rw) (c a : Nat) : rwM R c a = (if a = rwA R (rwPos R (2 * c + 1)) then 2 else 0) - (if a = rwA R (rwPos R (2 * c)) then 1 else 0) - (if a = rwA R (rwAh R (rwPos R (2 * c))) then 1 else 0) := rfl
section WRA
variable {xs : Nat → Int32} {Lx d : Nat} {V : km_V} {t r : Nat} {R : Rw}
theorem sp_writeRows {K : km_V → Prop} (hr : km_sh[r]? = some (5, 5)) (ht : km_sh[t]? = some (2, 11)) (apr : r + 3 < 31 ∨ 38 < r) (apt : t + 10 < 31 ∨ 38 < t) (hR : kRC V r R) (ok : rwOk R) (hE : kDE V t R) (hA : kAr V R) (k : ∀ W, (∀ c a, c < rwn R → a < 12 → W (31 + c) a = rwM R c a) → (∀ b j, ¬ (31 ≤ b ∧ b ≤ 38) → W b j = V b j) → K W) : kCV xs Lx (d + 0) 4 5 [.ref 28, .ref r, .ref t] V K := by
  have o1 := ok.1
  have o2 := ok.2.1
  have o3 := ok.len
  refine c4_0 hr ht ?_
  refine kloop (rwn R) (fun c W => (∀ c' a, c' < c → a < 12 → W (31 + c') a = rwM R c' a) ∧ (∀ b j, ¬ (31 ≤ b ∧ b ≤ 38) → W b j = V b j)) (fun c W => kGo xs Lx (d + 0) 4 2 [some (.ref 28), some (.ref r), some (.ref t), some (kI (c : Int)), none] [] W _) (fun W ⟨g1, g2⟩ => ?_) (fun c W hc ⟨g1, g2⟩ ih => ?_) 0 V (Nat.zero_le _) ⟨fun c' a hc' => by omega, fun _ _ _ => rfl⟩
  · have e1 : W r 1 = _ := (g2 _ _ (by omega)).trans hR.2.1
    exact c4_2 hr ht ⟨by omega, by omega, fun _ => ⟨rfl, k W g1 g2⟩, fun h => by omega⟩
  · have e1 : W r 1 = _ := (g2 _ _ (by omega)).trans hR.2.1
    obtain ⟨p1, p2⟩ := rwPos_s ok (x := 2 * c + 1) (by omega)
    obtain ⟨u1, u2⟩ := rwPos_s ok (x := 2 * c) (by omega)
    have v1 : V (t + 4) c = (rwPos R (2 * c + 1) : Int) := by
      have := (hE.2.1 _ p1).1 (by omega)
      rwa [p2, show (2 * c + 1) / 2 = c by omega] at this
    have v2 : V (t + 5) c = (rwPos R (2 * c) : Int) := by
      have := (hE.2.1 _ u1).2 (by omega)
      rwa [u2, show 2 * c / 2 = c by omega] at this
    have v3 := (hE.1 _ u1).2.1
    have a1 := rwAh_lt u1
    have w1 := hA.2 _ p1
    have w2 := hA.2 _ u1
    have w3 := hA.2 _ a1
    have l1 := rwA_lt ok p1
    have l2 := rwA_lt ok u1
    have l3 := rwA_lt ok a1
    refine c4_2 hr ht ⟨by omega, by omega, fun h => by omega, fun h => ?_⟩
    refine kloop 12 (fun m W' => (∀ c' a, c' < c → a < 12 → W' (31 + c') a = rwM R c' a) ∧ (∀ a, a < m → W' (31 + c) a = 0) ∧ (∀ b j, ¬ (31 ≤ b ∧ b ≤ 38) → W' b j = V b j)) (fun m W' => kGo xs Lx (d + 0) 4 13 [some (.ref 28), some (.ref r), some (.ref t), some (kI (c : Int)), some (kI (m : Int))] [] W' _) (fun W' ⟨h1, h2, h3⟩ => ?_) (fun m W' hm ⟨h1, h2, h3⟩ ih2 => ?_) 0 W (Nat.zero_le _) ⟨g1, fun a ha => by omega, g2⟩
    · refine c4_13 hr ht ⟨by omega, fun _ => ⟨by omega, fun z hz => ?_⟩, fun h => by omega⟩
      rw [tn, h3 _ _ (by omega), v2] at hz
      subst hz
      refine c4_44 hr ht ?_
      simp only [tn, h3 (t + 4) c (by omega), v1, h3 29 (rwPos R (2 * c + 1)) (by omega), w1]
      refine ⟨by omega, by omega, by omega, c4_68 hr ht ?_⟩
      simp only [tn]
      rw [up_ne (show ¬ (29 = 31 + 1 * c ∧ _) by omega), h3 29 _ (by omega), w2]
      simp only [tn]
      refine ⟨by omega, by omega, by omega, c4_86 hr ht ?_⟩
      simp only [tn]
      rw [up_ne (show ¬ (t + 2 = 31 + 1 * c ∧ _) by omega), up_ne (show ¬ (t + 2 = 31 + 1 * c ∧ _) by omega), h3 (t + 2) _ (by omega), v3]
      simp only [tn]
      rw [up_ne (show ¬ (29 = 31 + 1 * c ∧ _) by omega), up_ne (show ¬ (29 = 31 + 1 * c ∧ _) by omega), h3 29 _ (by omega), w3]
      simp only [tn]
      refine ⟨by omega, by omega, by omega, by omega, ih _ ⟨fun c' a hc' ha => ?_, fun b j hb => by rw [up_ne (by omega), up_ne (by omega), up_ne (by omega)]; exact h3 b j hb⟩⟩
      by_cases e : c' = c
      · subst e
        rw [rwM_at, show 31 + c' = 31 + 1 * c' by omega]
        have z0 := h2 a ha
        have z1 := h2 (rwA R (rwPos R (2 * c' + 1))) (by omega)
        have z2 := h2 (rwA R (rwPos R (2 * c'))) (by omega)
        have z3 := h2 (rwA R (rwAh R (rwPos R (2 * c')))) (by omega)
        rw [show 31 + c' = 31 + 1 * c' by omega] at z0 z1 z2 z3
        unfold up
        simp only [true_and, z0, z1, z2, z3]
        by_cases q1 : a = rwA R (rwPos R (2 * c' + 1)) <;> by_cases q2 : a = rwA R (rwPos R (2 * c')) <;> by_cases q3 : a = rwA R (rwAh R (rwPos R (2 * c'))) <;> by_cases q4 : rwA R (rwPos R (2 * c')) = rwA R (rwPos R (2 * c' + 1)) <;> by_cases q5 : rwA R (rwAh R (rwPos R (2 * c'))) = rwA R (rwPos R (2 * c')) <;> by_cases q6 : rwA R (rwAh R (rwPos R (2 * c'))) = rwA R (rwPos R (2 * c' + 1)) <;> first | (exfalso; omega) | (simp only [q1, q2, q3, q4, q5, q6, if_true, if_false]; try omega)
      · rw [up_ne (by omega), up_ne (by omega), up_ne (by omega)]
        exact h1 c' a (by omega) ha
    · refine c4_13 hr ht ⟨by omega, fun h => by omega, fun h => ⟨by omega, by omega, ?_⟩⟩
      simp only [tn]
      refine ih2 _ ⟨fun c' a hc' ha => by rw [up_ne (by omega)]; exact h1 c' a hc' ha, fun a ha => ?_, fun b j hb => by rw [up_ne (by omega)]; exact h3 b j hb⟩
      by_cases e : a = m
      · subst e; rw [show 31 + c = 31 + 1 * c by omega, up_at]
      · rw [up_ne (by omega)]; exact h2 a (by omega)
theorem sp_laysRows {K : Int → km_V → Prop} (hR : kRf (V 307) R) (ok : rwOk R) (k : ∀ W, kME W R → (∀ c a, c < rwn R → a < 12 → W 332 (12 * c + a) = rwM R c a) → (∀ b j, ¬ (b = 299 ∧ j = 25 ∨ 313 ≤ b ∧ b ≤ 318 ∨ b = 331 ∨ b = 332) → W b j = V b j) → K (rwAc R : Int) W) : kCI xs Lx (d + 3) 204 4 [.ref 299] V K := by
  have o1 := ok.1
  have o2 := ok.2.1
  have o3 := ok.len
  refine c204_0 (sp_laysArcs rfl (by omega) hR ok (fun W0 hE hA f0 => ?_))
  have R1 : W0 307 1 = (rwn R : Int) := (f0 _ _ (by omega)).trans hR.2.1
  refine kloop 96 (fun m W => (∀ a, a < m → W 332 a = 0) ∧ (∀ b j, b ≠ 332 → W b j = W0 b j)) (fun m W => kGo xs Lx (d + 3) 204 11 [some (.ref 299), some (kI (rwAc R : Int)), some (kI (m : Int)), none] [] W _) (fun W ⟨g1, g2⟩ => ?_) (fun m W hm ⟨g1, g2⟩ ih => ?_) 0 W0 (Nat.zero_le _) ⟨fun a ha => by omega, fun _ _ _ => rfl⟩
  · refine c204_11 ⟨by omega, fun _ => ?_, fun h => by omega⟩
    refine kloop (rwn R) (fun c W => (∀ c' a, c' < c → a < 12 → W 332 (12 * c' + a) = rwM R c' a) ∧ (∀ j, 12 * c ≤ j → j < 96 → W 332 j = 0) ∧ (∀ b j, b ≠ 332 → W b j = W0 b j)) (fun c W => kGo xs Lx (d + 3) 204 32 [some (.ref 299), some (kI (rwAc R : Int)), some (kI (c : Int)), none] [] W _) (fun W ⟨h1, h2, h3⟩ => ?_) (fun c W hc ⟨h1, h2, h3⟩ ih => ?_) 0 W (Nat.zero_le _) ⟨fun c' a hc' => by omega, fun j _ hj => g1 j hj, g2⟩
    · have e1 : W 307 1 = _ := (h3 _ _ (by omega)).trans R1
      refine c204_32 ⟨by omega, by simp only [tnn1]; omega, fun _ => ⟨_, rfl, k W ?_ h1 (fun b j hb => by rw [h3 b j (by omega)]; exact f0 b j (by omega))⟩, fun h => by simp only [tnn1] at h; omega⟩
      exact hE.fr (h3 _ _ (by omega)) (fun b j hb => h3 b j (by omega))
    · have e1 : W 307 1 = _ := (h3 _ _ (by omega)).trans R1
      have hEW : kME W R := hE.fr (h3 _ _ (by omega)) (fun b j hb => h3 b j (by omega))
      obtain ⟨p1, p2⟩ := rwPos_s ok (x := 2 * c + 1) (by omega)
      obtain ⟨u1, u2⟩ := rwPos_s ok (x := 2 * c) (by omega)
      have a1 := rwAh_lt u1
      have w1 : W 331 _ = _ := (h3 _ _ (by omega)).trans (hA _ p1)
      have w2 : W 331 _ = _ := (h3 _ _ (by omega)).trans (hA _ u1)
      have w3 : W 331 _ = _ := (h3 _ _ (by omega)).trans (hA _ a1)
      have l1 := rwA_lt ok p1
      have l2 := rwA_lt ok u1
      have l3 := rwA_lt ok a1
      refine c204_32 ⟨by omega, by simp only [tnn1]; omega, fun h => by simp only [tnn1] at h; omega, fun h => ?_⟩
      refine sp_passAt (o := 0) ok hEW hc (by omega) (fun p hp hx => ?_)
      have : p = rwPos R (2 * c) := (rwPos_eq ok hp (by omega)).symm
      subst this
      refine c204_49 (sp_passAt (o := 1) ok hEW hc (by omega) (fun p hp hx => ?_))
      have : p = rwPos R (2 * c + 1) := (rwPos_eq ok hp (by omega)).symm
      subst this
      have i1 : Int.toNat (12 * (c : Int) + (rwA R (rwPos R (2 * c + 1)) : Int)) = 12 * c + rwA R (rwPos R (2 * c + 1)) := rfl
      have i2 : Int.toNat (12 * (c : Int) + (rwA R (rwPos R (2 * c)) : Int)) = 12 * c + rwA R (rwPos R (2 * c)) := rfl
      have i3 : Int.toNat (12 * (c : Int) + (rwA R (rwAh R (rwPos R (2 * c))) : Int)) = 12 * c + rwA R (rwAh R (rwPos R (2 * c))) := rfl
      simp only [tn, w1, i1]
      refine ⟨by omega, by omega, c204_76 ?_⟩
      simp only [tn]
      rw [up_nea (by omega), w2]
      simp only [i2]
      refine ⟨by omega, by omega, c204_96 ?_⟩
      simp only [tn]
      rw [up_nea (by omega), up_nea (by omega), (hEW.2.1 _ u1).2.2.2]
      simp only [tn]
      rw [up_nea (by omega), up_nea (by omega), w3]
      simp only [i3]
      refine ⟨by omega, by omega, by omega, ih _ ⟨fun c' a hc' ha => ?_, fun j hj hj2 => by rw [up_ne (by omega), up_ne (by omega), up_ne (by omega)]; exact h2 j (by omega) hj2, fun b j hb => by rw [up_ne (by omega), up_ne (by omega), up_ne (by omega)]; exact h3 b j hb⟩⟩
      by_cases e : c' = c
      · subst e
        rw [rwM_at]
        have z0 := h2 (12 * c' + a) (by omega) (by omega)
        have z1 := h2 (12 * c' + rwA R (rwPos R (2 * c' + 1))) (by omega) (by omega)
        have z2 := h2 (12 * c' + rwA R (rwPos R (2 * c'))) (by omega) (by omega)
        have z3 := h2 (12 * c' + rwA R (rwAh R (rwPos R (2 * c')))) (by omega) (by omega)
        unfold up
        simp only [true_and, z0, z1, z2, z3, Nat.add_left_cancel_iff]
        by_cases q1 : a = rwA R (rwPos R (2 * c' + 1)) <;> by_cases q2 : a = rwA R (rwPos R (2 * c')) <;> by_cases q3 : a = rwA R (rwAh R (rwPos R (2 * c'))) <;> by_cases q4 : rwA R (rwPos R (2 * c')) = rwA R (rwPos R (2 * c' + 1)) <;> by_cases q5 : rwA R (rwAh R (rwPos R (2 * c'))) = rwA R (rwPos R (2 * c')) <;> by_cases q6 : rwA R (rwAh R (rwPos R (2 * c'))) = rwA R (rwPos R (2 * c' + 1)) <;> first | (exfalso; omega) | (simp only [q1, q2, q3, q4, q5, q6, if_true, if_false]; try omega)
      · rw [up_ne (by omega), up_ne (by omega), up_ne (by omega)]
        exact h1 c' a (by omega) ha
  · refine c204_11 ⟨by omega, fun h => by omega, fun h => ⟨by omega, ih _ ⟨fun a ha => ?_, fun b j hb => by rw [up_ne (by omega)]; exact g2 b j hb⟩⟩⟩
    by_cases e : a = m
    · subst e; exact up_at _ _ _ _
    · rw [up_ne (by rw [tn]; omega)]; exact g1 a (by omega)
end WRA

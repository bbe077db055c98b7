/-! the model's edges -/
def kME (V : km_V) (R : Rw) : Prop := V 299 25 = ((rwP R).length : Int) ∧ (∀ p, p < (rwP R).length → V 313 p = ((rwP R).getD p 0 : Int) ∧ V 314 p = (rwG R p : Int) ∧ V 315 p = (rwNx R p : Int) ∧ V 316 p = (rwAh R p : Int)) ∧ (∀ e, e < 2 * (rwP R).length → V 317 e = ((rwLv R e / 2 : Nat) : Int) ∧ V 318 e = ((rwLv R e % 2 : Nat) : Int))
theorem kME.fr {V W : km_V} {R : Rw} (h : kME V R) (h0 : W 299 25 = V 299 25) (hf : ∀ a j, 313 ≤ a ∧ a ≤ 318 → W a j = V a j) : kME W R := by
  obtain ⟨h1, h2, h3⟩ := h
  refine ⟨by rw [h0]; exact h1, fun p hp => ?_, fun e he => ?_⟩
  · rw [hf _ p (by omega), hf _ p (by omega), hf _ p (by omega), hf _ p (by omega)]; exact h2 p hp
  · rw [hf _ _ (by omega), hf _ _ (by omega)]; exact h3 e he
theorem kein_eq {V : km_V} {a p : Nat} {R : Rw} (hR : kRf (V a) R) (ok : rwOk R) (hp : p < (rwP R).length) (h1 : V 313 p = ((rwP R).getD p 0 : Int)) : kein V a p = (rwE R p : Int) ∧ keinC V a p := by
  have l := ok.len
  have l1 := ok.lt p (by omega)
  have o2 := ok.2.1
  have h5 := hR.2.2.2.2 ((rwP R).getD p 0 / 2) (by omega)
  have sg := ok.sg ((rwP R).getD p 0 / 2) (by omega)
  have e1 : Int.toNat (70 + (((rwP R).getD p 0 : Nat) : Int) / 2) = 70 + (rwP R).getD p 0 / 2 := rfl
  constructor
  · unfold kein rwE
    rw [tn, h1, e1, h5]
    by_cases h : (rwP R).getD p 0 % 2 = 0
    · rw [if_pos h, if_pos (by omega)]; rfl
    · rw [if_neg h, if_neg (by omega)]
      split <;> rfl
  · unfold keinC
    rw [tn, h1, e1, h5]
    exact ⟨by omega, by omega, by omega⟩
section MEA
variable {xs : Nat → Int32} {Lx d : Nat} {V : km_V} {a : Nat} {R : Rw}
theorem sp_laysEdges {K : km_V → Prop} (ha : km_sh[a]? = some (11, 78)) (ha2 : ¬ (313 ≤ a ∧ a ≤ 318)) (hR : kRf (V a) R) (ok : rwOk R) (k : ∀ W, kME W R → (∀ b j, ¬ (b = 299 ∧ j = 25 ∨ 313 ≤ b ∧ b ≤ 318) → W b j = V b j) → K W) : kCV xs Lx (d + 1) 157 6 [.ref 299, .ref a] V K := by
  have hR0 := hR
  obtain ⟨h1, h2, h3, h4, h5⟩ := hR
  have o1 := ok.1
  have o2 := ok.2.1
  have o3 := ok.len
  have a9 : a ≠ 299 := fun z => by subst z; exact absurd ha (by decide)
  refine b157_0 ha ?_
  refine kloop R.1.length (fun c W => W 299 25 = (rwF R c : Int) ∧ (∀ p, p < rwF R c → W 313 p = ((rwP R).getD p 0 : Int) ∧ W 314 p = (rwG R p : Int) ∧ W 315 p = (rwNx R p : Int) ∧ W 316 p = (rwAh R p : Int)) ∧ (∀ b j, ¬ (b = 299 ∧ j = 25 ∨ 313 ≤ b ∧ b ≤ 318) → W b j = V b j))
    (fun c W => kGo xs Lx (d + 1) 157 7 [some (.ref 299), some (.ref a), some (kI (c : Int)), none, none, none] [] W _) (fun W ⟨f0, f1, f2⟩ => ?_) (fun c W hc ⟨f0, f1, f2⟩ ih => ?_) 0 _ (Nat.zero_le _) ⟨up_at _ _ _ _, fun p hp => by rw [rwF_zero] at hp; omega, fun b j hb => up_ne (by omega)⟩
  · have e0 : W a 0 = _ := (f2 a 0 (by omega)).trans h1
    rw [rwF_all] at f0 f1
    refine b157_7 ha ⟨by omega, by simp only [tn0]; omega, fun _ => ?_, fun h => by simp only [tn0] at h; omega⟩
    have lR : ∀ W' : km_V, (∀ b j, ¬ (b = 299 ∧ j = 25 ∨ 313 ≤ b ∧ b ≤ 318) → W' b j = V b j) → kRf (W' a) R := fun W' hW => hR0.fr ok (fun j _ => hW a j (by omega))
    refine kloop (rwP R).length (fun c W' => W' 299 25 = ((rwP R).length : Int) ∧ (∀ p, p < (rwP R).length → W' 313 p = ((rwP R).getD p 0 : Int) ∧ W' 314 p = (rwG R p : Int) ∧ W' 315 p = (rwNx R p : Int) ∧ W' 316 p = (rwAh R p : Int)) ∧ (∀ p, p < c → W' 317 (rwI R p) = (rwAh R p : Int) ∧ W' 318 (rwI R p) = 1 ∧ W' 317 (rwO R p) = (p : Int) ∧ W' 318 (rwO R p) = 0) ∧ (∀ b j, ¬ (b = 299 ∧ j = 25 ∨ 313 ≤ b ∧ b ≤ 318) → W' b j = V b j))
      (fun c W' => kGo xs Lx (d + 1) 157 130 [some (.ref 299), some (.ref a), some (kI (c : Int)), none, none, none] [] W' _) (fun W' ⟨g0, g1, g2, g3⟩ => ?_) (fun c W' hc ⟨g0, g1, g2, g3⟩ ih => ?_) 0 W (Nat.zero_le _) ⟨f0, f1, fun p hp => by omega, f2⟩
    · refine b157_130 ha ⟨by omega, by omega, fun _ => ⟨rfl, k W' ⟨g0, g1, fun e he => ?_⟩ g3⟩, fun h => by omega⟩
      obtain ⟨p, hp, h | h⟩ := rwIO_all ok he
      · obtain ⟨b1, b2, b3, b4⟩ := g2 p hp
        rw [h, rwLv_I ok hp, b1, b2]
        exact ⟨by omega, by omega⟩
      · obtain ⟨b1, b2, b3, b4⟩ := g2 p hp
        rw [h, rwLv_O ok hp, b3, b4]
        exact ⟨by omega, by omega⟩
    · obtain ⟨q1, q2, q3, q4⟩ := g1 c hc
      obtain ⟨k1, k2⟩ := kein_eq (lR W' g3) ok hc q1
      have l1 := ok.lt c (by omega)
      have lI := rwI_lt ok hc
      have lO := rwO_lt ok hc
      have cE := rwE_c R c
      have eI : 4 * (((rwP R).getD c 0 / 2 : Nat) : Int) + (rwE R c : Int) = (rwI R c : Int) := by unfold rwI; omega
      have eO : 4 * (((rwP R).getD c 0 / 2 : Nat) : Int) + ((rwE R c : Int) + 2) % 4 = (rwO R c : Int) := by unfold rwO; omega
      refine b157_130 ha ⟨by omega, by omega, fun h => by omega, fun h => ?_⟩
      simp only [tn, q1, q4]
      refine ⟨by omega, by omega, fun z hz => ⟨k2, fun z2 hz2 => ?_⟩⟩
      have hz : z = (((rwP R).getD c 0 / 2 : Nat) : Int) := hz
      rw [k1] at hz2
      subst hz hz2
      rw [eI, eO]
      simp only [tn]
      refine ⟨by omega, by omega, by omega, ih _ ⟨by rw [up_ne (by omega), up_ne (by omega), up_ne (by omega), up_ne (by omega)]; exact g0, fun p hp => by simp only [up_nea, ne_eq, reduceCtorEq, not_false_eq_true, Nat.reduceEqDiff]; exact g1 p hp, fun p hp => ?_, fun b j hb => by rw [up_ne (by omega), up_ne (by omega), up_ne (by omega), up_ne (by omega)]; exact g3 b j hb⟩⟩
      have n1 := rwIO ok (show p < _ by omega) hc
      have n2 := rwIO ok hc (show p < _ by omega)
      by_cases e : p = c
      · subst e
        refine ⟨?_, ?_, ?_, ?_⟩
        · rw [up_ne (by omega), up_ne (by omega), up_ne (by omega), up_at]
        · rw [up_ne (by omega), up_ne (by omega), up_at]
        · rw [up_ne (by omega), up_at]
        · rw [up_at]
      · obtain ⟨b1, b2, b3, b4⟩ := g2 p (by omega)
        have n3 : rwI R p ≠ rwI R c := fun z => e (rwI_inj ok (by omega) hc z)
        have n4 : rwO R p ≠ rwO R c := fun z => e (rwO_inj ok (by omega) hc z)
        refine ⟨?_, ?_, ?_, ?_⟩
        · rw [up_ne (by omega), up_ne (by omega), up_ne (by omega), up_ne (by omega)]; exact b1
        · rw [up_ne (by omega), up_ne (by omega), up_ne (by omega), up_ne (by omega)]; exact b2
        · rw [up_ne (by omega), up_ne (by omega), up_ne (by omega), up_ne (by omega)]; exact b3
        · rw [up_ne (by omega), up_ne (by omega), up_ne (by omega), up_ne (by omega)]; exact b4
  · have e0 : W a 0 = _ := (f2 a 0 (by omega)).trans h1
    have e1 : W a (2 + c) = _ := (f2 a _ (by omega)).trans (h3 c hc)
    have e3 := rwF_succ hc
    have e4 := rwF_end hc
    refine b157_7 ha ⟨by omega, by simp only [tn0]; omega, fun h => by simp only [tn0] at h; omega, fun h => ⟨by omega, fun z hz => ?_⟩⟩
    rw [tn_2, e1] at hz
    subst hz
    rw [f0]
    refine kloop (rwL R c) (fun j W' => W' 299 25 = ((rwF R c + j : Nat) : Int) ∧ (∀ p, p < rwF R c + j → W' 313 p = ((rwP R).getD p 0 : Int) ∧ W' 314 p = (rwG R p : Int) ∧ W' 315 p = (rwNx R p : Int) ∧ W' 316 p = (rwAh R p : Int)) ∧ (∀ b j, ¬ (b = 299 ∧ j = 25 ∨ 313 ≤ b ∧ b ≤ 318) → W' b j = V b j))
      (fun j W' => kGo xs Lx (d + 1) 157 29 [some (.ref 299), some (.ref a), some (kI (c : Int)), some (kI (rwF R c : Int)), some (kI (rwL R c : Int)), some (kI (j : Int))] [] W' _) (fun W' ⟨g0, g1, g2⟩ => ?_) (fun j W' hj ⟨g0, g1, g2⟩ ih2 => ?_) 0 W (Nat.zero_le _) ⟨f0, f1, f2⟩
    · refine b157_29 ha ⟨by omega, by omega, fun _ => ih W' ⟨by rw [g0, e3], by rw [e3]; exact g1, g2⟩, fun h => by omega⟩
    · have e5 : W' a (6 + 16 * c + j) = _ := (g2 a _ (by omega)).trans (h4 c j hc hj)
      have n1 := rwNx_F hc hj
      have n2 := rwAh_F hc hj
      have m1 : (rwF R c : Int) + (((j : Int) + 1) % (rwL R c : Int)) = (rwNx R (rwF R c + j) : Int) := by
        rw [n1]
        by_cases q : j + 1 < rwL R c
        · rw [if_pos q, Int.emod_eq_of_lt (by omega) (by omega)]; omega
        · rw [if_neg q, show (j : Int) + 1 = (rwL R c : Int) by omega, Int.emod_self]; omega
      have m2 : (rwF R c : Int) + (((j : Int) + (rwL R c : Int) - 1) % (rwL R c : Int)) = (rwAh R (rwF R c + j) : Int) := by
        rw [n2]
        by_cases q : j = 0
        · subst q
          rw [if_pos rfl, Int.emod_eq_of_lt (by omega) (by omega)]; omega
        · rw [if_neg q, show (j : Int) + (rwL R c : Int) - 1 = ((j : Int) - 1) + (rwL R c : Int) by omega, Int.add_emod_right, Int.emod_eq_of_lt (by omega) (by omega)]; omega
      refine b157_29 ha ⟨by omega, by omega, fun h => by omega, fun h => ?_⟩
      simp only [tn, tn_6, g0, e5, m1, m2, up_nea, up_at, ne_eq, reduceCtorEq, not_false_eq_true, Nat.reduceEqDiff]
      refine ⟨by omega, by omega, by omega, by omega, by omega, by omega, by omega, by omega, ih2 _ ⟨up_at _ _ _ _, fun p hp => ?_, fun b j hb => by rw [up_ne (by omega), up_ne (by omega), up_ne (by omega), up_ne (by omega), up_ne (by omega)]; exact g2 b j hb⟩⟩
      by_cases e : p = rwF R c + j
      · subst e
        rw [up_nea (by decide), up_nea (by decide), up_nea (by decide), up_nea (by decide), up_at, rwG_F hc hj, rwP_at hc hj]
        refine ⟨rfl, ?_, ?_, ?_⟩
        · rw [up_nea (by decide), up_nea (by decide), up_nea (by decide), up_at]
        · rw [up_nea (by decide), up_nea (by decide), up_at]
        · rw [up_nea (by decide), up_at]
      · rw [up_ne (by omega), up_ne (by omega), up_ne (by omega), up_ne (by omega), up_ne (by omega), up_ne (by omega), up_ne (by omega), up_ne (by omega), up_ne (by omega), up_ne (by omega), up_ne (by omega), up_ne (by omega), up_ne (by omega), up_ne (by omega), up_ne (by omega), up_ne (by omega), up_ne (by omega), up_ne (by omega), up_ne (by omega), up_ne (by omega)]
        exact g1 p (by omega)
end MEA

/-! the model's kinds of faces -/
theorem bc2 : ∀ a, a < 8 → ∀ b, b < 8 → (rwBc (0 ||| 2 ^ a ||| 2 ^ b) = 2 ↔ a ≠ b) := by decide +kernel
theorem bc3 : ∀ a, a < 8 → ∀ b, b < 8 → ∀ c, c < 8 → (rwBc (0 ||| 2 ^ a ||| 2 ^ b ||| 2 ^ c) = 3 ↔ (a ≠ b ∧ a ≠ c ∧ b ≠ c)) := by decide +kernel
theorem lv2 : ∀ a, a < 3 → ∀ b, b < 3 → (0 ||| 2 ^ a ||| 2 ^ b = 5 ↔ (a + b = 2 ∧ a ≠ 1)) := by decide
theorem list2 {l : List Nat} (h : l.length = 2) : l = [l.getD 0 0, l.getD 1 0] := by
  match l, h with
  | [a, b], _ => rfl
theorem list3 {l : List Nat} (h : l.length = 3) : l = [l.getD 0 0, l.getD 1 0, l.getD 2 0] := by
  match l, h with
  | [a, b, c], _ => rfl
theorem rwKind2 {R : Rw} (ok : rwOk R) {a b : Nat} (ha : a < 2 * (rwP R).length) (hb : b < 2 * (rwP R).length) : rwKind R [a, b] = if rwCb R a = rwCb R b then 0 else if rwOv R (a / 2) + rwOv R (b / 2) = 2 ∧ rwOv R (a / 2) ≠ 1 then 2 else 0 := by
  have o2 := ok.2.1
  have c1 := rwCb_lt ok ha
  have c2 := rwCb_lt ok hb
  have v1 := rwOv_lt R (a / 2)
  have v2 := rwOv_lt R (b / 2)
  have e1 := bc2 (rwCb R a) (by omega) (rwCb R b) (by omega)
  have e2 := lv2 (rwOv R (a / 2)) (by omega) (rwOv R (b / 2)) (by omega)
  have x1 : rwXs R [a, b] = 0 ||| 2 ^ rwCb R a ||| 2 ^ rwCb R b := rfl
  have x2 : rwLs R [a, b] = 0 ||| 2 ^ rwOv R (a / 2) ||| 2 ^ rwOv R (b / 2) := rfl
  unfold rwKind
  rw [x1, x2]
  simp only [List.length_cons, List.length_nil]
  by_cases q : rwCb R a = rwCb R b
  · rw [if_neg (by omega), if_pos (Or.inr (fun z => (e1.mp z) q)), if_pos q]
  · rw [if_neg (by omega), if_neg (by intro z; rcases z with z | z; omega; exact z (e1.mpr q)), if_neg q, if_pos trivial]
    by_cases q2 : rwOv R (a / 2) + rwOv R (b / 2) = 2 ∧ rwOv R (a / 2) ≠ 1
    · rw [if_pos q2, if_pos (e2.mpr q2)]
    · rw [if_neg q2, if_neg (fun z => q2 (e2.mp z))]
theorem rwKind3 {R : Rw} (ok : rwOk R) {a b c : Nat} (ha : a < 2 * (rwP R).length) (hb : b < 2 * (rwP R).length) (hc : c < 2 * (rwP R).length) : rwKind R [a, b, c] = if rwCb R a ≠ rwCb R b ∧ rwCb R a ≠ rwCb R c ∧ rwCb R b ≠ rwCb R c then (if 2 ^ rwOv R (a / 2) ||| 2 ^ rwOv R (b / 2) ||| 2 ^ rwOv R (c / 2) = 7 then 3 else 0) else 0 := by
  have o2 := ok.2.1
  have c1 := rwCb_lt ok ha
  have c2 := rwCb_lt ok hb
  have c3 := rwCb_lt ok hc
  have e1 := bc3 (rwCb R a) (by omega) (rwCb R b) (by omega) (rwCb R c) (by omega)
  have x1 : rwXs R [a, b, c] = 0 ||| 2 ^ rwCb R a ||| 2 ^ rwCb R b ||| 2 ^ rwCb R c := rfl
  have x2 : rwLs R [a, b, c] = 2 ^ rwOv R (a / 2) ||| 2 ^ rwOv R (b / 2) ||| 2 ^ rwOv R (c / 2) := by
    show 0 ||| 2 ^ rwOv R (a / 2) ||| 2 ^ rwOv R (b / 2) ||| 2 ^ rwOv R (c / 2) = _
    rw [Nat.zero_or]
  unfold rwKind
  rw [x1, x2]
  simp only [List.length_cons, List.length_nil]
  by_cases q : rwCb R a ≠ rwCb R b ∧ rwCb R a ≠ rwCb R c ∧ rwCb R b ≠ rwCb R c
  · rw [if_neg (by omega), if_neg (by intro z; rcases z with z | z; omega; exact z (e1.mpr q)), if_pos q, if_neg (by omega)]
  · rw [if_neg (by omega), if_pos (Or.inr (fun z => q (e1.mp z))), if_neg q]
section MKA
variable {xs : Nat → Int32} {Lx d : Nat} {V : km_V} {a : Nat} {R : Rw}
theorem sp_kindOf {f : Nat} {K : Int → km_V → Prop} (ha : km_sh[a]? = some (11, 78)) (hR : kRf (V a) R) (ok : rwOk R) (hM : kMF V R) (hf : f < (rwFc R).length) (k : K (rwK R f : Int) V) : kCI xs Lx (d + 2) 166 8 [.ref 299, .ref a, kI f] V K := by
  have o2 := ok.2.1
  have o3 := ok.len
  have l1 := rwFc_len R
  have l2 := rwV_len ok
  have e4 := rwF_end (R := rwV R) hf
  have hp := rwV_pos ok hf
  obtain ⟨hE, h1, h2⟩ := hM
  obtain ⟨q1, q2⟩ := h2 f hf
  have b0 := rwV_lt ok hf hp
  refine b166_0 ha ⟨by omega, fun z hz => ?_⟩
  rw [tn, q2] at hz
  subst hz
  simp only [tn, q1]
  refine ⟨by omega, fun g1 => ⟨fun g2 => ?_, fun g2 => ⟨_, rfl, ?_⟩⟩, fun g1 => ⟨_, rfl, ?_⟩⟩
  · intro z2 hz2
    subst hz2
    obtain ⟨t1, t2⟩ := kturn_eq hR ok hE b0
    obtain ⟨s1, s2⟩ := kcb_eq ok hE b0
    have hl2 : 0 + 1 < rwL (rwV R) f := by omega
    have b1 := rwV_lt ok hf hl2
    rw [← rwV_at hf hl2] at t1
    obtain ⟨s3, s4⟩ := kcb_eq ok hE b1
    refine ⟨t2, fun z3 hz3 => ?_⟩
    rw [t1] at hz3
    subst hz3
    obtain ⟨u1, u2⟩ := kov_eq ok hE (show (rwR (rwV R) f).getD 0 0 / 2 < _ by omega)
    obtain ⟨u3, u4⟩ := kov_eq ok hE (show (rwR (rwV R) f).getD (0 + 1) 0 / 2 < _ by omega)
    have f1 : (((rwR (rwV R) f).getD 0 0 : Nat) : Int) / 2 = (((rwR (rwV R) f).getD 0 0 / 2 : Nat) : Int) := rfl
    have f2 : (((rwR (rwV R) f).getD (0 + 1) 0 : Nat) : Int) / 2 = (((rwR (rwV R) f).getD (0 + 1) 0 / 2 : Nat) : Int) := rfl
    have v1 := rwOv_lt R ((rwR (rwV R) f).getD 0 0 / 2)
    have v2 := rwOv_lt R ((rwR (rwV R) f).getD (0 + 1) 0 / 2)
    have c1 := rwCb_lt ok b0
    have c2 := rwCb_lt ok b1
    rw [f1, f2, s1, s3, u1, u3]
    refine ⟨s2, s4, by omega, by omega, fun g3 => ⟨fun g4 => ?_, fun g4 => ?_⟩, fun g3 => ⟨_, rfl, ?_⟩⟩
    · -- three corners
      have hl3 : 1 + 1 < rwL (rwV R) f := by omega
      have b2 := rwV_lt ok hf hl3
      obtain ⟨t3, t4⟩ := kturn_eq hR ok hE b1
      rw [← rwV_at hf hl3] at t3
      obtain ⟨s5, s6⟩ := kcb_eq ok hE b2
      obtain ⟨u5, u6⟩ := kov_eq ok hE (show (rwR (rwV R) f).getD (1 + 1) 0 / 2 < _ by omega)
      have f3 : (((rwR (rwV R) f).getD (1 + 1) 0 : Nat) : Int) / 2 = (((rwR (rwV R) f).getD (1 + 1) 0 / 2 : Nat) : Int) := rfl
      have v3 := rwOv_lt R ((rwR (rwV R) f).getD (1 + 1) 0 / 2)
      have c3 := rwCb_lt ok b2
      have kk : rwK R f = rwKind R [(rwR (rwV R) f).getD 0 0, (rwR (rwV R) f).getD (0 + 1) 0, (rwR (rwV R) f).getD (1 + 1) 0] := congrArg (rwKind R) (list3 (l := rwR (rwV R) f) (by unfold rwL at *; omega))
      rw [rwKind3 ok b0 b1 b2] at kk
      refine ⟨t4, fun z4 hz4 => ?_⟩
      rw [t3] at hz4
      subst hz4
      rw [f3, s5, u5]
      refine ⟨s6, by omega, fun g5 => ⟨_, rfl, ?_⟩, fun g5 => ⟨fun g6 => ?_, fun g6 => ⟨_, rfl, ?_⟩⟩⟩
      · rw [if_neg (by omega)] at kk; rw [kk] at k; exact k
      · rw [if_pos (by omega)] at kk
        simp only [tn, one_pow]
        refine ⟨by omega, u2, by omega, by omega, u4, by omega, one_pow0 _, one_pow0 _, by omega, u6, by omega, by omega, one_pow0 _, fun z5 hz5 => ?_⟩
        have b8 : 2 ^ rwOv R ((rwR (rwV R) f).getD 0 0 / 2) ||| 2 ^ rwOv R ((rwR (rwV R) f).getD (0 + 1) 0 / 2) ||| 2 ^ rwOv R ((rwR (rwV R) f).getD (1 + 1) 0 / 2) < 2 ^ 3 := bor_lt (bor_lt (Nat.pow_lt_pow_right (by omega) (by omega)) (by omega)) (by omega)
        refine ⟨by omega, fun g7 => ⟨_, rfl, ?_⟩, fun g7 => ⟨_, rfl, ?_⟩⟩
        · rw [if_neg (by omega)] at kk; rw [kk] at k; exact k
        · rw [if_pos (by omega)] at kk; rw [kk] at k; exact k
      · rw [if_neg (by omega)] at kk; rw [kk] at k; exact k
    · have kk : rwK R f = rwKind R [(rwR (rwV R) f).getD 0 0, (rwR (rwV R) f).getD (0 + 1) 0] := congrArg (rwKind R) (list2 (l := rwR (rwV R) f) (by unfold rwL at *; omega))
      rw [rwKind2 ok b0 b1] at kk
      rw [if_neg (by omega)] at kk
      refine ⟨by omega, u2, by omega, u4, by omega, fun g5 => ⟨_, rfl, ?_⟩, fun g5 => ⟨by omega, fun g6 => ⟨_, rfl, ?_⟩, fun g6 => ⟨_, rfl, ?_⟩⟩⟩
      · rw [if_neg (by omega)] at kk; rw [kk] at k; exact k
      · rw [if_neg (by omega)] at kk; rw [kk] at k; exact k
      · rw [if_pos (by omega)] at kk; rw [kk] at k; exact k
    · by_cases g4 : rwL (rwV R) f = 2
      · have kk : rwK R f = rwKind R [(rwR (rwV R) f).getD 0 0, (rwR (rwV R) f).getD (0 + 1) 0] := congrArg (rwKind R) (list2 (l := rwR (rwV R) f) (by unfold rwL at *; omega))
        rw [rwKind2 ok b0 b1] at kk
        rw [if_pos (by omega)] at kk; rw [kk] at k; exact k
      · have hl3 : 1 + 1 < rwL (rwV R) f := by omega
        have kk : rwK R f = rwKind R [(rwR (rwV R) f).getD 0 0, (rwR (rwV R) f).getD (0 + 1) 0, (rwR (rwV R) f).getD (1 + 1) 0] := congrArg (rwKind R) (list3 (l := rwR (rwV R) f) (by unfold rwL at *; omega))
        rw [rwKind3 ok b0 b1 (rwV_lt ok hf hl3)] at kk
        rw [if_neg (by omega)] at kk; rw [kk] at k; exact k
  · have kk : rwK R f = 0 := by
      unfold rwK rwKind
      unfold rwL at g1 g2
      rw [if_neg (by omega), if_pos (Or.inl (by omega))]
    rw [kk] at k; exact k
  · have kk : rwK R f = 1 := by
      unfold rwK rwKind
      unfold rwL at g1
      rw [if_pos (by omega)]
    rw [kk] at k; exact k
theorem sp_kindMany {q : Nat} {K : Int → km_V → Prop} (hR : kRf (V 307) R) (ok : rwOk R) (hq : q < 4) (k : ∀ W, kMF W R → (∀ b j, ¬ (b = 299 ∧ (j = 25 ∨ j = 32) ∨ 313 ≤ b ∧ b ≤ 321) → W b j = V b j) → K (rwKm R q : Int) W) : kCI xs Lx (d + 3) 167 4 [.ref 299, kI q] V K := by
  have o2 := ok.2.1
  have o3 := ok.len
  have l1 := rwFc_len R
  refine b167_0 (sp_laysFaces rfl (by omega) hR ok (fun W hM hf => ?_))
  have hR1 : kRf (W 307) R := hR.fr ok (fun j _ => hf _ j (by omega))
  have e1 := hM.2.1
  refine kloop0 (rwFc R).length (fun c => kGo xs Lx (d + 3) 167 13 [some (.ref 299), some (kI q), some (kI (((List.range c).countP (fun f => rwK R f == q) : Nat) : Int)), some (kI (c : Int))] [] W _) ?_ (fun c hc ih => ?_) 0 (Nat.zero_le _)
  · exact b167_13 ⟨by omega, by omega, fun _ => ⟨_, rfl, k W hM hf⟩, fun h => by omega⟩
  · have e5 : (List.range (c + 1)).countP (fun f => rwK R f == q) = (List.range c).countP (fun f => rwK R f == q) + (if rwK R c = q then 1 else 0) := by
      rw [List.range_succ, List.countP_append]
      simp [List.countP_cons]
    rw [e5] at ih
    have k2 := rwK_le R c
    refine b167_13 ⟨by omega, by omega, fun h => by omega, fun h => sp_kindOf rfl hR1 ok hM hc ⟨by omega, by omega, fun h => ?_, fun h => ?_⟩⟩
    · rw [if_neg (by omega)] at ih
      exact ih
    · rw [if_pos (by omega)] at ih
      exact ih
theorem sp_firstOf {q : Nat} {K : Int → km_V → Prop} (ha : km_sh[a]? = some (11, 78)) (ha2 : ¬ (313 ≤ a ∧ a ≤ 321)) (hR : kRf (V a) R) (ok : rwOk R) (hq : q < 4) (k : ∀ W, kMF W R → (∀ b j, ¬ (b = 299 ∧ (j = 25 ∨ j = 32) ∨ 313 ≤ b ∧ b ≤ 321) → W b j = V b j) → K (oInt (rwFk R q)) W) : kCI xs Lx (d + 3) 168 4 [.ref 299, .ref a, kI q] V K := by
  have o2 := ok.2.1
  have o3 := ok.len
  have l1 := rwFc_len R
  have a9 : a ≠ 299 := fun z => by subst z; exact absurd ha (by decide)
  refine b168_0 ha (sp_laysFaces ha ha2 hR ok (fun W hM hf => ?_))
  have hR1 : kRf (W a) R := hR.fr ok (fun j _ => hf _ j (by omega))
  have e1 := hM.2.1
  refine kloop0 (rwFc R).length (fun c => (∀ i, i < c → rwK R i ≠ q) → kGo xs Lx (d + 3) 168 8 [some (.ref 299), some (.ref a), some (kI q), some (kI (c : Int))] [] W _) ?_ (fun c hc ih => ?_) 0 (Nat.zero_le _) (fun i hi => by omega)
  · intro hn
    have e2 : rwFk R q = none := find_range_none (fun i hi => beq_eq_false_iff_ne.mpr (hn i hi))
    have := k W hM hf
    rw [e2] at this
    exact b168_8 ha ⟨by omega, by omega, fun _ => ⟨_, rfl, this⟩, fun h => by omega⟩
  · intro hn
    have k2 := rwK_le R c
    refine b168_8 ha ⟨by omega, by omega, fun h => by omega, fun h => sp_kindOf ha hR1 ok hM hc ⟨by omega, by omega, fun h => ?_, fun h => ⟨_, rfl, ?_⟩⟩⟩
    · refine ih (fun i hi => ?_)
      by_cases e : i = c
      · subst e; omega
      · exact hn i (by omega)
    · have e2 : rwFk R q = some c := find_range hc (beq_iff_eq.mpr (by omega)) (fun i hi => beq_eq_false_iff_ne.mpr (hn i hi))
      have := k W hM hf
      rw [e2] at this
      exact this
end MKA

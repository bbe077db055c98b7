/-! coefficients, windings, colourings, what is alike, what is counted -/
def qCoef (R : Rw) (e b : Int) : Int := if b = 0 then rwBr R e else rwKn R e
def wTerm (R : Rw) (a b : Int) (c : Nat) : Int := if ((rwG R (rwPos R (2 * c + 1)) : Int) = a ∧ (rwG R (rwPos R (2 * c)) : Int) = b) ∨ ((rwG R (rwPos R (2 * c + 1)) : Int) = b ∧ (rwG R (rwPos R (2 * c)) : Int) = a) then R.2.getD c 0 else 0
def qWind (R : Rw) (a b : Int) : Int := if 0 ≤ a ∧ a < (R.1.length : Int) ∧ 0 ≤ b ∧ b < (R.1.length : Int) ∧ a ≠ b then Int.tdiv (rsum (wTerm R a b) (rwn R)) 2 else -100000
def qCol (R : Rw) (p : Int) : Int := if p = 2 ∨ p = 3 ∨ p = 5 ∨ p = 7 ∨ p = 11 ∨ p = 13 then p ^ (rwAc R - mxRk p (rwn R) (rwAc R) (rwAc R) 0 0 (rwM0 R (Int.toNat p))) else -1
def qAlikeP (R : Rw) (hs : Hs) (a b v : Int) : Prop := ((hget hs a = none ∨ ¬ (0 ≤ b ∧ b ≤ 2)) ∧ v = -1) ∨ ∃ S, hget hs a = some S ∧ (0 ≤ b ∧ b ≤ 2) ∧ ((b = 2 ∧ (R = S ∧ v = 1 ∨ R ≠ S ∧ v = 0)) ∨ (b ≠ 2 ∧ (rwSame R S (decide (b = 1)) ∧ v = 1 ∨ ¬ rwSame R S (decide (b = 1)) ∧ v = 0)))
theorem qAlikeP.uniq {R : Rw} {hs : Hs} {a b v w : Int} (h1 : qAlikeP R hs a b v) (h2 : qAlikeP R hs a b w) : v = w := by
  rcases h1 with ⟨n1, rfl⟩ | ⟨S, e1, r1, h1⟩
  · rcases h2 with ⟨n2, rfl⟩ | ⟨S, e2, r2, h2⟩
    · rfl
    · rcases n1 with n1 | n1
      · rw [n1] at e2; exact absurd e2 (by simp)
      · exact absurd r2 n1
  · rcases h2 with ⟨n2, rfl⟩ | ⟨T, e2, r2, h2⟩
    · rcases n2 with n2 | n2
      · rw [n2] at e1; exact absurd e1 (by simp)
      · exact absurd r1 n2
    · rw [e1] at e2
      cases e2
      rcases h1 with ⟨b1, ⟨x1, rfl⟩ | ⟨x1, rfl⟩⟩ | ⟨b1, ⟨x1, rfl⟩ | ⟨x1, rfl⟩⟩ <;> rcases h2 with ⟨b2, ⟨x2, rfl⟩ | ⟨x2, rfl⟩⟩ | ⟨b2, ⟨x2, rfl⟩ | ⟨x2, rfl⟩⟩ <;> first
        | rfl
        | exact absurd b1 b2
        | exact absurd b2 b1
        | exact absurd x1 x2
        | exact absurd x2 x1
section MOR
variable {xs : Nat → Int32} {Lx d : Nat} {V : km_V} {R S : Rw} {hs : Hs} {ps : List Rw}
theorem kC_own {W : km_V} (hC : kC V R ps hs) (hB : kBr W 39 R) (hf : ∀ b j, ¬ (39 ≤ b ∧ b ≤ 41) → W b j = V b j) : kC (up W 0 13 1) R ps hs ∧ cFr V (up W 0 13 1) := by
  obtain ⟨h1, h2, h3, h4, h5, h6, h7⟩ := hC
  refine ⟨⟨h1.fr (fun b j hb => by rw [up_ne (by omega), hf _ _ (by omega)]), h2.fr (fun b j hb => by rw [up_ne (by omega), hf _ _ (by omega)]), h3.fr (by rw [up_ne (by omega), hf _ _ (by omega)]) (fun j => by rw [up_ne (by omega), hf _ _ (by omega)]), h4.fr (fun b j hb => by rw [up_ne (by omega), hf _ _ (by omega)]), h5.fr (fun b j hb => by rw [up_ne (by omega), hf _ _ (by omega)]), Or.inr ⟨up_at _ _ _ _, hB.fr (up_ne (by omega)) (fun j => up_ne (by omega))⟩, ?_⟩, fun b j hb => by rw [up_ne (by omega), hf _ _ (by omega)]⟩
  rw [up_ne (by omega), hf 0 14 (by omega), up_ne (by omega), hf 0 15 (by omega)]; exact h7
theorem sp_ccoef {a b : Int} {K : Int → km_V → Prop} (ha : kR a) (hb : kR b) (hC : kC V R ps hs) (ok : kOk R ps hs) (k : ∀ W, kC W R ps hs → cFr V W → K (qCoef R a b) W) : kCI xs Lx (d + 5) 108 4 [.ref 0, kI a, kI b] V K := by
  obtain ⟨h1, h2, h3, h4, h5, h6, h7⟩ := id hC
  have fin : ∀ W, kC W R ps hs → cFr V W → kBr W 39 R → (kR b) ∧ ((b = 0 → kCI xs Lx (d + 4) 16 2 [.ref 39, kI a] W (fun y1 W1 => ∃ v : Int, some (kI y1) = some (kI v) ∧ K v W1)) ∧ (b ≠ 0 → kCI xs Lx (d + 4) 17 3 [.ref 39, kI a] W (fun y2 W2 => ∃ v : Int, some (kI y2) = some (kI v) ∧ K v W2))) := by
    intro W c1 c2 hB
    have y := k W c1 c2
    unfold qCoef at y
    refine ⟨hb, fun e => ?_, fun e => ?_⟩
    · rw [if_pos e] at y
      exact sp_at (d := d + 4) (by decide) hB ok.1 ha ⟨_, rfl, y⟩
    · rw [if_neg e] at y
      exact sp_knottedAt (by decide) hB ok.1 ha ⟨_, rfl, y⟩
  refine b108_0 ⟨by rcases h6 with h | h <;> omega, fun h => ?_, fun h => ?_⟩
  · rcases h6 with z | z
    · exact absurd z h
    · exact fin V hC (fun _ _ _ => rfl) z.2
  · refine sp_addUp (by decide) (by decide) (by decide) (by omega) (by omega) h1 ok.1 h2.1 (fun W hB f => ?_)
    obtain ⟨c1, c2⟩ := kC_own hC hB f
    exact fin _ c1 c2 (hB.fr (up_ne (by omega)) (fun j => up_ne (by omega)))
theorem sp_mcoef {a b : Int} {K : Int → km_V → Prop} (ha : kR a) (hb : kR b) (hM : kM V R ps hs) (ok : kOk R ps hs) (k : ∀ W, kM W R ps hs → mFr V W → K (qCoef R a b) W) : kCI xs Lx (d + 3) 200 3 [.ref 299, kI a, kI b] V K := by
  refine b200_0 (sp_laysBracket (by decide) (by omega) hM.1 ok.1 (fun W q1 f1 => ?_))
  have hM1 : kM W R ps hs := hM.fr ok.1 (fun b j hb => f1 b j (by omega))
  have y := k W hM1 (fun b j hb => f1 b j (by omega))
  unfold qCoef at y
  simp only [kin_eq]
  refine ⟨hb, fun e => ⟨ha, by split <;> omega, fun h => ?_, fun h => ?_⟩, fun e => ?_⟩
  · rw [if_pos e] at y
    rw [rwBr_supp ok.1 (by
      by_cases c : -100 ≤ a ∧ a ≤ 100
      · rw [if_pos c] at h; omega
      · omega)] at y
    exact ⟨_, rfl, y⟩
  · rw [if_pos e] at y
    have c : -100 ≤ a ∧ a ≤ 100 := by
      by_cases c : -100 ≤ a ∧ a ≤ 100
      · exact c
      · rw [if_neg c] at h; omega
    have q := q1 (Int.toNat (100 + a)) (by omega)
    rw [show ((Int.toNat (100 + a) : Nat) : Int) - 100 = a by omega] at q
    rw [q]
    exact ⟨by omega, _, rfl, y⟩
  · rw [if_neg e] at y
    exact sp_mknottedAt (by decide) hM1.1 ok.1 q1 ha ⟨_, rfl, y⟩
theorem wTerm_b (ok : rwOk R) (a b : Int) : ∀ c, c ≤ rwn R → -(c : Int) ≤ rsum (wTerm R a b) c ∧ rsum (wTerm R a b) c ≤ (c : Int) := by
  intro c hc
  have h := rsum_b (f := wTerm R a b) (n := c) (b := 1) (fun i hi => by
    have s := ok.sg i (by omega)
    unfold wTerm
    split <;> omega)
  omega
theorem sp_cwind {a b : Int} {K : Int → km_V → Prop} (ha : kR a) (hb : kR b) (hC : kC V R ps hs) (ok : kOk R ps hs) (k : K (qWind R a b) V) : kCI xs Lx (d + 0) 109 7 [.ref 0, kI a, kI b] V K := by
  obtain ⟨⟨h1, h2, h3, h4, h5⟩, ⟨⟨d1, d2, d3, d4⟩, -⟩, -⟩ := id hC
  have o1 := ok.1.1
  have o2 := ok.1.2.1
  have o3 := ok.1.len
  unfold qWind at k
  refine b109_0 ?_
  rw [h1]
  have no : ¬ (0 ≤ a ∧ a < (R.1.length : Int) ∧ 0 ≤ b ∧ b < (R.1.length : Int) ∧ a ≠ b) → ∃ v : Int, some (kI (-100000)) = some (kI v) ∧ K v V := fun h => ⟨_, rfl, by rw [if_neg h] at k; exact k⟩
  refine ⟨ha, fun h => no (by omega), fun a0 => ⟨by omega, fun h => no (by omega), fun a1 => ⟨hb, fun h => no (by omega), fun b0 => ⟨fun h => no (by omega), fun b1 => ⟨fun ne => ?_, fun e => no (by omega)⟩⟩⟩⟩⟩
  rw [if_pos ⟨a0, a1, b0, b1, ne⟩] at k
  refine kloop0 (rwn R) (fun c => kGo xs Lx (d + 0) 109 43 [some (.ref 0), some (kI a), some (kI b), some (kI (rsum (wTerm R a b) c)), some (kI (c : Int)), none, none] [] V _) ?_ (fun c hc ih => ?_) 0 (Nat.zero_le _)
  · have wb := wTerm_b ok.1 a b (rwn R) (Nat.le_refl _)
    refine b109_43 ?_
    rw [h2]
    exact ⟨by omega, by omega, fun _ => ⟨by omega, _, rfl, k⟩, fun h => by omega⟩
  · obtain ⟨p1, p2⟩ := rwPos_s ok.1 (x := 2 * c + 1) (by omega)
    obtain ⟨u1, u2⟩ := rwPos_s ok.1 (x := 2 * c) (by omega)
    have v1 : V 21 c = (rwPos R (2 * c + 1) : Int) := by
      have := (d2 _ p1).1 (by omega)
      rw [p2, show (2 * c + 1) / 2 = c by omega] at this
      exact this
    have v2 : V 22 c = (rwPos R (2 * c) : Int) := by
      have := (d2 _ u1).2 (by omega)
      rw [u2, show 2 * c / 2 = c by omega] at this
      exact this
    have w1 : V 20 (rwPos R (2 * c + 1)) = (rwG R (rwPos R (2 * c + 1)) : Int) := (d1 _ p1).2.2
    have w2 : V 20 (rwPos R (2 * c)) = (rwG R (rwPos R (2 * c)) : Int) := (d1 _ u1).2.2
    have g1 := rwG_lt p1
    have g2 := rwG_lt u1
    have e5 : V 16 c = R.2.getD c 0 := h5 c hc
    have nt : ∀ v : Int, v = rsum (wTerm R a b) c + wTerm R a b c → kGo xs Lx (d + 0) 109 43 [some (.ref 0), some (kI a), some (kI b), some (kI v), some (kI ((c : Int) + 1)), none, none] [] V (fun r V' => ∃ v : Int, r = some (kI v) ∧ K v V') := by
      intro v hv
      rw [rsum_succ] at ih
      rw [hv]
      exact ih
    have n0 : wTerm R a b c = 0 → kGo xs Lx (d + 0) 109 43 [some (.ref 0), some (kI a), some (kI b), some (kI (rsum (wTerm R a b) c)), some (kI ((c : Int) + 1)), none, none] [] V (fun r V' => ∃ v : Int, r = some (kI v) ∧ K v V') := fun h => nt _ (by rw [h, Int.add_zero])
    unfold wTerm at nt n0
    refine b109_43 ?_
    simp only [tn]
    rw [h2, v1, v2]
    simp only [tn]
    rw [w1, w2, e5]
    refine ⟨by omega, by omega, fun h => by omega, fun _ => ⟨by omega, by omega, fun z hz => ⟨by omega, fun z2 hz2 => ?_⟩⟩⟩
    subst hz hz2
    refine ⟨by omega, by omega, fun n1 => ⟨by omega, fun n2 => n0 (if_neg (by omega)), fun e2 => ⟨by omega, fun n3 => n0 (if_neg (by omega)), fun e3 v hv => nt v (by rw [hv, if_pos (by omega)]; rfl)⟩⟩, fun e1 => ⟨by omega, by omega, fun e2 v hv => nt v (by rw [hv, if_pos (by omega)]; rfl), fun n2 => ⟨fun n3 => n0 (if_neg (by omega)), fun e3 => ⟨fun n4 => n0 (if_neg (by omega)), fun e4 v hv => nt v (by rw [hv, if_pos (by omega)]; rfl)⟩⟩⟩⟩
theorem sp_mwind {a b : Int} {K : Int → km_V → Prop} (ha : kR a) (hb : kR b) (hM : kM V R ps hs) (ok : kOk R ps hs) (k : ∀ W, kM W R ps hs → mFr V W → K (qWind R a b) W) : kCI xs Lx (d + 2) 202 7 [.ref 299, kI a, kI b] V K := by
  obtain ⟨⟨h1, h2, h3, h4, h5⟩, -⟩ := id hM
  have o1 := ok.1.1
  have o2 := ok.1.2.1
  have o3 := ok.1.len
  refine b202_0 ?_
  simp only [show Int.toNat 0 = 0 from rfl]
  rw [h1]
  simp only [kin_eq]
  have no : ¬ (0 ≤ a ∧ a < (R.1.length : Int) ∧ 0 ≤ b ∧ b < (R.1.length : Int) ∧ a ≠ b) → ∃ v : Int, some (kI (-100000)) = some (kI v) ∧ K v V := fun h => ⟨_, rfl, by
    have := k V hM (fun _ _ _ => rfl)
    unfold qWind at this
    rw [if_neg h] at this; exact this⟩
  refine ⟨ha, by omega, by split <;> omega, fun h => no (fun c => by rw [if_pos (by omega)] at h; omega), fun h => ⟨hb, by split <;> omega, fun h2 => no (fun c => by rw [if_pos (by omega)] at h2; omega), fun h2' => ⟨fun ne => ?_, fun e => no (by omega)⟩⟩⟩
  have ca : 0 ≤ a ∧ a < (R.1.length : Int) := by
    by_cases c : 0 ≤ a ∧ a ≤ (R.1.length : Int) - 1
    · omega
    · rw [if_neg c] at h; omega
  have cb : 0 ≤ b ∧ b < (R.1.length : Int) := by
    by_cases c : 0 ≤ b ∧ b ≤ (R.1.length : Int) - 1
    · omega
    · rw [if_neg c] at h2'; omega
  refine sp_laysEdges (by decide) (by omega) hM.1 ok.1 (fun W hE f1 => ?_)
  have hM1 : kM W R ps hs := hM.fr ok.1 (fun b j hb => f1 b j (by omega))
  have k := k W hM1 (fun b j hb => f1 b j (by omega))
  unfold qWind at k
  rw [if_pos ⟨ca.1, ca.2, cb.1, cb.2, ne⟩] at k
  have e1 : W 307 (Int.toNat 1) = (rwn R : Int) := hM1.1.2.1
  refine kloop0 (rwn R) (fun c => kGo xs Lx (d + 2) 202 54 [some (.ref 299), some (kI a), some (kI b), some (kI (rsum (wTerm R a b) c)), some (kI (c : Int)), none, none] [] W _) ?_ (fun c hc ih => ?_) 0 (Nat.zero_le _)
  · have wb := wTerm_b ok.1 a b (rwn R) (Nat.le_refl _)
    refine b202_54 ?_
    rw [e1]
    exact ⟨by omega, by omega, fun _ => ⟨by omega, _, rfl, k⟩, fun h => by omega⟩
  · have nt : ∀ v : Int, v = rsum (wTerm R a b) c + wTerm R a b c → kGo xs Lx (d + 2) 202 54 [some (.ref 299), some (kI a), some (kI b), some (kI v), some (kI ((c : Int) + 1)), none, none] [] W (fun r V' => ∃ v : Int, r = some (kI v) ∧ K v V') := by
      intro v hv
      rw [rsum_succ] at ih
      rw [hv]
      exact ih
    have n0 : wTerm R a b c = 0 → kGo xs Lx (d + 2) 202 54 [some (.ref 299), some (kI a), some (kI b), some (kI (rsum (wTerm R a b) c)), some (kI ((c : Int) + 1)), none, none] [] W (fun r V' => ∃ v : Int, r = some (kI v) ∧ K v V') := fun h => nt _ (by rw [h, Int.add_zero])
    unfold wTerm at nt n0
    have n70 : Int.toNat (70 + (c : Int)) = 70 + c := by omega
    have e5 : W 307 (70 + c) = R.2.getD c 0 := hM1.1.2.2.2.2 c hc
    refine b202_54 ?_
    rw [e1, n70]
    refine ⟨by omega, by omega, fun h => by omega, fun _ => ?_⟩
    refine sp_passAt (d := d + 1) (o := 0) ok.1 hE hc (by omega) (fun q hq eq => ⟨by omega, fun z2 hz2 => ?_⟩)
    refine sp_passAt (d := d + 1) (o := 1) ok.1 hE hc (by omega) (fun p hp ep => ⟨by omega, fun z4 hz4 => ?_⟩)
    have w1 := (hE.2.1 q hq).2.1
    have w2 := (hE.2.1 p hp).2.1
    have p1 : rwPos R (2 * c) = q := rwPos_eq ok.1 hq eq
    have p2 : rwPos R (2 * c + 1) = p := rwPos_eq ok.1 hp ep
    rw [p1, p2] at nt n0
    have g1 := rwG_lt hq
    have g2 := rwG_lt hp
    rw [tn, w1] at hz2
    rw [tn, w2] at hz4
    subst hz2 hz4
    rw [e5]
    refine ⟨by omega, by omega, fun n1 => ⟨by omega, fun n2 => n0 (if_neg (by omega)), fun e2 => ⟨by omega, fun n3 => n0 (if_neg (by omega)), fun e3 => ⟨by omega, fun v hv => nt v (by rw [hv, if_pos (by omega)]; rfl)⟩⟩⟩, fun e1' => ⟨by omega, by omega, fun e2 => ⟨by omega, fun v hv => nt v (by rw [hv, if_pos (by omega)]; rfl)⟩, fun n2 => ⟨fun n3 => n0 (if_neg (by omega)), fun e3 => ⟨fun n4 => n0 (if_neg (by omega)), fun e4 => ⟨by omega, fun v hv => nt v (by rw [hv, if_pos (by omega)]; rfl)⟩⟩⟩⟩⟩
end MOR

/-! the moves of the class -/
def rwLse (R : Rw) (b : Nat) : Prop := rwn (rwShed 8 (rwTurn b R)) = 0
def rwFreeP (R : Rw) (v : Int) : Prop := (v = -2 ∧ ∀ b, b < 2 ^ rwn R → ¬ rwLse R b) ∨ ∃ b : Nat, b < 2 ^ rwn R ∧ v = (b : Int) ∧ rwLse R b ∧ ∀ c, c < 2 ^ rwn R → rwLse R c → rwBc b < rwBc c ∨ rwBc b = rwBc c ∧ b ≤ c
theorem rwFreeP.uniq {R : Rw} {u v : Int} (h1 : rwFreeP R u) (h2 : rwFreeP R v) : u = v := by
  rcases h1 with ⟨rfl, a⟩ | ⟨b, hb, rfl, lb, mb⟩
  · rcases h2 with ⟨rfl, _⟩ | ⟨c, hc, _, lc, _⟩
    · rfl
    · exact absurd lc (a c hc)
  · rcases h2 with ⟨_, a⟩ | ⟨c, hc, rfl, lc, mc⟩
    · exact absurd lb (a b hb)
    · have q1 := mb c hc lc
      have q2 := mc b hb lb
      omega
def kC (V : km_V) (R : Rw) (ps : List Rw) (hs : Hs) : Prop := kRC V 13 R ∧ kDr V 17 R ∧ kAr V R ∧ kPa V ps ∧ kHc V hs ∧ (V 0 13 = 0 ∨ V 0 13 = 1 ∧ kBr V 39 R) ∧ (V 0 14 = 0 ∨ V 0 14 = 1 ∧ rwFreeP R (V 0 15))
def cFr (V W : km_V) : Prop := ∀ b j, (299 ≤ b ∨ b = 1 ∨ b = 2 ∨ b = 0 ∧ j = 16) → W b j = V b j
theorem kC.fr {V W : km_V} {R : Rw} {ps : List Rw} {hs : Hs} (h : kC V R ps hs) (hf : ∀ b j, (13 ≤ b ∧ b ≤ 27 ∨ b = 28 ∧ j = 0 ∨ b = 29 ∨ b = 39 ∨ b = 40 ∨ 45 ≤ b ∧ b ≤ 206 ∨ b = 208 ∨ 287 ≤ b ∧ b ≤ 298 ∨ b = 0 ∧ (j = 13 ∨ j = 14 ∨ j = 15)) → W b j = V b j) : kC W R ps hs := by
  obtain ⟨h1, h2, h3, h4, h5, h6, h7⟩ := h
  refine ⟨h1.fr (fun a j ha => hf a j (by omega)), h2.fr (fun a j ha => hf a j (by omega)), h3.fr (hf _ _ (by omega)) (fun j => hf _ _ (by omega)), h4.fr (fun a j ha => hf a j (by omega)), h5.fr (fun a j ha => hf a j (by omega)), ?_, ?_⟩
  · rw [hf 0 13 (by omega)]
    rcases h6 with h | h
    · exact Or.inl h
    · exact Or.inr ⟨h.1, h.2.fr (hf _ _ (by omega)) (fun j => hf _ _ (by omega))⟩
  · rw [hf 0 14 (by omega), hf 0 15 (by omega)]; exact h7
section CCM
variable {xs : Nat → Int32} {Lx d : Nat} {V : km_V} {R S : Rw} {hs : Hs} {ps : List Rw}
theorem sp_changed {K : km_V → Prop} (hR : kRC V 13 R) (ok : rwOk R) (hP : kPa V ps) (hH : kHc V hs) (k : ∀ W, kC W R ps hs → (∀ b j, ¬ (17 ≤ b ∧ b ≤ 29 ∨ b = 0 ∧ (j = 13 ∨ j = 14)) → W b j = V b j) → K W) : kCV xs Lx (d + 3) 117 1 [.ref 0] V K := by
  refine b117_0 (sp_trace (by decide) (by decide) (by omega) hR ok (fun W1 q1 f1 => ?_))
  refine sp_number (by decide) (by omega) (hR.fr (fun a j ha => f1 _ _ (by omega))) ok (fun W2 q2 f2 => ⟨rfl, k _ ⟨?_, ?_, ?_, ?_, ?_, ?_, ?_⟩ (fun b j hb => ?_)⟩)
  · exact hR.fr (fun a j ha => by rw [up_ne (by omega), up_ne (by omega), f2 _ _ (by omega), f1 _ _ (by omega)])
  · exact q1.fr (fun a j ha => by rw [up_ne (by omega), up_ne (by omega), f2 _ _ (by omega)])
  · exact q2.fr (by rw [up_ne (by omega), up_ne (by omega)]) (fun j => by rw [up_ne (by omega), up_ne (by omega)])
  · exact hP.fr (fun a j ha => by rw [up_ne (by omega), up_ne (by omega), f2 _ _ (by omega), f1 _ _ (by omega)])
  · exact hH.fr (fun a j ha => by rw [up_ne (by omega), up_ne (by omega), f2 _ _ (by omega), f1 _ _ (by omega)])
  · exact Or.inl (by rw [up_ne (by omega), up_at])
  · exact Or.inl (up_at _ _ _ _)
  · rw [up_ne (by omega), up_ne (by omega), f2 _ _ (by omega), f1 _ _ (by omega)]
theorem cf_tr {V W U : km_V} (h1 : cFr V W) (h2 : ∀ b j, (299 ≤ b ∨ b = 1 ∨ b = 2 ∨ b = 0 ∧ j = 16) → U b j = W b j) : cFr V U := fun b j hb => by rw [h2 b j hb]; exact h1 b j hb
theorem sp_cout {a : Int} {K : Int → km_V → Prop} (ha : kR a) (hC : kC V R ps hs) (ok : kOk R ps hs) (k1 : ∀ f : Nat, a = (f : Int) → f < (rwFc R).length → (rwK R f = 1 ∨ rwK R f = 2) → ∀ W, kC W (rwOut R f) (rwPush R ps) hs → cFr V W → K (rwn (rwOut R f) : Int) W) (k0 : (¬ ∃ f : Nat, a = (f : Int) ∧ f < (rwFc R).length ∧ (rwK R f = 1 ∨ rwK R f = 2)) → K (-1) V) : kCI xs Lx (d + 4) 95 3 [.ref 0, kI a] V K := by
  obtain ⟨h1, h2, h3, h4, h5, h6, h7⟩ := id hC
  have fl := rwFc_len R
  have oo := ok.1.2.1
  have ol := ok.1.len
  have e7 : V 17 7 = ((rwFc R).length : Int) := h2.2.1.1
  refine b95_0 ?_
  rw [e7]
  refine ⟨ha, fun h => ⟨_, rfl, k0 (fun ⟨f, e, _⟩ => by omega)⟩, fun h => ⟨by omega, fun h => ⟨_, rfl, k0 (fun ⟨f, e, l, _⟩ => by omega)⟩, fun h => ⟨by omega, fun z hz => ?_⟩⟩⟩
  obtain ⟨f, rfl⟩ : ∃ f : Nat, a = (f : Int) := ⟨Int.toNat a, by omega⟩
  have hf : f < (rwFc R).length := by omega
  have k4 := rwK_le R f
  have bx : rwXs R (rwR (rwV R) f) < 256 := by
    have := rwXs_lt ok.1 hf (rwR (rwV R) f).length
    rwa [List.take_length] at this
  have ek : V 27 f = (rwK R f : Int) := h2.2.2 f hf
  rw [tn, ek] at hz
  subst hz
  have go : (rwK R f = 1 ∨ rwK R f = 2) → kCV xs Lx (d + 3) 38 2 [.ref 45, .ref 13] V (fun W2 => kCI xs Lx (d + 3) 28 4 [.ref 17, kI (f : Int)] W2 (fun y3 W3 => kCV xs Lx (d + 3) 71 7 [.ref 13, kI y3] W3 (fun W4 => kCV xs Lx (d + 3) 117 1 [.ref 0] W4 (fun W5 => ∃ v : Int, some (kI (W5 13 1)) = some (kI v) ∧ K v W5)))) := by
    intro hk
    refine sp_keep h1 ok.1 h4 ok.2.1 (fun W2 p2 f2 => ?_)
    have hD2 : kDr W2 17 R := h2.fr (fun b j hb => f2 _ _ (by omega))
    refine sp_crossingsAt (d := d + 3) (by decide) ok.1 hD2.1 hD2.2.1 hf ?_
    refine sp_drop (by decide) (h1.fr (fun b j hb => f2 _ _ (by omega))) ok.1 bx (fun W4 r4 f4 => ?_)
    refine sp_changed r4 (rwDrop_ok ok.1) (p2.fr (fun b j hb => f4 _ _ (by omega))) (h5.fr (fun b j hb => by rw [f4 _ _ (by omega), f2 _ _ (by omega)])) (fun W5 c5 f5 => ⟨_, rfl, ?_⟩)
    have e : W5 13 1 = (rwn (rwOut R f) : Int) := c5.1.2.1
    rw [e]
    exact k1 f rfl hf hk W5 c5 (fun b j hb => by rw [f5 _ _ (by omega), f4 _ _ (by omega), f2 _ _ (by omega)])
  refine ⟨by omega, fun e => go (by omega), fun e => ⟨fun e2 => go (by omega), fun e2 => ⟨_, rfl, k0 (fun ⟨g, e3, _, e4⟩ => ?_)⟩⟩⟩
  have : g = f := by omega
  subst this
  omega
theorem sp_cslide {a : Int} {K : Int → km_V → Prop} (ha : kR a) (hC : kC V R ps hs) (ok : kOk R ps hs) (k1 : ∀ f : Nat, a = (f : Int) → f < (rwFc R).length → rwK R f = 3 → ∀ W, kC W (rwSlide R f) (rwPush R ps) hs → cFr V W → K 1 W) (k0 : (¬ ∃ f : Nat, a = (f : Int) ∧ f < (rwFc R).length ∧ rwK R f = 3) → K 0 V) : kCI xs Lx (d + 4) 96 2 [.ref 0, kI a] V K := by
  obtain ⟨h1, h2, h3, h4, h5, h6, h7⟩ := id hC
  have fl := rwFc_len R
  have oo := ok.1.2.1
  have ol := ok.1.len
  have e7 : V 17 7 = ((rwFc R).length : Int) := h2.2.1.1
  refine b96_0 ?_
  rw [e7]
  refine ⟨ha, fun h => ⟨_, rfl, k0 (fun ⟨f, e, _⟩ => by omega)⟩, fun h => ⟨by omega, fun h => ⟨_, rfl, k0 (fun ⟨f, e, l, _⟩ => by omega)⟩, fun h => ⟨by omega, ?_⟩⟩⟩
  obtain ⟨f, rfl⟩ : ∃ f : Nat, a = (f : Int) := ⟨Int.toNat a, by omega⟩
  have hf : f < (rwFc R).length := by omega
  have k4 := rwK_le R f
  have ek : V 27 f = (rwK R f : Int) := h2.2.2 f hf
  rw [tn, ek]
  refine ⟨by omega, fun e => ?_, fun e => ⟨_, rfl, k0 (fun ⟨g, e3, _, e4⟩ => ?_)⟩⟩
  · refine sp_keep h1 ok.1 h4 ok.2.1 (fun W2 p2 f2 => ?_)
    refine sp_exchange (by decide) (by decide) (by omega) (h1.fr (fun b j hb => f2 _ _ (by omega))) ok.1 (h2.fr (fun b j hb => f2 _ _ (by omega))) hf (fun W4 r4 f4 => ?_)
    refine sp_changed r4 (rwSlide_ok ok.1 hf).1 (p2.fr (fun b j hb => f4 _ _ (by omega))) (h5.fr (fun b j hb => by rw [f4 _ _ (by omega), f2 _ _ (by omega)])) (fun W5 c5 f5 => ⟨_, rfl, ?_⟩)
    exact k1 f rfl hf (by omega) W5 c5 (fun b j hb => by rw [f5 _ _ (by omega), f4 _ _ (by omega), f2 _ _ (by omega)])
  · have : g = f := by omega
    subst this
    omega
theorem sp_ckink {a : Int} {ov pl : Bool} {K : Int → km_V → Prop} (ha : kR a) (hC : kC V R ps hs) (ok : kOk R ps hs) (k1 : ∀ e : Nat, a = (e : Int) → e < 2 * rwn R → rwn R < 8 → ∀ W, kC W (rwCurl e ov pl R) (rwPush R ps) hs → cFr V W → K 1 W) (k0 : ¬ (0 ≤ a ∧ a < 2 * (rwn R : Int) ∧ rwn R < 8) → K 0 V) : kCI xs Lx (d + 4) 97 4 [.ref 0, kI a, kI (if ov then 1 else 0), kI (if pl then 1 else 0)] V K := by
  obtain ⟨h1, h2, h3, h4, h5, h6, h7⟩ := id hC
  have oo := ok.1.2.1
  have ol := ok.1.len
  have e1 : V 13 1 = (rwn R : Int) := h1.2.1
  refine b97_0 ?_
  rw [e1]
  refine ⟨by omega, fun h => ⟨_, rfl, k0 (by omega)⟩, fun h => ⟨ha, fun h => ⟨_, rfl, k0 (by omega)⟩, fun h => ⟨ha, by omega, fun h => ?_, fun h => ⟨_, rfl, k0 (by omega)⟩⟩⟩⟩
  obtain ⟨e, rfl⟩ : ∃ e : Nat, a = (e : Int) := ⟨Int.toNat a, by omega⟩
  refine sp_keep h1 ok.1 h4 ok.2.1 (fun W2 p2 f2 => ?_)
  refine sp_curl (by decide) (h1.fr (fun b j hb => f2 _ _ (by omega))) ok.1 (by omega) (by omega) (fun W4 r4 f4 => ?_)
  refine sp_changed r4 (rwCurl_ok ok.1 (by omega) ov pl (by omega)) (p2.fr (fun b j hb => f4 _ _ (by omega))) (h5.fr (fun b j hb => by rw [f4 _ _ (by omega), f2 _ _ (by omega)])) (fun W5 c5 f5 => ⟨_, rfl, ?_⟩)
  exact k1 e rfl (by omega) (by omega) W5 c5 (fun b j hb => by rw [f5 _ _ (by omega), f4 _ _ (by omega), f2 _ _ (by omega)])
theorem sp_cloosen {K : Int → km_V → Prop} (hC : kC V R ps hs) (ok : kOk R ps hs) (k1 : rwn R ≠ rwn (rwShed 8 R) → ∀ W, kC W (rwShed 8 R) (rwPush R ps) hs → cFr V W → K ((rwn R : Int) - (rwn (rwShed 8 R) : Int)) W) (k0 : rwn R = rwn (rwShed 8 R) → ∀ W, kC W R ps hs → cFr V W → K 0 W) : kCI xs Lx (d + 4) 98 2 [.ref 0] V K := by
  obtain ⟨h1, h2, h3, h4, h5, h6, h7⟩ := id hC
  have oo := ok.1.2.1
  have oks := (rwShed_ok 8 R ok.1).1
  have oo2 := (rwShed_ok 8 R ok.1).2
  refine b98_0 (sp_copy (d := d + 3) (by decide) (by decide) h1 ok.1 (fun W1 q1 f1 => ?_))
  refine sp_shed (by decide) (by decide) (by omega) q1 ok.1 (fun W2 q2 f2 => ?_)
  have hC2 : kC W2 R ps hs := hC.fr (fun b j hb => by rw [f2 _ _ (by omega), f1 _ _ (by omega)])
  have fr2 : cFr V W2 := fun b j hb => by rw [f2 _ _ (by omega), f1 _ _ (by omega)]
  refine ⟨by omega, fun h => ⟨_, rfl, ?_⟩, fun h => ?_⟩
  · have := k0 (by omega) W2 hC2 fr2
    rw [show (rwn R : Int) - (rwn (rwShed 8 R) : Int) = 0 by omega]
    exact this
  · refine sp_keep hC2.1 ok.1 hC2.2.2.2.1 ok.2.1 (fun W3 p3 f3 => ?_)
    refine sp_copy (d := d + 3) (by decide) (by decide) (q2.fr (fun b j hb => f3 _ _ (by omega))) oks (fun W4 q4 f4 => ?_)
    refine sp_changed q4 oks (p3.fr (fun b j hb => f4 _ _ (by omega))) (hC2.2.2.2.2.1.fr (fun b j hb => by rw [f4 _ _ (by omega), f3 _ _ (by omega)])) (fun W5 c5 f5 => ⟨_, rfl, ?_⟩)
    exact k1 (by omega) W5 c5 (fun b j hb => by rw [f5 _ _ (by omega), f4 _ _ (by omega), f3 _ _ (by omega)]; exact fr2 b j hb)
theorem sp_cmirror {K : Int → km_V → Prop} (hC : kC V R ps hs) (ok : kOk R ps hs) (k1 : R.1.length ≠ 0 → ∀ W, kC W (rwTurn (2 ^ rwn R - 1) R) (rwPush R ps) hs → cFr V W → K 1 W) (k0 : R.1.length = 0 → K 0 V) : kCI xs Lx (d + 4) 99 1 [.ref 0] V K := by
  obtain ⟨h1, h2, h3, h4, h5, h6, h7⟩ := id hC
  have o1 := ok.1.1
  have oo := ok.1.2.1
  have pw := pow_256 oo
  have p1 : 1 ≤ 2 ^ rwn R := Nat.one_le_two_pow
  have e0 : V 13 0 = (R.1.length : Int) := h1.1
  refine b99_0 ?_
  rw [e0]
  refine ⟨by omega, fun h => ?_, fun h => ⟨_, rfl, k0 (by omega)⟩⟩
  refine sp_keep h1 ok.1 h4 ok.2.1 (fun W2 p2 f2 => ?_)
  have e1 : W2 13 1 = (rwn R : Int) := (f2 _ _ (by omega)).trans h1.2.1
  rw [e1, tn, Int.one_mul, show ((2 ^ rwn R : Nat) : Int) - 1 = ((2 ^ rwn R - 1 : Nat) : Int) by omega]
  refine ⟨by omega, sp_turnOver (by decide) (h1.fr (fun b j hb => f2 _ _ (by omega))) ok.1 (by omega) (fun W4 r4 f4 => ?_)⟩
  refine sp_changed r4 (rwTurn_ok ok.1) (p2.fr (fun b j hb => f4 _ _ (by omega))) (h5.fr (fun b j hb => by rw [f4 _ _ (by omega), f2 _ _ (by omega)])) (fun W5 c5 f5 => ⟨_, rfl, ?_⟩)
  exact k1 (by omega) W5 c5 (fun b j hb => by rw [f5 _ _ (by omega), f4 _ _ (by omega), f2 _ _ (by omega)])
theorem sp_cround {a : Int} {K : Int → km_V → Prop} (ha : kR a) (hC : kC V R ps hs) (ok : kOk R ps hs) (k1 : 0 ≤ a → a < (R.1.length : Int) → ∀ W, kC W (rwRev (Int.toNat a) R) (rwPush R ps) hs → cFr V W → K 1 W) (k0 : ¬ (0 ≤ a ∧ a < (R.1.length : Int)) → K 0 V) : kCI xs Lx (d + 4) 100 2 [.ref 0, kI a] V K := by
  obtain ⟨h1, h2, h3, h4, h5, h6, h7⟩ := id hC
  have o1 := ok.1.1
  have e0 : V 13 0 = (R.1.length : Int) := h1.1
  refine b100_0 ?_
  rw [e0]
  refine ⟨ha, fun h => ⟨_, rfl, k0 (by omega)⟩, fun h => ⟨by omega, fun h => ?_, fun h => ⟨_, rfl, k0 (by omega)⟩⟩⟩
  obtain ⟨i, rfl⟩ : ∃ i : Nat, a = (i : Int) := ⟨Int.toNat a, by omega⟩
  refine sp_keep h1 ok.1 h4 ok.2.1 (fun W2 p2 f2 => ?_)
  refine sp_reverse (by decide) (by decide) (by omega) (h1.fr (fun b j hb => f2 _ _ (by omega))) ok.1 (h2.1.fr (fun b j hb => f2 _ _ (by omega))) (by omega) (fun W4 r4 f4 => ?_)
  refine sp_changed r4 (rwRev_ok ok.1 (by omega)) (p2.fr (fun b j hb => f4 _ _ (by omega))) (h5.fr (fun b j hb => by rw [f4 _ _ (by omega), f2 _ _ (by omega)])) (fun W5 c5 f5 => ⟨_, rfl, ?_⟩)
  exact k1 (by omega) (by omega) W5 c5 (fun b j hb => by rw [f5 _ _ (by omega), f4 _ _ (by omega), f2 _ _ (by omega)])
theorem sp_cswitches {a : Int} {K : Int → km_V → Prop} (ha : kR a) (hC : kC V R ps hs) (ok : kOk R ps hs) (k1 : ∀ c : Nat, a = (c : Int) → c < rwn R → ∀ W, kC W (rwTurn (2 ^ c) R) (rwPush R ps) hs → cFr V W → K 1 W) (k0 : ¬ (0 ≤ a ∧ a < (rwn R : Int)) → K 0 V) : kCI xs Lx (d + 4) 101 2 [.ref 0, kI a] V K := by
  obtain ⟨h1, h2, h3, h4, h5, h6, h7⟩ := id hC
  have o1 := ok.1.2.1
  have e0 : V 13 1 = (rwn R : Int) := h1.2.1
  refine b101_0 ?_
  rw [e0]
  refine ⟨ha, fun h => ⟨_, rfl, k0 (by omega)⟩, fun h => ⟨by omega, fun h => ?_, fun h => ⟨_, rfl, k0 (by omega)⟩⟩⟩
  obtain ⟨i, rfl⟩ : ∃ i : Nat, a = (i : Int) := ⟨Int.toNat a, by omega⟩
  have p2 : 2 ^ i < 2 ^ 8 := Nat.pow_lt_pow_right (by omega) (by omega)
  refine sp_keep h1 ok.1 h4 ok.2.1 (fun W2 p2 f2 => ?_)
  rw [tn, Int.one_mul]
  refine ⟨by omega, sp_turnOver (by decide) (h1.fr (fun b j hb => f2 _ _ (by omega))) ok.1 (by omega) (fun W4 r4 f4 => ?_)⟩
  refine sp_changed r4 (rwTurn_ok ok.1) (p2.fr (fun b j hb => f4 _ _ (by omega))) (h5.fr (fun b j hb => by rw [f4 _ _ (by omega), f2 _ _ (by omega)])) (fun W5 c5 f5 => ⟨_, rfl, ?_⟩)
  exact k1 i rfl (by omega) W5 c5 (fun b j hb => by rw [f5 _ _ (by omega), f4 _ _ (by omega), f2 _ _ (by omega)])
theorem sp_csum {a : Int} {K : Int → km_V → Prop} (ha : kR a) (hC : kC V R ps hs) (ok : kOk R ps hs) (k1 : ∀ S, hget hs a = some S → rwCan R S → ∀ W, kC W (rwTake R S) (rwPush R ps) hs → cFr V W → K 1 W) (k0 : (¬ ∃ S, hget hs a = some S ∧ rwCan R S) → K 0 V) : kCI xs Lx (d + 4) 102 2 [.ref 0, kI a] V K := by
  obtain ⟨h1, h2, h3, h4, h5, h6, h7⟩ := id hC
  have o1 := ok.1.1
  have o2 := ok.1.2.1
  have e0 : V 13 0 = (R.1.length : Int) := h1.1
  have e1 : V 13 1 = (rwn R : Int) := h1.2.1
  refine b102_0 ?_
  rw [e0, e1]
  have no : (¬ ∃ S, hget hs a = some S ∧ rwCan R S) → kGo xs Lx (d + 4) 102 24 [none, none] [] V (fun r V' => ∃ v : Int, r = some (kI v) ∧ K v V') := fun h => b102_24 ⟨_, rfl, k0 h⟩
  have out : ¬ (0 ≤ a ∧ a ≤ 2) → (¬ ∃ S, hget hs a = some S ∧ rwCan R S) := fun h ⟨S, e, _⟩ => by
    unfold hget at e
    rw [if_neg h] at e
    exact absurd e (by simp)
  refine ⟨ha, fun h => no (out (by omega)), fun h => ⟨fun h => no (out (by omega)), fun h' => ⟨by omega, ?_⟩⟩⟩
  obtain ⟨s, rfl⟩ : ∃ s : Nat, a = (s : Int) := ⟨Int.toNat a, by omega⟩
  have g : hget hs (s : Int) = hs s := by unfold hget; rw [if_pos (by omega)]; rfl
  rw [g] at no k1
  obtain ⟨n0, n1⟩ := h5 s (by omega)
  simp only [tn]
  cases e : hs s with
  | none =>
    rw [n0 e]
    exact ⟨by omega, fun _ => no (fun ⟨S, e2, _⟩ => by rw [e] at e2; exact absurd e2 (by simp)), fun h => absurd rfl h⟩
  | some S =>
    have okS := ok.2.2 s S e
    have p1 := okS.1
    have p2 := okS.2.1
    obtain ⟨m1, m2⟩ := n1 S e
    have g0 : V (287 + 4 * s) 0 = (S.1.length : Int) := m2.1
    have g1 : V (287 + 4 * s) 1 = (rwn S : Int) := m2.2.1
    rw [m1, g0, g1]
    have no2 : ¬ rwCan R S → kGo xs Lx (d + 4) 102 24 [none, none] [] V (fun r V' => ∃ v : Int, r = some (kI v) ∧ K v V') := fun nc => no (fun ⟨S', e2, c2⟩ => by rw [e] at e2; cases e2; exact nc c2)
    refine ⟨by omega, fun h => by omega, fun _ => ⟨by omega, by omega, fun h => no2 (fun c => by unfold rwCan at c; omega), fun h => ⟨by omega, fun h => no2 (fun c => by unfold rwCan at c; omega), fun h => ⟨by omega, fun h => no2 (fun c => by unfold rwCan at c; omega), fun h => ⟨by omega, fun h => no2 (fun c => by unfold rwCan at c; omega), fun h => ?_⟩⟩⟩⟩⟩
    have c : rwCan R S := by unfold rwCan; omega
    refine sp_keep h1 ok.1 h4 ok.2.1 (fun W2 p2 f2 => ⟨by omega, ?_⟩)
    have shs : ∀ s : Nat, s < 3 → km_sh[287 + 4 * s]? = some (5, 5) := by decide
    refine sp_take (by decide) (shs s (by omega)) (by omega) (h1.fr (fun b j hb => f2 _ _ (by omega))) (m2.fr (fun b j hb => f2 _ _ (by omega))) ok.1 okS c (fun W4 r4 f4 => ?_)
    refine sp_changed r4 (rwTake_ok ok.1 okS c) (p2.fr (fun b j hb => f4 _ _ (by omega))) (h5.fr (fun b j hb => by rw [f4 _ _ (by omega), f2 _ _ (by omega)])) (fun W5 c5 f5 => ⟨_, rfl, ?_⟩)
    exact k1 S e c W5 c5 (fun b j hb => by rw [f5 _ _ (by omega), f4 _ _ (by omega), f2 _ _ (by omega)])
theorem sp_cundo {K : Int → km_V → Prop} (hC : kC V R ps hs) (ok : kOk R ps hs) (k1 : ∀ S qs, ps = S :: qs → ∀ W, kC W S qs hs → cFr V W → K 1 W) (k0 : ps = [] → K 0 V) : kCI xs Lx (d + 4) 103 1 [.ref 0] V K := by
  obtain ⟨h1, h2, h3, h4, h5, h6, h7⟩ := id hC
  refine b103_0 (sp_bringBack h4 ok.2.1 (fun e => ⟨by omega, fun h => absurd rfl h, fun _ => ⟨_, rfl, k0 e⟩⟩) (fun S qs e W q1 q2 f2 => ⟨by omega, fun _ => ?_, fun h => absurd h (by omega)⟩))
  refine sp_changed q1 (ok.2.1.2 S (by rw [e]; exact List.mem_cons_self)) q2 (h5.fr (fun b j hb => f2 _ _ (by omega))) (fun W5 c5 f5 => ⟨_, rfl, ?_⟩)
  exact k1 S qs e W5 c5 (fun b j hb => by rw [f5 _ _ (by omega), f2 _ _ (by omega)])
theorem sp_chold {a : Int} {K : Int → km_V → Prop} (ha : kR a) (hC : kC V R ps hs) (ok : kOk R ps hs) (k1 : 0 ≤ a ∧ a ≤ 2 → ∀ W, kC W R ps (hset hs (Int.toNat a) R) → cFr V W → K 1 W) (k0 : ¬ (0 ≤ a ∧ a ≤ 2) → K 0 V) : kCI xs Lx (d + 1) 114 2 [.ref 0, kI a] V K := by
  obtain ⟨h1, h2, h3, h4, h5, h6, h7⟩ := id hC
  refine b114_0 ⟨ha, fun h => ⟨_, rfl, k0 (by omega)⟩, fun h => ⟨fun h' => ⟨by omega, ?_⟩, fun h => ⟨_, rfl, k0 (by omega)⟩⟩⟩
  obtain ⟨s, rfl⟩ : ∃ s : Nat, a = (s : Int) := ⟨Int.toNat a, by omega⟩
  simp only [tn] at k1 ⊢
  have shs : ∀ s : Nat, s < 3 → km_sh[287 + 4 * s]? = some (5, 5) := by decide
  refine sp_copy (shs s (by omega)) (by decide) h1 ok.1 (fun W1 q1 f1 => ⟨_, rfl, k1 (by omega) _ ?_ (fun b j hb => by rw [up_ne (by omega), f1 _ _ (by omega)])⟩)
  refine ⟨h1.fr (fun b j hb => by rw [up_ne (by omega), f1 _ _ (by omega)]), h2.fr (fun b j hb => by rw [up_ne (by omega), f1 _ _ (by omega)]), h3.fr (by rw [up_ne (by omega), f1 _ _ (by omega)]) (fun j => by rw [up_ne (by omega), f1 _ _ (by omega)]), h4.fr (fun b j hb => by rw [up_ne (by omega), f1 _ _ (by omega)]), fun s' hs' => ?_, ?_, ?_⟩
  · unfold hset
    by_cases z : s' = s
    · subst z
      rw [if_pos rfl]
      refine ⟨fun e => by simp at e, fun S e => ?_⟩
      cases e
      exact ⟨up_at _ _ _ _, q1.fr (fun b j hb => up_ne (by omega))⟩
    · rw [if_neg z]
      obtain ⟨n0, n1⟩ := h5 s' hs'
      exact ⟨fun e => by rw [up_ne (by omega), f1 _ _ (by omega)]; exact n0 e, fun S e => ⟨by rw [up_ne (by omega), f1 _ _ (by omega)]; exact (n1 S e).1, (n1 S e).2.fr (fun b j hb => by rw [up_ne (by omega), f1 _ _ (by omega)])⟩⟩
  · rw [up_ne (by omega), f1 _ _ (by omega)]
    rcases h6 with h | h
    · exact Or.inl h
    · exact Or.inr ⟨h.1, h.2.fr (by rw [up_ne (by omega), f1 _ _ (by omega)]) (fun j => by rw [up_ne (by omega), f1 _ _ (by omega)])⟩
  · rw [up_ne (by omega), f1 _ _ (by omega), up_ne (by omega), f1 _ _ (by omega)]; exact h7
theorem sp_crestore {a : Int} {K : Int → km_V → Prop} (ha : kR a) (hC : kC V R ps hs) (ok : kOk R ps hs) (k1 : ∀ S, hget hs a = some S → ∀ W, kC W S [] hs → cFr V W → K 1 W) (k0 : hget hs a = none → K 0 V) : kCI xs Lx (d + 4) 115 2 [.ref 0, kI a] V K := by
  obtain ⟨h1, h2, h3, h4, h5, h6, h7⟩ := id hC
  have out : ¬ (0 ≤ a ∧ a ≤ 2) → hget hs a = none := fun h => by unfold hget; rw [if_neg h]
  refine b115_0 ⟨ha, fun h => ⟨_, rfl, k0 (out (by omega))⟩, fun h => ⟨fun h => ⟨_, rfl, k0 (out (by omega))⟩, fun h' => ⟨by omega, ?_⟩⟩⟩
  obtain ⟨s, rfl⟩ : ∃ s : Nat, a = (s : Int) := ⟨Int.toNat a, by omega⟩
  have g : hget hs (s : Int) = hs s := by unfold hget; rw [if_pos (by omega)]; rfl
  rw [g] at k0 k1
  obtain ⟨n0, n1⟩ := h5 s (by omega)
  simp only [tn]
  cases e : hs s with
  | none =>
    rw [n0 e]
    exact ⟨by omega, fun _ => ⟨_, rfl, k0 e⟩, fun h => absurd rfl h⟩
  | some S =>
    have okS := ok.2.2 s S e
    obtain ⟨m1, m2⟩ := n1 S e
    rw [m1]
    refine ⟨by omega, fun h => by omega, fun _ => ⟨by omega, ?_⟩⟩
    have shs : ∀ s : Nat, s < 3 → km_sh[287 + 4 * s]? = some (5, 5) := by decide
    refine sp_copy (d := d + 3) (by decide) (shs s (by omega)) (m2.fr (fun b j hb => up_ne (by omega))) okS (fun W1 q1 f1 => ?_)
    have hP : kPa W1 [] := by
      obtain ⟨_, nx, hn, hn2, _⟩ := h4
      exact ⟨by rw [f1 _ _ (by omega), up_at]; rfl, nx, hn, by rw [f1 _ _ (by omega), up_ne (by omega)]; exact hn2, fun i hi => absurd hi (by simp)⟩
    refine sp_changed q1 okS hP (h5.fr (fun b j hb => by rw [f1 _ _ (by omega), up_ne (by omega)])) (fun W5 c5 f5 => ⟨_, rfl, ?_⟩)
    exact k1 S e W5 c5 (fun b j hb => by rw [f5 _ _ (by omega), f1 _ _ (by omega), up_ne (by omega)])
end CCM

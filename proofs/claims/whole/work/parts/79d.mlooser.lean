/-! what some slides make loose, in the model -/
theorem rwReach_i {m : Nat} {S : Rw} (ng : (rwGoF S).isSome = false) : rwReach m S = true ↔ ∃ f, 0 ≤ f ∧ f < (rwFc S).length ∧ rwK S f = 3 ∧ 1 ≤ m ∧ rwReach (m - 1) (rwSlide S f) = true := by
  cases m with
  | zero =>
    constructor
    · intro h
      have : (rwGoF S).isSome = true := h
      rw [ng] at this; exact absurd this (by decide)
    · rintro ⟨f, _, _, _, h, _⟩; omega
  | succ m =>
    rw [rwReach_s]
    constructor
    · rintro (h | ⟨f, a, b, c⟩)
      · rw [ng] at h; exact absurd h (by decide)
      · exact ⟨f, by omega, a, b, by omega, c⟩
    · rintro ⟨f, _, a, b, _, c⟩
      exact Or.inr ⟨f, a, b, c⟩
def frL (i : Nat) (V W : km_V) : Prop := ∀ b j, ¬ (b = 326 ∨ b = 299 ∧ (j = 25 ∨ j = 32) ∨ 313 ≤ b ∧ b ≤ 321 ∨ b = 333 ∧ 78 * (i + 1) ≤ j ∨ b = 334 ∧ i ≤ j) → W b j = V b j
section MLS
variable {xs : Nat → Int32} {Lx d : Nat} {R : Rw} {hs : Hs} {ps : List Rw}
theorem sp_mfewer {i : Nat} {S : Rw} {V : km_V} {K : Int → km_V → Prop} (hi : i < 4) (hM : kM V R ps hs) (ok : rwOk S) (hn : rwn S = rwn R) (hS : kRf (fun j => V 333 (78 * i + j)) S) (okR : rwOk R) (k1 : (rwGoF S).isSome = true → ∀ W, (∀ b j, ¬ (b = 326 ∨ b = 299 ∧ (j = 25 ∨ j = 32) ∨ 313 ≤ b ∧ b ≤ 321) → W b j = V b j) → K 1 W) (k0 : (rwGoF S).isSome = false → ∀ W, (∀ b j, ¬ (b = 326 ∨ b = 299 ∧ (j = 25 ∨ j = 32) ∨ 313 ≤ b ∧ b ≤ 321) → W b j = V b j) → K 0 W) : kCI xs Lx (d + 5) 212 3 [.ref 299, kI (i : Int)] V K := by
  have o2 := okR.2.1
  refine b212_0 ?_
  refine kloop 78 (fun c W => (∀ j, j < c → W 326 j = V 333 (78 * i + j)) ∧ (∀ b j, b ≠ 326 → W b j = V b j)) (fun c W => kGo xs Lx (d + 5) 212 2 [some (.ref 299), some (kI (i : Int)), some (kI (c : Int))] [] W _) (fun W ⟨q1, q2⟩ => ?_) (fun c W hc ⟨q1, q2⟩ ih => ?_) 0 V (Nat.zero_le _) ⟨fun j hj => by omega, fun _ _ _ => rfl⟩
  · refine b212_2 ⟨by omega, fun _ => ?_, fun h => by omega⟩
    have hW : kRf (W 326) S := hS.fr ok (fun j hj => q1 j hj)
    refine sp_loosens (d := d) (by decide) (by omega) hW ok (fun W1 s1 f1 => ?_)
    have fr : ∀ b j, ¬ (b = 326 ∨ b = 299 ∧ (j = 25 ∨ j = 32) ∨ 313 ≤ b ∧ b ≤ 321) → W1 b j = V b j := fun b j hb => by rw [f1 _ _ (by omega), q2 _ _ (by omega)]
    have e1 : W1 326 (Int.toNat 1) = (rwn (rwShed 8 S) : Int) := s1.2.1
    have e2 : W1 307 (Int.toNat 1) = (rwn R : Int) := (fr _ _ (by omega)).trans hM.1.2.1
    have l := shed_less ok
    have so := (rwShed_ok 8 S ok).2
    rw [e1, e2]
    refine ⟨by omega, by omega, fun h => ⟨_, rfl, k0 ?_ W1 fr⟩, fun h => ⟨_, rfl, k1 (l.mp (by omega)) W1 fr⟩⟩
    cases hg : (rwGoF S).isSome with
    | false => rfl
    | true => have := l.mpr hg; omega
  · have n1 : Int.toNat (78 * (i : Int) + (c : Int)) = 78 * i + c := by omega
    refine b212_2 ⟨by omega, fun h => by omega, fun _ => ⟨by omega, by omega, ih _ ⟨fun j hj => ?_, fun b j hb => by rw [up_ne (by omega)]; exact q2 b j hb⟩⟩⟩
    rw [n1, tn]
    by_cases z : j = c
    · subst z; rw [up_at, q2 _ _ (by omega)]
    · rw [up_ne (by omega)]; exact q1 j (by omega)
theorem kM.frL {V W : km_V} {i : Nat} (h : kM V R ps hs) (ok : rwOk R) (hf : frL i V W) : kM W R ps hs := h.fr ok (fun b j hb => hf b j (by omega))
theorem mlvl_step (okR : rwOk R) {Q : Option Value → km_V → Prop} (m : Nat) (IH : ∀ m', m' + 1 = m → ∀ (i n : Nat), i + m' = n → n ≤ 3 → ∀ (S : Rw), rwOk S → rwn S = rwn R → ∀ (r : Nat) (f0 : Nat) (V : km_V), f0 + r = (rwFc S).length → kM V R ps hs → kRf (fun j => V 333 (78 * i + j)) S → V 334 i = (f0 : Int) → ((∃ f, f0 ≤ f ∧ f < (rwFc S).length ∧ rwK S f = 3 ∧ 1 ≤ m' ∧ rwReach (m' - 1) (rwSlide S f) = true) → ∀ W, frL i V W → Q (some (kI 1)) W) → ((¬ ∃ f, f0 ≤ f ∧ f < (rwFc S).length ∧ rwK S f = 3 ∧ 1 ≤ m' ∧ rwReach (m' - 1) (rwSlide S f) = true) → ∀ W, frL i V W → kGo xs Lx (d + 6) 213 56 [some (.ref 299), some (kI (n : Int)), some (kI ((i : Int) - 1)), none, none] [] W Q) → kGo xs Lx (d + 6) 213 56 [some (.ref 299), some (kI (n : Int)), some (kI (i : Int)), none, none] [] V Q) : ∀ (i n : Nat), i + m = n → n ≤ 3 → ∀ (S : Rw), rwOk S → rwn S = rwn R → ∀ (r : Nat) (f0 : Nat) (V : km_V), f0 + r = (rwFc S).length → kM V R ps hs → kRf (fun j => V 333 (78 * i + j)) S → V 334 i = (f0 : Int) → ((∃ f, f0 ≤ f ∧ f < (rwFc S).length ∧ rwK S f = 3 ∧ 1 ≤ m ∧ rwReach (m - 1) (rwSlide S f) = true) → ∀ W, frL i V W → Q (some (kI 1)) W) → ((¬ ∃ f, f0 ≤ f ∧ f < (rwFc S).length ∧ rwK S f = 3 ∧ 1 ≤ m ∧ rwReach (m - 1) (rwSlide S f) = true) → ∀ W, frL i V W → kGo xs Lx (d + 6) 213 56 [some (.ref 299), some (kI (n : Int)), some (kI ((i : Int) - 1)), none, none] [] W Q) → kGo xs Lx (d + 6) 213 56 [some (.ref 299), some (kI (n : Int)), some (kI (i : Int)), none, none] [] V Q := by
  intro i n hin hn3 S okS hnS r
  have fl := rwFc_len S
  have sl := okS.len
  have so := okS.2.1
  induction r using Nat.strongRecOn with
  | ind r ihr =>
    intro f0 V hr hM hS h34 k1 k0
    refine b213_56 ⟨by omega, fun h => by omega, fun _ => ?_⟩
    refine kloop 78 (fun c W => (∀ j, j < c → W 326 j = V 333 (78 * i + j)) ∧ (∀ b j, b ≠ 326 → W b j = V b j)) (fun c W => kGo xs Lx (d + 6) 213 62 [some (.ref 299), some (kI (n : Int)), some (kI (i : Int)), some (kI (c : Int)), none] [] W Q) (fun W ⟨q1, q2⟩ => ?_) (fun c W hc ⟨q1, q2⟩ ih => ?_) 0 V (Nat.zero_le _) ⟨fun j hj => by omega, fun _ _ _ => rfl⟩
    · refine b213_62 ⟨by omega, fun _ => ?_, fun h => by omega⟩
      have hW : kRf (W 326) S := hS.fr okS (fun j hj => q1 j hj)
      refine sp_laysFaces (d := d + 3) (by decide) (by omega) hW okS (fun W1 qF f1 => ?_)
      have key := kloop (rwFc S).length (fun c X => f0 ≤ c ∧ (∀ f, f0 ≤ f → f < c → rwK S f ≠ 3) ∧ kMF X S ∧ kRf (X 326) S ∧ X 334 i = (c : Int) ∧ (∀ b j, ¬ (b = 326 ∨ b = 299 ∧ (j = 25 ∨ j = 32) ∨ 313 ≤ b ∧ b ≤ 321 ∨ b = 334 ∧ i = j) → X b j = V b j)) (fun c X => kGo xs Lx (d + 6) 213 100 [some (.ref 299), some (kI (n : Int)), some (kI (i : Int)), some (kI ((rwFc S).length : Int)), none] [] X Q) (fun X ⟨r0, r1, r2, r3, r4, r5⟩ => ?_) (fun c X hc ⟨r0, r1, r2, r3, r4, r5⟩ ih2 => ?_) f0 W1 (by omega) ⟨Nat.le_refl _, fun f a b => by omega, qF, hW.fr okS (fun j _ => f1 _ _ (by omega)), (f1 _ _ (by omega)).trans ((q2 _ _ (by omega)).trans h34), fun b j hb => by rw [f1 _ _ (by omega), q2 _ _ (by omega)]⟩
      · exact key
      · have none' : ¬ ∃ f, f0 ≤ f ∧ f < (rwFc S).length ∧ rwK S f = 3 ∧ 1 ≤ m ∧ rwReach (m - 1) (rwSlide S f) = true := fun ⟨f, a, b, c, _⟩ => r1 f a b c
        have back := k0 none' X (fun b j hb => r5 b j (by omega))
        rw [show (i : Int) - 1 = (i : Int) + (-1) by omega] at back
        refine b213_100 ?_
        rw [tn, r4]
        exact ⟨by omega, by omega, by omega, fun _ => ⟨by omega, by omega, fun _ => back, fun _ => back⟩, fun h => by omega⟩
      · have kl := rwK_le S c
        refine b213_100 ?_
        rw [tn, r4]
        refine ⟨by omega, by omega, by omega, fun h => by omega, fun _ => ?_⟩
        refine sp_kindOf (d := d + 3) (by decide) r3 okS r2 hc ⟨by omega, fun e3 => ⟨by omega, by omega, fun e => ?_, fun ne => ⟨by rw [r4]; omega, fun _ => ?_, fun h => by rw [r4] at h; omega⟩⟩, fun n3 => ?_⟩
        · have none' : ¬ ∃ f, f0 ≤ f ∧ f < (rwFc S).length ∧ rwK S f = 3 ∧ 1 ≤ m ∧ rwReach (m - 1) (rwSlide S f) = true := fun ⟨f, _, _, _, h, _⟩ => by omega
          have back := k0 none' X (fun b j hb => r5 b j (by omega))
          rw [show (i : Int) - 1 = (i : Int) + (-1) by omega] at back
          exact back
        · have hk3 : rwK S c = 3 := by omega
          have m1 : 1 ≤ m := by omega
          rw [r4]
          refine sp_slides (d := d + 3) (by decide) (by omega) r3 okS r2 hc hk3 (fun X2 s1 g1 => ?_)
          have okT := rwSlide_ok okS hc
          have e34 : X2 334 i = (c : Int) := (g1 _ _ (by omega)).trans r4
          rw [e34]
          refine kloop 78 (fun c' Y => (∀ j, j < c' → Y 333 (78 * (i + 1) + j) = X2 326 j) ∧ (∀ b j, ¬ (b = 333 ∧ 78 * (i + 1) ≤ j) → Y b j = up X2 334 i ((c : Int) + 1) b j)) (fun c' Y => kGo xs Lx (d + 6) 213 192 [some (.ref 299), some (kI (n : Int)), some (kI ((i : Int) + 1)), none, some (kI (c' : Int))] [] Y Q) (fun Y ⟨u1, u2⟩ => ?_) (fun c' Y hc' ⟨u1, u2⟩ ih3 => ?_) 0 _ (Nat.zero_le _) ⟨fun j hj => by omega, fun _ _ _ => rfl⟩
          · refine b213_192 ⟨by omega, fun _ => ⟨by omega, ?_⟩, fun h => by omega⟩
            rw [tn1]
            generalize hY : up Y 334 (i + 1) 0 = Z
            have fz : ∀ b j, ¬ (b = 326 ∨ b = 299 ∧ (j = 25 ∨ j = 32) ∨ 313 ≤ b ∧ b ≤ 321 ∨ b = 334 ∧ i ≤ j ∨ b = 333 ∧ 78 * (i + 1) ≤ j) → Z b j = V b j := fun b j hb => by
              rw [← hY, up_ne (by omega), u2 _ _ (by omega), up_ne (by omega), g1 _ _ (by omega), r5 _ _ (by omega)]
            have hMZ : kM Z R ps hs := hM.fr okR (fun b j hb => fz _ _ (by omega))
            have hSZ : kRf (fun j => Z 333 (78 * (i + 1) + j)) (rwSlide S c) := s1.fr okT.1 (fun j hj => by rw [← hY, up_ne (by omega)]; exact u1 j hj)
            have z34 : Z 334 i = ((c + 1 : Nat) : Int) := by
              rw [← hY, up_ne (by omega), u2 _ _ (by omega), up_at]; omega
            have z35 : Z 334 (i + 1) = ((0 : Nat) : Int) := by rw [← hY, up_at]; rfl
            -- going on at this level
            have again : ∀ W, frL (i + 1) Z W → rwReach (m - 1) (rwSlide S c) = false → kGo xs Lx (d + 6) 213 56 [some (.ref 299), some (kI (n : Int)), some (kI (i : Int)), none, none] [] W Q := by
              intro W fw hno
              have fwV : frL i V W := fun b j hb => by rw [fw b j (by omega), fz b j (by omega)]
              refine ihr ((rwFc S).length - (c + 1)) (by omega) (c + 1) W (by omega) (hMZ.fr okR (fun b j hb => fw _ _ (by omega))) (hS.fr okS (fun j hj => by rw [fw _ _ (by omega), fz _ _ (by omega)])) ((fw _ _ (by omega)).trans z34) (fun ⟨f, a, b⟩ W2 fw2 => k1 ⟨f, by omega, b⟩ W2 (fun b j hb => by rw [fw2 b j hb]; exact fwV b j hb)) (fun hn W2 fw2 => k0 (fun ⟨f, a, b, b2, b3⟩ => ?_) W2 (fun b j hb => by rw [fw2 b j hb]; exact fwV b j hb))
              by_cases z : f < c
              · exact r1 f a z b2
              · by_cases z2 : f = c
                · subst z2; rw [b3.2] at hno; exact absurd hno (by decide)
                · exact hn ⟨f, by omega, b, b2, b3⟩
            have found : ∀ W, frL i V W → rwReach (m - 1) (rwSlide S c) = true → Q (some (kI 1)) W := fun W fw h => k1 ⟨c, by omega, hc, hk3, m1, h⟩ W fw
            refine sp_mfewer (i := i + 1) (by omega) hMZ okT.1 (by rw [okT.2]; exact hnS) hSZ okR (fun g W fw => ⟨by omega, fun h => absurd h (by omega), fun _ => found W (fun b j hb => by rw [fw b j (by omega), fz b j (by omega)]) (rwReach_go g)⟩) (fun g W fw => ⟨by omega, fun _ => ?_, fun h => absurd rfl h⟩)
            have hMW : kM W R ps hs := hMZ.fr okR (fun b j hb => fw _ _ (by omega))
            have im := rwReach_i (m := m - 1) g
            have key := IH (m - 1) (by omega) (i + 1) n (by omega) hn3 (rwSlide S c) okT.1 (by rw [okT.2]; exact hnS) (rwFc (rwSlide S c)).length 0 W (by omega) hMW (hSZ.fr okT.1 (fun j hj => fw _ _ (by omega))) ((fw _ _ (by omega)).trans z35) (fun h W2 fw2 => found W2 (fun b j hb => by rw [fw2 b j (by omega), fw b j (by omega), fz b j (by omega)]) (im.mpr h)) (fun h W2 fw2 => by
              have := again W2 (fun b j hb => by rw [fw2 b j hb, fw b j (by omega)]) (by
                cases hb : rwReach (m - 1) (rwSlide S c) with
                | false => rfl
                | true => exact absurd (im.mp hb) h)
              rw [show (((i + 1 : Nat) : Int)) - 1 = (i : Int) by omega]
              exact this)
            exact key
          · have n1 : Int.toNat (78 * ((i : Int) + 1) + (c' : Int)) = 78 * (i + 1) + c' := by omega
            refine b213_192 ⟨by omega, fun h => by omega, fun _ => ⟨by omega, by omega, ih3 _ ⟨fun j hj => ?_, fun b j hb => by rw [up_ne (by omega)]; exact u2 b j hb⟩⟩⟩
            rw [n1, tn]
            by_cases z : j = c'
            · subst z; rw [up_at, u2 _ _ (by omega), up_ne (by omega)]
            · rw [up_ne (by omega)]; exact u1 j (by omega)
        · rw [r4]
          refine ih2 _ ⟨by omega, fun f a b => ?_, r2.fr (up_ne (by omega)) (up_ne (by omega)) (fun b j hb => up_ne (by omega)), r3.fr okS (fun j _ => up_ne (by omega)), up_at _ _ _ _, fun b j hb => by rw [up_ne (by omega)]; exact r5 b j hb⟩
          by_cases z : f = c
          · subst z; omega
          · exact r1 f a (by omega)
    · have n1 : Int.toNat (78 * (i : Int) + (c : Int)) = 78 * i + c := by omega
      refine b213_62 ⟨by omega, fun h => by omega, fun _ => ⟨by omega, by omega, ih _ ⟨fun j hj => ?_, fun b j hb => by rw [up_ne (by omega)]; exact q2 b j hb⟩⟩⟩
      rw [n1, tn]
      by_cases z : j = c
      · subst z; rw [up_at, q2 _ _ (by omega)]
      · rw [up_ne (by omega)]; exact q1 j (by omega)
theorem mlvl (okR : rwOk R) {Q : Option Value → km_V → Prop} : ∀ (m i n : Nat), i + m = n → n ≤ 3 → ∀ (S : Rw), rwOk S → rwn S = rwn R → ∀ (r : Nat) (f0 : Nat) (V : km_V), f0 + r = (rwFc S).length → kM V R ps hs → kRf (fun j => V 333 (78 * i + j)) S → V 334 i = (f0 : Int) → ((∃ f, f0 ≤ f ∧ f < (rwFc S).length ∧ rwK S f = 3 ∧ 1 ≤ m ∧ rwReach (m - 1) (rwSlide S f) = true) → ∀ W, frL i V W → Q (some (kI 1)) W) → ((¬ ∃ f, f0 ≤ f ∧ f < (rwFc S).length ∧ rwK S f = 3 ∧ 1 ≤ m ∧ rwReach (m - 1) (rwSlide S f) = true) → ∀ W, frL i V W → kGo xs Lx (d + 6) 213 56 [some (.ref 299), some (kI (n : Int)), some (kI ((i : Int) - 1)), none, none] [] W Q) → kGo xs Lx (d + 6) 213 56 [some (.ref 299), some (kI (n : Int)), some (kI (i : Int)), none, none] [] V Q := by
  intro m
  induction m with
  | zero => exact mlvl_step okR 0 (fun m' h => absurd h (by omega))
  | succ m ih => exact mlvl_step okR (m + 1) (fun m' h => by
      have : m' = m := by omega
      subst this; exact ih)
theorem sp_mlooser {V : km_V} {a : Int} {K : Int → km_V → Prop} (ha : kR a) (hM : kM V R ps hs) (ok : kOk R ps hs) (k : ∀ W, kM W R ps hs → mFr V W → K (qLooser R a) W) : kCI xs Lx (d + 6) 213 5 [.ref 299, kI a] V K := by
  unfold qLooser at k
  refine b213_0 ?_
  simp only [kin_eq]
  refine ⟨ha, by split <;> omega, fun h => ?_, fun h => ⟨_, rfl, ?_⟩⟩
  · have c : 0 ≤ a ∧ a ≤ 3 := by
      by_cases c : 0 ≤ a ∧ a ≤ 3
      · exact c
      · rw [if_neg c] at h; omega
    obtain ⟨n, rfl⟩ : ∃ n : Nat, a = (n : Int) := ⟨Int.toNat a, by omega⟩
    simp only [if_pos c, tn] at k
    refine kloop 78 (fun c W => (∀ j, j < c → W 333 j = V 307 j) ∧ (∀ b j, b ≠ 333 → W b j = V b j)) (fun c W => kGo xs Lx (d + 6) 213 13 [some (.ref 299), some (kI (n : Int)), some (kI (c : Int)), none, none] [] W _) (fun W ⟨q1, q2⟩ => ?_) (fun c W hc ⟨q1, q2⟩ ih => ?_) 0 V (Nat.zero_le _) ⟨fun j hj => by omega, fun _ _ _ => rfl⟩
    · refine b213_13 ⟨by omega, fun _ => ?_, fun h => by omega⟩
      rw [show Int.toNat 0 = 0 from rfl]
      generalize hZ : up W 334 0 0 = Z
      have fz : ∀ b j, ¬ (b = 333 ∨ b = 334) → Z b j = V b j := fun b j hb => by rw [← hZ, up_ne (by omega), q2 _ _ (by omega)]
      have hMZ : kM Z R ps hs := hM.fr ok.1 (fun b j hb => fz _ _ (by omega))
      have hSZ : kRf (fun j => Z 333 (78 * 0 + j)) R := hM.1.fr ok.1 (fun j hj => by
        show Z 333 (78 * 0 + j) = V 307 j
        rw [show 78 * 0 + j = j by omega, ← hZ, up_ne (by omega)]; exact q1 j hj)
      have fin : ∀ W, (∀ b j, ¬ (b = 326 ∨ b = 299 ∧ (j = 25 ∨ j = 32) ∨ 313 ≤ b ∧ b ≤ 321 ∨ b = 333 ∨ b = 334) → W b j = V b j) → K (if rwReach n R then 1 else 0) W := fun W f => k W (hM.fr ok.1 (fun b j hb => f _ _ (by omega))) (fun b j hb => f _ _ (by omega))
      refine sp_mfewer (i := 0) (by omega) hMZ ok.1 rfl hSZ ok.1 (fun g W fw => ⟨by omega, fun h => absurd h (by omega), fun _ => ⟨_, rfl, ?_⟩⟩) (fun g W fw => ⟨by omega, fun _ => ?_, fun h => absurd rfl h⟩)
      · have y := fin W (fun b j hb => by rw [fw _ _ (by omega), fz _ _ (by omega)])
        rw [if_pos (rwReach_go g)] at y
        exact y
      · have im := rwReach_i (m := n) g
        have z34 : W 334 0 = ((0 : Nat) : Int) := by rw [fw _ _ (by omega), ← hZ, up_at]; rfl
        have key := mlvl (xs := xs) (Lx := Lx) (d := d) ok.1 (Q := fun r V' => ∃ v : Int, r = some (kI v) ∧ K v V') n 0 n (by omega) (by omega) R ok.1 rfl (rwFc R).length 0 W (by omega) (hMZ.fr ok.1 (fun b j hb => fw _ _ (by omega))) (hSZ.fr ok.1 (fun j hj => fw _ _ (by omega))) z34 (fun h W2 fw2 => ⟨_, rfl, ?_⟩) (fun h W2 fw2 => b213_56 ⟨by omega, fun _ => ⟨_, rfl, ?_⟩, fun h => absurd h (by omega)⟩)
        · exact key
        · have y := fin W2 (fun b j hb => by rw [fw2 _ _ (by omega), fw _ _ (by omega), fz _ _ (by omega)])
          rw [if_pos (im.mpr h)] at y
          exact y
        · have y := fin W2 (fun b j hb => by rw [fw2 _ _ (by omega), fw _ _ (by omega), fz _ _ (by omega)])
          rw [if_neg (fun z => h (im.mp z))] at y
          exact y
    · refine b213_13 ⟨by omega, fun h => by omega, fun _ => ⟨by omega, by omega, ih _ ⟨fun j hj => ?_, fun b j hb => by rw [up_ne (by omega)]; exact q2 b j hb⟩⟩⟩
      rw [tn]
      by_cases z : j = c
      · subst z; rw [up_at, q2 _ _ (by omega)]
      · rw [up_ne (by omega)]; exact q1 j (by omega)
  · have y := k V hM (fun _ _ _ => rfl)
    rw [if_neg (fun c => by rw [if_pos c] at h; omega)] at y
    exact y
end MLS

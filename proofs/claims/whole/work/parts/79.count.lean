/-! colourings, what is alike, what is counted -/
def hMany (hs : Hs) : Int := (if (hs 0).isSome then 1 else 0) + (if (hs 1).isSome then 1 else 0) + (if (hs 2).isSome then 1 else 0)
def qCountP (R : Rw) (ps : List Rw) (hs : Hs) (tl a v : Int) : Prop := (a = 8 ∧ rwSpanP R v) ∨ (a ≠ 8 ∧ v = if a = 0 then (R.1.length : Int) else if a = 1 then (rwn R : Int) else if a = 2 then 2 * (rwn R : Int) else if a = 3 then ((rwFc R).length : Int) else if a = 4 then (rwParts R : Int) else if a = 5 then rwWr R else if a = 6 then (rwAc R : Int) else if a = 7 then rwDet R else if a = 9 then (rwLo R : Int) else if a = 10 then (rwKm R 1 : Int) else if a = 11 then (rwKm R 2 : Int) else if a = 12 then (rwKm R 3 : Int) else if a = 13 then (if rwTu R then 1 else 0) else if a = 14 then tl else if a = 15 then (ps.length : Int) else if a = 16 then hMany hs else -100000)
theorem qCountP.uniq {R : Rw} {ps : List Rw} {hs : Hs} {tl a v w : Int} (h1 : qCountP R ps hs tl a v) (h2 : qCountP R ps hs tl a w) : v = w := by
  rcases h1 with ⟨e1, h1⟩ | ⟨e1, h1⟩ <;> rcases h2 with ⟨e2, h2⟩ | ⟨e2, h2⟩
  · exact h1.uniq h2
  · exact absurd e1 e2
  · exact absurd e2 e1
  · rw [h1, h2]
section CNT
variable {xs : Nat → Int32} {Lx d : Nat} {V : km_V} {R S : Rw} {hs : Hs} {ps : List Rw}
theorem sp_ccol {a : Int} {K : Int → km_V → Prop} (ha : kR a) (hC : kC V R ps hs) (ok : kOk R ps hs) (k : ∀ W, kC W R ps hs → cFr V W → K (qCol R a) W) : kCJ xs Lx (d + 4) 110 2 [.ref 0, kI a] V K := by
  obtain ⟨h1, h2, h3, h4, h5, h6, h7⟩ := id hC
  have go : ∀ p : Nat, a = (p : Int) → (a = 2 ∨ a = 3 ∨ a = 5 ∨ a = 7 ∨ a = 11 ∨ a = 13) → kCJ xs Lx (d + 3) 9 8 [.ref 28, kI a, .ref 13, .ref 17] V (fun y1 W1 => ∃ v : Int, some (kJ y1) = some (kJ v) ∧ K v W1) := by
    intro p e hp
    subst e
    refine sp_colouringsBy (by decide) (by decide) (by omega) (by omega) h1 ok.1 h2.1 h3 (by omega) (fun W f => ⟨_, rfl, ?_⟩)
    have y := k W (hC.fr (fun b j hb => f _ _ (by omega))) (fun b j hb => f _ _ (by omega))
    unfold qCol at y
    rw [if_pos hp, tn] at y
    exact y
  refine b110_0 ⟨ha, fun e => go 2 e (by omega), fun n2 => ⟨fun e => go 3 e (by omega), fun n3 => ⟨fun e => go 5 e (by omega), fun n5 => ⟨fun e => go 7 e (by omega), fun n7 => ⟨fun e => go 11 e (by omega), fun n11 => ⟨fun e => go 13 e (by omega), fun n13 => ⟨_, rfl, ?_⟩⟩⟩⟩⟩⟩⟩
  have y := k V hC (fun _ _ _ => rfl)
  unfold qCol at y
  rw [if_neg (by omega)] at y
  exact y
theorem sp_mcol {a : Int} {K : Int → km_V → Prop} (ha : kR a) (hM : kM V R ps hs) (ok : kOk R ps hs) (k : ∀ W, kM W R ps hs → mFr V W → K (qCol R a) W) : kCJ xs Lx (d + 4) 205 8 [.ref 299, kI a] V K := by
  refine sp_mcolourings hM.1 ok.1 ha (fun hn => ?_) (fun p e hp W f => ?_)
  · have y := k V hM (fun _ _ _ => rfl)
    unfold qCol at y
    rw [if_neg hn] at y
    exact y
  · subst e
    have y := k W (hM.fr ok.1 (fun b j hb => f _ _ (by omega))) (fun b j hb => f _ _ (by omega))
    unfold qCol at y
    rw [if_pos hp, tn] at y
    rw [mnRk_eq (p := (p : Int)) (by omega) (arcs := rwAc R) (rwAc R) 0 0 (rwM0 R p) (rwM R) (by omega) (fun i j _ _ _ hj => ?_)]
    · exact y
    · unfold rwM0
      rw [if_pos hj]
      exact ⟨Int.emod_nonneg _ (by omega), Int.emod_lt_of_pos _ (by omega), rfl⟩
theorem sp_calike {a b : Int} {K : Int → km_V → Prop} (ha : kR a) (hb : kR b) (hC : kC V R ps hs) (ok : kOk R ps hs) (k : ∀ W, kC W R ps hs → cFr V W → ∀ v, qAlikeP R hs a b v → K v W) : kCI xs Lx (d + 5) 113 3 [.ref 0, kI a, kI b] V K := by
  obtain ⟨h1, h2, h3, h4, h5, h6, h7⟩ := id hC
  have no : (hget hs a = none ∨ ¬ (0 ≤ b ∧ b ≤ 2)) → kGo xs Lx (d + 5) 113 17 [none, none, none] [] V (fun r V' => ∃ v : Int, r = some (kI v) ∧ K v V') := fun h => b113_17 ⟨_, rfl, k V hC (fun _ _ _ => rfl) _ (Or.inl ⟨h, rfl⟩)⟩
  have out : ¬ (0 ≤ a ∧ a ≤ 2) → hget hs a = none := fun h => by unfold hget; rw [if_neg h]
  refine b113_0 ⟨ha, fun h => no (Or.inl (out (by omega))), fun a0 => ⟨fun h => no (Or.inl (out (by omega))), fun a1 => ⟨by omega, ?_⟩⟩⟩
  obtain ⟨s, rfl⟩ : ∃ s : Nat, a = (s : Int) := ⟨Int.toNat a, by omega⟩
  have g : hget hs (s : Int) = hs s := by unfold hget; rw [if_pos (by omega)]; rfl
  obtain ⟨n0, n1⟩ := h5 s (by omega)
  simp only [tn]
  cases e : hs s with
  | none =>
    rw [n0 e]
    exact ⟨by omega, fun _ => no (Or.inl (by rw [g]; exact e)), fun h => absurd rfl h⟩
  | some S =>
    have okS := ok.2.2 s S e
    obtain ⟨m1, m2⟩ := n1 S e
    have gS : hget hs (s : Int) = some S := by rw [g]; exact e
    have shs : ∀ s : Nat, s < 3 → km_sh[287 + 4 * s]? = some (5, 5) := by decide
    rw [m1]
    refine ⟨by omega, fun h => absurd h (by omega), fun _ => ⟨hb, fun h => no (Or.inr (by omega)), fun b0 => ⟨fun b2 => ⟨fun n2 => ⟨by omega, ?_⟩, fun e2 => ⟨by omega, ?_⟩⟩, fun h => no (Or.inr (by omega))⟩⟩⟩
    · refine sp_trace (d := d + 2) (by decide) (shs s (by omega)) (by omega) m2 okS (fun W1 q1 f1 => ?_)
      have m2' : kRC W1 (287 + 4 * s) S := m2.fr (fun b j hb => f1 _ _ (by omega))
      refine sp_addUp (d := d + 1) (by decide) (by decide) (shs s (by omega)) (by omega) (by omega) m2' okS q1.1 (fun W2 hS f2 => ?_)
      have hC2 : kC W2 R ps hs := hC.fr (fun b j hb => by rw [f2 _ _ (by omega), f1 _ _ (by omega)])
      have fr2 : cFr V W2 := fun b j hb => by rw [f2 _ _ (by omega), f1 _ _ (by omega)]
      have fin : ∀ W, kC W R ps hs → cFr V W → kBr W 39 R → kBr W 42 S → (kR b) ∧ ((b ≠ 1 → kCI xs Lx (d + 4) 18 4 [.ref 39, .ref 42, kI 0] W (fun y3 W3 => (kR y3) ∧ ((y3 = 0 → ∃ v : Int, some (kI 0) = some (kI v) ∧ K v W3) ∧ (y3 ≠ 0 → ∃ v : Int, some (kI 1) = some (kI v) ∧ K v W3)))) ∧ (b = 1 → kCI xs Lx (d + 4) 18 4 [.ref 39, .ref 42, kI 1] W (fun y3 W3 => (kR y3) ∧ ((y3 = 0 → ∃ v : Int, some (kI 0) = some (kI v) ∧ K v W3) ∧ (y3 ≠ 0 → ∃ v : Int, some (kI 1) = some (kI v) ∧ K v W3))))) := by
        intro W c1 c2 hB hS
        have y := k W c1 c2
        refine ⟨hb, fun n1 => ?_, fun e1 => ?_⟩
        · have dd : decide (b = 1) = false := decide_eq_false n1
          refine sp_knottedAlike (d := d + 2) (m := false) (by decide) (by decide) hB hS ok.1 okS (fun sm => ⟨by omega, fun h => absurd h (by omega), fun _ => ⟨_, rfl, y 1 (Or.inr ⟨S, gS, ⟨b0, b2⟩, Or.inr ⟨n2, Or.inl ⟨by rw [dd]; exact sm, rfl⟩⟩⟩)⟩⟩) (fun sm => ⟨by omega, fun _ => ⟨_, rfl, y 0 (Or.inr ⟨S, gS, ⟨b0, b2⟩, Or.inr ⟨n2, Or.inr ⟨by rw [dd]; exact sm, rfl⟩⟩⟩)⟩, fun h => absurd rfl h⟩)
        · have dd : decide (b = 1) = true := decide_eq_true e1
          refine sp_knottedAlike (d := d + 2) (m := true) (by decide) (by decide) hB hS ok.1 okS (fun sm => ⟨by omega, fun h => absurd h (by omega), fun _ => ⟨_, rfl, y 1 (Or.inr ⟨S, gS, ⟨b0, b2⟩, Or.inr ⟨n2, Or.inl ⟨by rw [dd]; exact sm, rfl⟩⟩⟩)⟩⟩) (fun sm => ⟨by omega, fun _ => ⟨_, rfl, y 0 (Or.inr ⟨S, gS, ⟨b0, b2⟩, Or.inr ⟨n2, Or.inr ⟨by rw [dd]; exact sm, rfl⟩⟩⟩)⟩, fun h => absurd rfl h⟩)
      have h6' := hC2.2.2.2.2.2.1
      refine ⟨by rcases h6' with h | h <;> omega, fun h => ?_, fun h => ?_⟩
      · rcases h6' with z | z
        · exact absurd z h
        · exact fin W2 hC2 fr2 z.2 hS
      · refine sp_addUp (d := d) (by decide) (by decide) (by decide) (by omega) (by omega) hC2.1 ok.1 hC2.2.1.1 (fun W3 hB f3 => ?_)
        obtain ⟨c1, c2⟩ := kC_own hC2 hB f3
        exact fin _ c1 (fun b j hb => by rw [c2 b j hb]; exact fr2 b j hb) (hB.fr (up_ne (by omega)) (fun j => up_ne (by omega))) (hS.fr (by rw [up_ne (by omega), f3 _ _ (by omega)]) (fun j => by rw [up_ne (by omega), f3 _ _ (by omega)]))
    · have y := k V hC (fun _ _ _ => rfl)
      exact sp_same (d := d + 3) (by decide) (shs s (by omega)) h1 m2 ok.1 okS (fun sm => ⟨by omega, fun h => absurd h (by omega), fun _ => ⟨_, rfl, y 1 (Or.inr ⟨S, gS, ⟨b0, b2⟩, Or.inl ⟨e2, Or.inl ⟨sm, rfl⟩⟩⟩)⟩⟩) (fun sm => ⟨by omega, fun _ => ⟨_, rfl, y 0 (Or.inr ⟨S, gS, ⟨b0, b2⟩, Or.inl ⟨e2, Or.inr ⟨sm, rfl⟩⟩⟩)⟩, fun h => absurd rfl h⟩)
theorem sp_malike {a b : Int} {K : Int → km_V → Prop} (ha : kR a) (hb : kR b) (hM : kM V R ps hs) (ok : kOk R ps hs) (k : ∀ W, kM W R ps hs → mFr V W → ∀ v, qAlikeP R hs a b v → K v W) : kCI xs Lx (d + 3) 215 4 [.ref 299, kI a, kI b] V K := by
  refine b215_0 (sp_hasHeld (d := d + 1) ha hM.2.2 ok.2.2 (fun S e W q1 q2 => ⟨by omega, fun h => absurd h (by omega), fun _ => ?_⟩) (fun e => ⟨by omega, fun _ => ⟨_, rfl, k V hM (fun _ _ _ => rfl) _ (Or.inl ⟨Or.inl e, rfl⟩)⟩, fun h => absurd rfl h⟩))
  have okS := hget_ok ok.2.2 e
  have hMW : kM W R ps hs := hM.fr ok.1 (fun b j hb => q2 _ _ (by omega))
  have frW : mFr V W := fun b j hb => q2 _ _ (by omega)
  simp only [kin_eq]
  refine ⟨hb, by split <;> omega, fun h => ?_, fun h => ⟨_, rfl, k W hMW frW _ (Or.inl ⟨Or.inr (fun c => by rw [if_pos c] at h; omega), rfl⟩)⟩⟩
  have cb : 0 ≤ b ∧ b ≤ 2 := by
    by_cases c : 0 ≤ b ∧ b ≤ 2
    · exact c
    · rw [if_neg c] at h; omega
  refine ⟨fun n2 => ?_, fun e2 => ?_⟩
  · refine sp_laysBracket (d := d) (by decide) (by omega) q1 okS (fun W2 hB2 f2 => ?_)
    have key := kloop 199 (fun c X => kMB X S ∧ kRf (X 326) S ∧ kM X R ps hs ∧ mFr V X ∧ (∀ j : Nat, j < c → X 330 (1 + j) = rwKn S ((j : Int) - 99))) (fun c X => kGo xs Lx (d + 3) 215 48 [some (.ref 299), none, some (kI b), some (kI ((c : Int) - 99))] [] X (fun r V' => ∃ v : Int, r = some (kI v) ∧ K v V')) (fun X ⟨r1, r2, r3, r4, r5⟩ => ?_) (fun c X hc ⟨r1, r2, r3, r4, r5⟩ ih => ?_) 0 W2 (Nat.zero_le _) ⟨hB2, q1.fr okS (fun j _ => f2 _ _ (by omega)), hMW.fr ok.1 (fun b j hb => f2 _ _ (by omega)), (fun b j hb => by rw [f2 _ _ (by omega)]; exact frW b j hb), fun j hj => by omega⟩
    · exact key
    · refine b215_48 ⟨by omega, fun _ => ?_, fun h => by omega⟩
      refine sp_laysBracket (d := d) (by decide) (by omega) r3.1 ok.1 (fun Y hB f3 => ?_)
      have hMY : kM Y R ps hs := r3.fr ok.1 (fun b j hb => f3 _ _ (by omega))
      have frY : mFr V Y := fun b j hb => by rw [f3 _ _ (by omega)]; exact r4 b j hb
      have e30 : ∀ e : Int, -99 ≤ e → e ≤ 99 → Y 330 (Int.toNat (100 + e)) = rwKn S e := by
        intro e l1 l2
        have q := r5 (Int.toNat (99 + e)) (by omega)
        rw [f3 _ _ (by omega), show Int.toNat (100 + e) = 1 + Int.toNat (99 + e) by omega, q]
        congr 1; omega
      have far : ∀ T : Rw, rwOk T → ∀ e : Int, ¬ (-99 ≤ e ∧ e ≤ 99) → rwKn T e = 0 := fun T okT e h => rwKn_supp okT (by omega)
      have key2 := kloop0 199 (fun c => (∀ e : Int, -99 ≤ e → e < (c : Int) - 99 → rwKn R e = rwKn S (if decide (b = 1) = true then -e else e)) → kGo xs Lx (d + 3) 215 89 [some (.ref 299), none, some (kI b), some (kI ((c : Int) - 99))] [] Y (fun r V' => ∃ v : Int, r = some (kI v) ∧ K v V')) (fun hh => ?_) (fun c hc ih hh => ?_) 0 (Nat.zero_le _) (fun e h1 h2 => by omega)
      · exact key2
      · refine b215_89 ⟨by omega, fun _ => ⟨_, rfl, k Y hMY frY 1 (Or.inr ⟨S, e, cb, Or.inr ⟨n2, Or.inl ⟨fun e => ?_, rfl⟩⟩⟩)⟩, fun h => by omega⟩
        by_cases c : -99 ≤ e ∧ e ≤ 99
        · exact hh e c.1 (by omega)
        · rw [far R ok.1 e c]
          by_cases z : decide (b = 1) = true
          · rw [if_pos z, far S okS (-e) (by omega)]
          · rw [if_neg z, far S okS e c]
      · have b1 := rwKn_b ok.1 ((c : Int) - 99)
        have nx : rwKn R ((c : Int) - 99) = rwKn S (if decide (b = 1) = true then -((c : Int) - 99) else (c : Int) - 99) → kGo xs Lx (d + 3) 215 89 [some (.ref 299), none, some (kI b), some (kI ((c : Int) - 99 + 1))] [] Y (fun r V' => ∃ v : Int, r = some (kI v) ∧ K v V') := by
          intro h
          have := ih (fun e h1 h2 => by
            by_cases z : e = (c : Int) - 99
            · rw [z]; exact h
            · exact hh e h1 (by omega))
          rw [show ((c + 1 : Nat) : Int) - 99 = (c : Int) - 99 + 1 by omega] at this
          exact this
        have bad : rwKn R ((c : Int) - 99) ≠ rwKn S (if decide (b = 1) = true then -((c : Int) - 99) else (c : Int) - 99) → ∃ v : Int, some (kI 0) = some (kI v) ∧ K v Y := fun ne => ⟨_, rfl, k Y hMY frY 0 (Or.inr ⟨S, e, cb, Or.inr ⟨n2, Or.inr ⟨fun z => ne (z _), rfl⟩⟩⟩)⟩
        refine b215_89 ⟨by omega, fun h => by omega, fun _ => ?_⟩
        refine sp_mknottedAt (d := d + 1) (by decide) hMY.1 ok.1 hB (by omega) ⟨hb, fun nb => ?_, fun eb => ?_⟩
        · have dd : decide (b = 1) = true := decide_eq_true (by omega)
          rw [if_pos dd] at nx bad
          have b2 := rwKn_b okS (-((c : Int) - 99))
          rw [e30 _ (by omega) (by omega)]
          exact ⟨by omega, by omega, by omega, nx, bad⟩
        · have dd : ¬ (decide (b = 1) = true) := fun z => by have := of_decide_eq_true z; omega
          rw [if_neg dd] at nx bad
          have b2 := rwKn_b okS ((c : Int) - 99)
          rw [e30 _ (by omega) (by omega)]
          exact ⟨by omega, by omega, by omega, nx, bad⟩
    · refine b215_48 ⟨by omega, fun h => by omega, fun _ => ?_⟩
      refine sp_mknottedAt (d := d + 1) (by decide) r2 okS r1 (by omega) ⟨by omega, ?_⟩
      have nx := ih (up X 330 (Int.toNat (100 + ((c : Int) - 99))) (rwKn S ((c : Int) - 99))) ⟨fun j hj => by rw [up_ne (by omega)]; exact r1 j hj, r2.fr okS (fun j _ => up_ne (by omega)), r3.fr ok.1 (fun b j hb => up_ne (by omega)), (fun b j hb => by rw [up_ne (by omega)]; exact r4 b j hb), fun j hj => ?_⟩
      · rw [show ((c + 1 : Nat) : Int) - 99 = (c : Int) - 99 + 1 by omega] at nx
        exact nx
      · rw [show Int.toNat (100 + ((c : Int) - 99)) = 1 + c by omega]
        by_cases z : j = c
        · subst z; rw [up_at]
        · rw [up_ne (by omega)]; exact r5 j (by omega)
  · have y := k W hMW frW
    exact sp_msame (d := d + 2) hMW.1 q1 ok.1 okS (fun sm => ⟨by omega, fun h => absurd h (by omega), fun _ => ⟨_, rfl, y 1 (Or.inr ⟨S, e, cb, Or.inl ⟨e2, Or.inl ⟨sm, rfl⟩⟩⟩)⟩⟩) (fun sm => ⟨by omega, fun _ => ⟨_, rfl, y 0 (Or.inr ⟨S, e, cb, Or.inl ⟨e2, Or.inr ⟨sm, rfl⟩⟩⟩)⟩, fun h => absurd rfl h⟩)
end CNT

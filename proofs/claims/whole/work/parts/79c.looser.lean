/-! what some slides make loose -/
theorem shed_less {R : Rw} (ok : rwOk R) : rwn (rwShed 8 R) < rwn R ↔ (rwGoF R).isSome = true := by
  cases hg : rwGoF R with
  | none =>
    have e : rwShed 8 R = R := by
      show (match rwGoF R with | none => R | some f => rwShed 7 (rwOut R f)) = _
      rw [hg]
    rw [e]
    exact ⟨fun h => by omega, fun h => absurd h (by decide)⟩
  | some f =>
    have h1 := rwGoF_s hg
    have h2 := rwOut_n ok h1.1 h1.2
    have h3 := (rwShed_ok 8 (rwOut R f) (rwDrop_ok ok)).2
    rw [rwShed_step ok hg]
    exact ⟨fun _ => rfl, fun _ => by omega⟩
def rwReach : Nat → Rw → Bool
  | 0, R => (rwGoF R).isSome
  | m + 1, R => (rwGoF R).isSome || (List.range (rwFc R).length).any (fun f => rwK R f == 3 && rwReach m (rwSlide R f))
theorem rwReach_s (m : Nat) (R : Rw) : rwReach (m + 1) R = true ↔ (rwGoF R).isSome = true ∨ ∃ f, f < (rwFc R).length ∧ rwK R f = 3 ∧ rwReach m (rwSlide R f) = true := by
  show ((rwGoF R).isSome || (List.range (rwFc R).length).any (fun f => rwK R f == 3 && rwReach m (rwSlide R f))) = true ↔ _
  rw [Bool.or_eq_true, List.any_eq_true]
  constructor
  · rintro (h | ⟨f, hf, h⟩)
    · exact Or.inl h
    · rw [Bool.and_eq_true, beq_iff_eq] at h
      exact Or.inr ⟨f, List.mem_range.mp hf, h.1, h.2⟩
  · rintro (h | ⟨f, hf, h1, h2⟩)
    · exact Or.inl h
    · exact Or.inr ⟨f, List.mem_range.mpr hf, by rw [Bool.and_eq_true, beq_iff_eq]; exact ⟨h1, h2⟩⟩
theorem rwReach_go {m : Nat} {R : Rw} (h : (rwGoF R).isSome = true) : rwReach m R = true := by
  cases m with
  | zero => exact h
  | succ m => exact (rwReach_s m R).mpr (Or.inl h)
section LSR
variable {xs : Nat → Int32} {Lx : Nat} {hs : Hs} {ps : List Rw}
theorem sp_search : ∀ (m D : Nat), 5 + m ≤ D → ∀ (dep n : Nat) (R : Rw) (V : km_V) (K : Int → km_V → Prop), dep + m = n → n ≤ 3 → kRC V (227 + 15 * dep) R → rwOk R → (rwReach m R = true → ∀ W, (∀ b j, ¬ (231 + 15 * dep ≤ b ∧ b ≤ 286) → W b j = V b j) → K 1 W) → (rwReach m R = false → ∀ W, (∀ b j, ¬ (231 + 15 * dep ≤ b ∧ b ≤ 286) → W b j = V b j) → K 0 W) → kCI xs Lx D 78 6 [.ref 224, kI (dep : Int), kI (n : Int)] V K := by
  have shr : ∀ dep : Nat, dep < 4 → km_sh[227 + 15 * dep]? = some (5, 5) := by decide
  have shd : ∀ dep : Nat, dep < 4 → km_sh[231 + 15 * dep]? = some (2, 11) := by decide
  intro m
  induction m with
  | zero =>
    intro D hD dep n R V K hn hn3 hR ok k1 k0
    obtain ⟨d, rfl⟩ : ∃ d, D = d + 5 := ⟨D - 5, by omega⟩
    refine b78_0 ?_
    simp only [tn]
    refine ⟨by omega, sp_trace (d := d + 2) (shd dep (by omega)) (shr dep (by omega)) (by omega) hR ok (fun W1 q1 f1 => ?_)⟩
    refine sp_firstToGo (d := d + 4) (shd dep (by omega)) ok q1 ?_
    cases hg : rwGoF R with
    | none =>
      show (kR (-1 : Int)) ∧ _
      refine ⟨by omega, fun _ => ⟨by omega, by omega, fun _ => ⟨_, rfl, k0 (by show (rwGoF R).isSome = false; rw [hg]; rfl) W1 (fun b j hb => f1 _ _ (by omega))⟩, fun h => by omega⟩, fun h => absurd rfl h⟩
    | some f =>
      have h1 := (rwGoF_s hg).1
      have h2 := rwFc_len R
      have h3 := ok.len
      have h4 := ok.2.1
      show (kR (f : Int)) ∧ _
      refine ⟨by omega, fun h => by have : (f : Int) = -1 := h; omega, fun _ => ⟨_, rfl, k1 (by show (rwGoF R).isSome = true; rw [hg]; rfl) W1 (fun b j hb => f1 _ _ (by omega))⟩⟩
  | succ m ih =>
    intro D hD dep n R V K hn hn3 hR ok k1 k0
    obtain ⟨d, rfl⟩ : ∃ d, D = d + 5 := ⟨D - 5, by omega⟩
    have h2 := rwFc_len R
    have h3 := ok.len
    have h4 := ok.2.1
    refine b78_0 ?_
    simp only [tn]
    refine ⟨by omega, sp_trace (d := d + 2) (shd dep (by omega)) (shr dep (by omega)) (by omega) hR ok (fun W1 q1 f1 => ?_)⟩
    refine sp_firstToGo (d := d + 4) (shd dep (by omega)) ok q1 ?_
    cases hg : rwGoF R with
    | some f =>
      have h1 := (rwGoF_s hg).1
      show (kR (f : Int)) ∧ _
      refine ⟨by omega, fun h => by have : (f : Int) = -1 := h; omega, fun _ => ⟨_, rfl, k1 (rwReach_go (by rw [hg]; rfl)) W1 (fun b j hb => f1 _ _ (by omega))⟩⟩
    | none =>
      show (kR (-1 : Int)) ∧ _
      refine ⟨by omega, fun _ => ⟨by omega, by omega, fun h => by omega, fun _ => ⟨fun _ => ?_, fun h => by omega⟩⟩, fun h => absurd rfl h⟩
      refine kloop (rwFc R).length (fun c W => (∀ f, f < c → ¬ (rwK R f = 3 ∧ rwReach m (rwSlide R f) = true)) ∧ kRC W (227 + 15 * dep) R ∧ kDr W (231 + 15 * dep) R ∧ (∀ b j, ¬ (231 + 15 * dep ≤ b ∧ b ≤ 286) → W b j = V b j)) (fun c W => kGo xs Lx (d + 5) 78 47 [some (.ref 224), some (kI (dep : Int)), some (kI (n : Int)), some (.ref (227 + 15 * dep)), some (.ref (231 + 15 * dep)), some (kI (c : Int))] [] W _) (fun W ⟨r1, r2, r3, r4⟩ => ?_) (fun c W hc ⟨r1, r2, r3, r4⟩ ih2 => ?_) 0 W1 (Nat.zero_le _) ⟨fun f hf => by omega, hR.fr (fun b j hb => f1 _ _ (by omega)), q1, fun b j hb => f1 _ _ (by omega)⟩
      · have e7 : W (231 + 15 * dep) 7 = ((rwFc R).length : Int) := r3.2.1.1
        refine b78_47 (shr dep (by omega)) (shd dep (by omega)) ?_
        rw [e7]
        refine ⟨by omega, by omega, fun _ => ⟨_, rfl, k0 ?_ W r4⟩, fun h => by omega⟩
        cases hr : rwReach (m + 1) R with
        | false => rfl
        | true =>
          rcases (rwReach_s m R).mp hr with h | ⟨f, hf, a, b⟩
          · rw [hg] at h; exact absurd h (by decide)
          · exact absurd ⟨a, b⟩ (r1 f hf)
      · have e7 : W (231 + 15 * dep) 7 = ((rwFc R).length : Int) := r3.2.1.1
        have ek : W (231 + 15 * dep + 10) c = (rwK R c : Int) := r3.2.2 c hc
        have kl := rwK_le R c
        refine b78_47 (shr dep (by omega)) (shd dep (by omega)) ?_
        rw [e7, tn, ek]
        refine ⟨by omega, by omega, fun h => by omega, fun _ => ⟨by omega, by omega, fun ne => ih2 W ⟨fun f hf => ?_, r2, r3, r4⟩, fun e3 => ⟨by omega, ?_⟩⟩⟩
        · by_cases z : f = c
          · subst z; intro h; omega
          · exact r1 f (by omega)
        · have nd : 227 + 15 * Int.toNat ((dep : Int) + 1) = 227 + 15 * (dep + 1) := by omega
          rw [nd]
          refine sp_copy (d := d + 4) (shr (dep + 1) (by omega)) (shr dep (by omega)) r2 ok (fun W2 s2 g2 => ?_)
          refine sp_exchange (d := d + 3) (shr (dep + 1) (by omega)) (shd dep (by omega)) (by omega) s2 ok (r3.fr (fun b j hb => g2 _ _ (by omega))) hc (fun W3 s3 g3 => ?_)
          have okS := (rwSlide_ok ok hc).1
          have nx : ∀ W4 : km_V, (∀ b j, ¬ (231 + 15 * (dep + 1) ≤ b ∧ b ≤ 286) → W4 b j = W3 b j) → (∀ b j, ¬ (242 + 15 * dep ≤ b ∧ b ≤ 286) → W4 b j = W b j) := fun W4 g4 b j hb => by rw [g4 _ _ (by omega), g3 _ _ (by omega), g2 _ _ (by omega)]
          have key := ih (d + 4) (by omega) (dep + 1) n (rwSlide R c) W3 (fun y3 W3 => (kR y3) ∧ ((y3 = 0 → kGo xs Lx (d + 5) 78 47 [some (.ref 224), some (kI (dep : Int)), some (kI (n : Int)), some (.ref (227 + 15 * dep)), some (.ref (231 + 15 * dep)), some (kI ((c + 1 : Nat) : Int))] [] W3 (fun r V' => ∃ v : Int, r = some (kI v) ∧ K v V')) ∧ (y3 ≠ 0 → ∃ v : Int, some (kI 1) = some (kI v) ∧ K v W3))) (by omega) hn3 s3 okS (fun t W4 g4 => ⟨by omega, fun h => absurd h (by omega), fun _ => ⟨_, rfl, k1 ((rwReach_s m R).mpr (Or.inr ⟨c, hc, by omega, t⟩)) W4 (fun b j hb => by rw [nx W4 g4 b j (by omega)]; exact r4 b j hb)⟩⟩) (fun t W4 g4 => ⟨by omega, fun _ => ih2 W4 ⟨fun f hf => ?_, r2.fr (fun b j hb => nx W4 g4 _ _ (by omega)), r3.fr (fun b j hb => nx W4 g4 _ _ (by omega)), fun b j hb => by rw [nx W4 g4 b j (by omega)]; exact r4 b j hb⟩, fun h => absurd rfl h⟩)
          · exact key
          · by_cases z : f = c
            · subst z; intro h; rw [h.2] at t; exact absurd t (by decide)
            · exact r1 f (by omega)
def qLooser (R : Rw) (a : Int) : Int := if 0 ≤ a ∧ a ≤ 3 then (if rwReach (Int.toNat a) R then 1 else 0) else -1
theorem sp_clooser {d : Nat} {V : km_V} {R : Rw} {a : Int} {K : Int → km_V → Prop} (ha : kR a) (hC : kC V R ps hs) (ok : kOk R ps hs) (k : ∀ W, kC W R ps hs → cFr V W → K (qLooser R a) W) : kCI xs Lx (d + 10) 112 2 [.ref 0, kI a] V K := by
  unfold qLooser at k
  refine b112_0 (d := d + 3) ⟨ha, fun h => ⟨_, rfl, ?_⟩, fun h0 => ⟨fun h1 => ?_, fun h => ⟨_, rfl, ?_⟩⟩⟩
  · have y := k V hC (fun _ _ _ => rfl); rw [if_neg (by omega)] at y; exact y
  · obtain ⟨n, rfl⟩ : ∃ n : Nat, a = (n : Int) := ⟨Int.toNat a, by omega⟩
    simp only [if_pos (show 0 ≤ (n : Int) ∧ (n : Int) ≤ 3 from ⟨h0, h1⟩), tn] at k
    refine b77_0 (d := d + 3) (by decide) (sp_copy (d := d + 8) (by decide) (by decide) hC.1 ok.1 (fun W1 q1 f1 => ?_))
    have fin : ∀ W, (∀ b j, ¬ (227 ≤ b ∧ b ≤ 286) → W b j = V b j) → kC W R ps hs ∧ cFr V W := fun W f => ⟨hC.fr (fun b j hb => f _ _ (by omega)), fun b j hb => f _ _ (by omega)⟩
    refine sp_search n (d + 8) (by omega) 0 n R W1 _ (by omega) (by omega) q1 ok.1 (fun t W g => ⟨by omega, _, rfl, ?_⟩) (fun t W g => ⟨by omega, _, rfl, ?_⟩)
    · obtain ⟨c1, c2⟩ := fin W (fun b j hb => by rw [g _ _ (by omega), f1 _ _ (by omega)])
      have y := k W c1 c2
      rw [if_pos t] at y
      exact ⟨by omega, fun h => absurd h (by omega), fun _ => ⟨_, rfl, y⟩⟩
    · obtain ⟨c1, c2⟩ := fin W (fun b j hb => by rw [g _ _ (by omega), f1 _ _ (by omega)])
      have y := k W c1 c2
      rw [if_neg (by rw [t]; decide)] at y
      exact ⟨by omega, fun _ => ⟨_, rfl, y⟩, fun h => absurd rfl h⟩
  · have y := k V hC (fun _ _ _ => rfl); rw [if_neg (by omega)] at y; exact y
end LSR

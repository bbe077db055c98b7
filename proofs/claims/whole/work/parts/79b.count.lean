/-! what is counted -/
section CNU
variable {xs : Nat → Int32} {Lx d : Nat} {V : km_V} {R S : Rw} {hs : Hs} {ps : List Rw}
theorem sp_mspan {K : Int → km_V → Prop} (hM : kM V R ps hs) (ok : kOk R ps hs) (k : ∀ W, kM W R ps hs → mFr V W → ∀ s, rwSpanP R s → K s W) : kCI xs Lx (d + 3) 201 3 [.ref 299] V K := by
  refine b201_0 (sp_laysBracket (d := d) (by decide) (by omega) hM.1 ok.1 (fun W hB f1 => ?_))
  have hMW : kM W R ps hs := hM.fr ok.1 (fun b j hb => f1 b j (by omega))
  have k := k W hMW (fun b j hb => f1 b j (by omega))
  have far : ∀ x : Int, ¬ (-100 ≤ x ∧ x ≤ 100) → rwBr R x = 0 := fun x h => rwBr_supp ok.1 (by omega)
  have at' : ∀ x : Int, -100 ≤ x → x ≤ 100 → rwBr R x = W 327 (Int.toNat (100 + x)) := by
    intro x l1 l2
    have q := hB (Int.toNat (100 + x)) (by omega)
    rw [q]
    congr 1; omega
  have bb : ∀ j : Nat, j < 201 → kR (W 327 j) := by
    intro j hj
    have b := rwBr_b ok.1 ((j : Int) - 100)
    rw [hB j hj]; omega
  have two : ∀ lo : Nat, lo < 201 → (∀ j, j < lo → W 327 j = 0) → W 327 lo ≠ 0 → kGo xs Lx (d + 3) 201 36 [some (.ref 299), some (kI (lo : Int)), some (kI 200)] [] W (fun r V' => ∃ v : Int, r = some (kI v) ∧ K v V') := by
    intro lo hlo z nz
    have fin : ∀ hi : Nat, lo ≤ hi → hi < 201 → (∀ j, hi < j → j < 201 → W 327 j = 0) → W 327 hi ≠ 0 → ∃ v : Int, some (kI ((hi : Int) - (lo : Int))) = some (kI v) ∧ K v W := by
      intro hi l1 l2 z2 nz2
      refine ⟨_, rfl, k _ (Or.inr ⟨(lo : Int) - 100, (hi : Int) - 100, ?_, ?_, fun x hx => ?_, by omega⟩)⟩
      · rw [← hB lo hlo]; exact nz
      · rw [← hB hi l2]; exact nz2
      · by_cases c : -100 ≤ x ∧ x ≤ 100
        · rw [at' x c.1 c.2] at hx
          constructor
          · by_cases c2 : (lo : Int) - 100 ≤ x
            · exact c2
            · exact absurd (z _ (by omega)) hx
          · by_cases c2 : x ≤ (hi : Int) - 100
            · exact c2
            · exact absurd (z2 _ (by omega) (by omega)) hx
        · exact absurd (far x c) hx
    have key := kloop0 (200 - lo) (fun m => (∀ j, 200 - m < j → j < 201 → W 327 j = 0) → kGo xs Lx (d + 3) 201 36 [some (.ref 299), some (kI (lo : Int)), some (kI (200 - (m : Int)))] [] W (fun r V' => ∃ v : Int, r = some (kI v) ∧ K v V')) (fun hh => ?_) (fun m hm ih hh => ?_) 0 (Nat.zero_le _) (fun j h1 h2 => by omega)
    · rw [show (200 : Int) - ((0 : Nat) : Int) = 200 by omega] at key
      exact key
    · refine b201_36 ⟨by omega, by omega, fun _ => ⟨fun _ => ?_, fun h => by omega⟩, fun h => by omega⟩
      have := fin lo (Nat.le_refl _) hlo (fun j h1 h2 => hh j (by omega) h2) nz
      rw [show (200 : Int) - ((200 - lo : Nat) : Int) = (lo : Int) by omega]
      exact this
    · have n1 : Int.toNat (200 - (m : Int)) = 200 - m := by omega
      refine b201_36 ⟨by omega, by omega, fun h => by omega, fun _ => ⟨by omega, ?_⟩⟩
      rw [n1]
      refine ⟨bb _ (by omega), fun nz2 => ⟨fun _ => ?_, fun h => by omega⟩, fun z2 => ?_⟩
      · have := fin (200 - m) (by omega) (by omega) hh nz2
        rw [show (200 : Int) - (m : Int) = ((200 - m : Nat) : Int) by omega]
        exact this
      · have := ih (fun j h1 h2 => by
          by_cases e : j = 200 - m
          · subst e; exact z2
          · exact hh j (by omega) h2)
        rw [show (200 : Int) - (m : Int) + (-1) = 200 - ((m + 1 : Nat) : Int) by omega]
        exact this
  have key := kloop0 201 (fun c => (∀ j, j < c → W 327 j = 0) → kGo xs Lx (d + 3) 201 10 [some (.ref 299), some (kI (c : Int)), none] [] W (fun r V' => ∃ v : Int, r = some (kI v) ∧ K v V')) (fun hh => ?_) (fun c hc ih hh => ?_) 0 (Nat.zero_le _) (fun j hj => by omega)
  · exact key
  · refine b201_10 ⟨by omega, fun _ => ?_, fun h => by omega⟩
    refine b201_36 ⟨by omega, by omega, fun _ => ⟨fun h => absurd rfl h, fun _ => ⟨_, rfl, k 0 (Or.inl ⟨fun x => ?_, rfl⟩)⟩⟩, fun h => by omega⟩
    by_cases c : -100 ≤ x ∧ x ≤ 100
    · rw [at' x c.1 c.2]; exact hh _ (by omega)
    · exact far x c
  · refine b201_10 ⟨by omega, fun h => by omega, fun _ => ⟨by omega, ?_⟩⟩
    rw [tn]
    refine ⟨bb _ hc, fun nz => two c hc hh nz, fun z => ih (fun j hj => ?_)⟩
    by_cases e : j = c
    · subst e; exact z
    · exact hh j (by omega)
theorem sp_mturns {K : Int → km_V → Prop} (hM : kM V R ps hs) (ok : kOk R ps hs) (k : ∀ W, kM W R ps hs → mFr V W → K (if rwTu R then 1 else 0) W) : kCI xs Lx (d + 2) 216 2 [.ref 299] V K := by
  have o2 := ok.1.2.1
  have o3 := ok.1.len
  refine b216_0 (sp_laysEdges (d := d) (by decide) (by omega) hM.1 ok.1 (fun W hE f1 => ?_))
  have hMW : kM W R ps hs := hM.fr ok.1 (fun b j hb => f1 b j (by omega))
  have k := k W hMW (fun b j hb => f1 b j (by omega))
  have e25 := hE.1
  have key := kloop0 (rwP R).length (fun c => (∀ p, p < c → ((rwP R).getD p 0 % 2 != (rwP R).getD (rwNx R p) 0 % 2) = true) → kGo xs Lx (d + 2) 216 10 [some (.ref 299), some (kI (c : Int))] [] W (fun r V' => ∃ v : Int, r = some (kI v) ∧ K v V')) (fun hh => ?_) (fun c hc ih hh => ?_) 0 (Nat.zero_le _) (fun p hp => by omega)
  · exact key
  · have t : rwTu R = true := by
      unfold rwTu
      exact List.all_eq_true.mpr (fun p hp => hh p (List.mem_range.mp hp))
    rw [t] at k
    refine b216_10 ?_
    rw [e25]
    exact ⟨by omega, by omega, fun _ => ⟨_, rfl, k⟩, fun h => by omega⟩
  · have nl := rwNx_lt hc
    have l1 := ok.1.lt c (by omega)
    have l2 := ok.1.lt (rwNx R c) (by omega)
    have w1 := (hE.2.1 c hc).1
    have w2 := (hE.2.1 c hc).2.2.1
    have w3 := (hE.2.1 _ nl).1
    refine b216_10 ?_
    simp only [tn]
    rw [e25, w1, w2]
    simp only [tn]
    rw [w3]
    refine ⟨by omega, by omega, fun h => by omega, fun _ => ⟨by omega, by omega, by omega, by omega, by omega, by omega, fun ne => ih (fun p hp => ?_), fun e => ?_⟩⟩
    · by_cases z : p = c
      · subst z; exact bne_iff_ne.mpr (by omega)
      · exact hh p (by omega)
    · have t : rwTu R = false := by
        cases h : rwTu R with
        | false => rfl
        | true =>
          unfold rwTu at h
          have := bne_iff_ne.mp (List.all_eq_true.mp h c (List.mem_range.mpr hc))
          omega
      rw [t] at k
      exact ⟨_, rfl, k⟩
theorem sp_cheld {K : Int → km_V → Prop} (hC : kC V R ps hs) (k : K (hMany hs) V) : kCI xs Lx (d + 0) 119 3 [.ref 0] V K := by
  obtain ⟨h1, h2, h3, h4, h5, h6, h7⟩ := id hC
  have st : ∀ s : Nat, s < 3 → V 208 s = if (hs s).isSome then 1 else 0 := by
    intro s hs'
    obtain ⟨n0, n1⟩ := h5 s hs'
    cases e : hs s with
    | none => rw [n0 e]; rfl
    | some S => rw [(n1 S e).1]; rfl
  have nx : ∀ (s : Nat) (x : Int), s < 3 → kGo xs Lx (d + 0) 119 4 [some (.ref 0), some (kI (x + (if (hs s).isSome then 1 else 0))), some (kI ((s : Int) + 1))] [] V (fun r V' => ∃ v : Int, r = some (kI v) ∧ K v V') → kGo xs Lx (d + 0) 119 4 [some (.ref 0), some (kI x), some (kI (s : Int))] [] V (fun r V' => ∃ v : Int, r = some (kI v) ∧ K v V') := by
    intro s x hs' h
    refine b119_4 ⟨by omega, fun h => by omega, fun _ => ⟨by omega, ?_⟩⟩
    rw [tn, st s hs']
    cases e : (hs s).isSome with
    | false => rw [e] at h; exact ⟨by decide, fun _ => h, fun h => absurd rfl h⟩
    | true => rw [e] at h; exact ⟨by decide, fun h => absurd h (by decide), fun _ => h⟩
  refine b119_0 (nx 0 0 (by omega) (nx 1 _ (by omega) (nx 2 _ (by omega) ?_)))
  refine b119_4 ⟨by omega, fun _ => ⟨_, rfl, ?_⟩, fun h => by omega⟩
  have : (0 : Int) + (if (hs 0).isSome then 1 else 0) + (if (hs 1).isSome then 1 else 0) + (if (hs 2).isSome then 1 else 0) = hMany hs := by unfold hMany; omega
  rw [this]
  exact k
theorem sp_ccount {a : Int} {K : Int → km_V → Prop} (ha : kR a) (hC : kC V R ps hs) (ok : kOk R ps hs) (k : ∀ W, kC W R ps hs → cFr V W → ∀ v, qCountP R ps hs (V 1 0) a v → K v W) : kCI xs Lx (d + 5) 116 2 [.ref 0, kI a] V K := by
  obtain ⟨h1, h2, h3, h4, h5, h6, h7⟩ := id hC
  have kV := k V hC (fun _ _ _ => rfl)
  refine b116_0 ⟨ha, fun h => ⟨_, rfl, kV _ (Or.inr ⟨by omega, ?_⟩)⟩, fun e => ⟨_, rfl, kV _ (Or.inr ⟨by omega, ?_⟩)⟩, fun e => ⟨_, rfl, kV _ (Or.inr ⟨by omega, ?_⟩)⟩, fun e => ⟨_, rfl, kV _ (Or.inr ⟨by omega, ?_⟩)⟩, fun e => ⟨_, rfl, kV _ (Or.inr ⟨by omega, ?_⟩)⟩, fun e => ?_, fun e => ?_, fun e => ⟨_, rfl, kV _ (Or.inr ⟨by omega, ?_⟩)⟩, fun e => ?_, fun e => ?_, fun e => ?_, fun e => ?_, fun e => ?_, fun e => ?_, fun e => ?_, fun e => ⟨_, rfl, kV _ (Or.inr ⟨by omega, ?_⟩)⟩, fun e => ⟨_, rfl, kV _ (Or.inr ⟨by omega, ?_⟩)⟩, fun e => ?_⟩
  · (repeat' rw [if_neg (by omega)])
  · subst e; exact h1.1
  · subst e; exact h1.2.1
  · subst e; rw [h1.2.1]; rfl
  · subst e; exact h2.2.1.1
  · subst e; exact sp_partsOf (d := d + 3) (by decide) (by decide) h1 ok.1 h2.1 ⟨_, rfl, kV _ (Or.inr ⟨by omega, rfl⟩)⟩
  · subst e; exact sp_writhe (d := d + 4) (by decide) h1 ok.1 ⟨_, rfl, kV _ (Or.inr ⟨by omega, rfl⟩)⟩
  · subst e; exact h3.1
  · subst e; exact sp_determinant (d := d + 2) (by decide) (by decide) (by omega) (by omega) h1 ok.1 h2.1 h3 (fun W f => ⟨_, rfl, k W (hC.fr (fun b j hb => f _ _ (by omega))) (fun b j hb => f _ _ (by omega)) _ (Or.inr ⟨by omega, rfl⟩)⟩)
  · refine ⟨by rcases h6 with h | h <;> omega, fun h => ?_, fun h => ?_⟩
    · rcases h6 with z | z
      · exact absurd z h
      · exact sp_span (d := d + 3) (by decide) z.2 ok.1 (fun s hs' _ _ => ⟨_, rfl, kV _ (Or.inl ⟨e, hs'⟩)⟩)
    · refine sp_addUp (d := d) (by decide) (by decide) (by decide) (by omega) (by omega) h1 ok.1 h2.1 (fun W hB f => ?_)
      obtain ⟨c1, c2⟩ := kC_own hC hB f
      exact sp_span (d := d + 3) (by decide) (hB.fr (up_ne (by omega)) (fun j => up_ne (by omega))) ok.1 (fun s hs' _ _ => ⟨_, rfl, k _ c1 c2 _ (Or.inl ⟨e, hs'⟩)⟩)
  · subst e; exact sp_loose (d := d + 4) (by decide) h1 ok.1 ⟨_, rfl, kV _ (Or.inr ⟨by omega, rfl⟩)⟩
  · subst e; exact sp_facesOfKind (d := d + 4) (q := 1) (by decide) ok.1 (by omega) h2 ⟨_, rfl, kV _ (Or.inr ⟨by omega, rfl⟩)⟩
  · subst e; exact sp_facesOfKind (d := d + 4) (q := 2) (by decide) ok.1 (by omega) h2 ⟨_, rfl, kV _ (Or.inr ⟨by omega, rfl⟩)⟩
  · subst e; exact sp_facesOfKind (d := d + 4) (q := 3) (by decide) ok.1 (by omega) h2 ⟨_, rfl, kV _ (Or.inr ⟨by omega, rfl⟩)⟩
  · subst e
    have y := kV (if rwTu R then 1 else 0) (Or.inr ⟨by omega, rfl⟩)
    refine sp_turns (d := d + 3) (by decide) h1 ok.1 ?_
    cases t : rwTu R with
    | false => rw [t] at y; exact ⟨by decide, fun _ => ⟨_, rfl, y⟩, fun h => absurd rfl h⟩
    | true => rw [t] at y; exact ⟨by decide, fun h => absurd h (by decide), fun _ => ⟨_, rfl, y⟩⟩
  · subst e; rfl
  · subst e; exact h4.1
  · subst e; exact sp_cheld (d := d + 4) hC ⟨_, rfl, kV _ (Or.inr ⟨by omega, rfl⟩)⟩
theorem sp_mcount {a : Int} {K : Int → km_V → Prop} (ha : kR a) (hM : kM V R ps hs) (ok : kOk R ps hs) (k : ∀ W, kM W R ps hs → mFr V W → ∀ v, qCountP R ps hs (V 299 2) a v → K v W) : kCI xs Lx (d + 5) 217 2 [.ref 299, kI a] V K := by
  obtain ⟨h1, h2, h3⟩ := id hM
  have kV := k V hM (fun _ _ _ => rfl)
  have e0 : V 307 (Int.toNat 0) = (R.1.length : Int) := h1.1
  have e1 : V 307 (Int.toNat 1) = (rwn R : Int) := h1.2.1
  refine b217_0 ⟨ha, fun h => ⟨_, rfl, kV _ (Or.inr ⟨by omega, ?_⟩)⟩, fun e => ⟨_, rfl, kV _ (Or.inr ⟨by omega, ?_⟩)⟩, fun e => ⟨_, rfl, kV _ (Or.inr ⟨by omega, ?_⟩)⟩, fun e => ⟨_, rfl, kV _ (Or.inr ⟨by omega, ?_⟩)⟩, fun e => ?_, fun e => ?_, fun e => ?_, fun e => ?_, fun e => ?_, fun e => ?_, fun e => ?_, fun e => ?_, fun e => ?_, fun e => ?_, fun e => ?_, fun e => ⟨_, rfl, kV _ (Or.inr ⟨by omega, ?_⟩)⟩, fun e => ⟨_, rfl, kV _ (Or.inr ⟨by omega, ?_⟩)⟩, fun e => ?_⟩
  · (repeat' rw [if_neg (by omega)])
  · subst e; exact e0
  · subst e; exact e1
  · subst e; rw [e1]; rfl
  · subst e; exact sp_laysFaces (d := d + 2) (by decide) (by omega) h1 ok.1 (fun W q f => ⟨_, rfl, k W (hM.fr ok.1 (fun b j hb => f _ _ (by omega))) (fun b j hb => f _ _ (by omega)) _ (Or.inr ⟨by omega, rfl⟩)⟩)
  · subst e; exact sp_mpartsOf (d := d + 2) (by decide) (by omega) h1 ok.1 (fun W q f => ⟨_, rfl, k W (hM.fr ok.1 (fun b j hb => f _ _ (by omega))) (fun b j hb => f _ _ (by omega)) _ (Or.inr ⟨by omega, rfl⟩)⟩)
  · subst e; exact sp_mwrithe (d := d + 4) (by decide) h1 ok.1 ⟨_, rfl, kV _ (Or.inr ⟨by omega, rfl⟩)⟩
  · subst e; exact sp_laysArcs (d := d + 2) (by decide) (by omega) h1 ok.1 (fun W q q2 f => ⟨_, rfl, k W (hM.fr ok.1 (fun b j hb => f _ _ (by omega))) (fun b j hb => f _ _ (by omega)) _ (Or.inr ⟨by omega, rfl⟩)⟩)
  · subst e; exact sp_mdet (d := d) h1 ok.1 (fun W f => ⟨_, rfl, k W (hM.fr ok.1 (fun b j hb => f _ _ (by omega))) (fun b j hb => f _ _ (by omega)) _ (Or.inr ⟨by omega, rfl⟩)⟩)
  · exact sp_mspan (d := d + 1) hM ok (fun W q f s hs' => ⟨_, rfl, k W q f _ (Or.inl ⟨e, hs'⟩)⟩)
  · subst e; exact sp_mloose (d := d + 4) (by decide) h1 ok.1 ⟨_, rfl, kV _ (Or.inr ⟨by omega, rfl⟩)⟩
  · subst e; exact sp_kindMany (d := d + 1) (q := 1) h1 ok.1 (by omega) (fun W q f => ⟨_, rfl, k W (hM.fr ok.1 (fun b j hb => f _ _ (by omega))) (fun b j hb => f _ _ (by omega)) _ (Or.inr ⟨by omega, rfl⟩)⟩)
  · subst e; exact sp_kindMany (d := d + 1) (q := 2) h1 ok.1 (by omega) (fun W q f => ⟨_, rfl, k W (hM.fr ok.1 (fun b j hb => f _ _ (by omega))) (fun b j hb => f _ _ (by omega)) _ (Or.inr ⟨by omega, rfl⟩)⟩)
  · subst e; exact sp_kindMany (d := d + 1) (q := 3) h1 ok.1 (by omega) (fun W q f => ⟨_, rfl, k W (hM.fr ok.1 (fun b j hb => f _ _ (by omega))) (fun b j hb => f _ _ (by omega)) _ (Or.inr ⟨by omega, rfl⟩)⟩)
  · subst e; exact sp_mturns (d := d + 2) hM ok (fun W q f => ⟨_, rfl, k W q f _ (Or.inr ⟨by omega, rfl⟩)⟩)
  · subst e; rfl
  · subst e; exact h2.1
  · subst e
    have st : ∀ s : Nat, s < 3 → V 325 s = if (hs s).isSome then 1 else 0 := by
      intro s hs'
      obtain ⟨n0, n1⟩ := h3 s hs'
      cases e : hs s with
      | none => rw [n0 e]; rfl
      | some S => rw [(n1 S e).1]; rfl
    have y := kV (hMany hs) (Or.inr ⟨by omega, rfl⟩)
    unfold hMany at y
    rw [← st 0 (by omega), ← st 1 (by omega), ← st 2 (by omega)] at y
    have r : ∀ s : Nat, s < 3 → V 325 s = 0 ∨ V 325 s = 1 := by
      intro s hs'
      rw [st s hs']
      cases (hs s).isSome
      · exact Or.inl rfl
      · exact Or.inr rfl
    have r0 := r 0 (by omega)
    have r1 := r 1 (by omega)
    have r2 := r 2 (by omega)
    simp only [show Int.toNat 0 = 0 from rfl, show Int.toNat 1 = 1 from rfl, show Int.toNat 2 = 2 from rfl]
    generalize V 325 0 = x0 at *
    generalize V 325 1 = x1 at *
    generalize V 325 2 = x2 at *
    have fin : ∀ v : Int, v = x0 + x1 + x2 → ∃ w : Int, some (kI v) = some (kI w) ∧ K w V := fun v hv => ⟨v, rfl, by rw [hv]; exact y⟩
    exact ⟨by omega, fun h0 => ⟨by omega, fun h1 => ⟨by omega, fun h2 => fin _ (by omega), fun h2 => fin _ (by omega)⟩, fun h1 => ⟨by omega, fun h2 => fin _ (by omega), fun h2 => fin _ (by omega)⟩⟩, fun h0 => ⟨by omega, fun h1 => ⟨by omega, fun h2 => fin _ (by omega), fun h2 => fin _ (by omega)⟩, fun h1 => ⟨by omega, fun h2 => fin _ (by omega), fun h2 => fin _ (by omega)⟩⟩⟩
end CNU

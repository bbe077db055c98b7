/-! rows worked off by a prime -/
theorem tmod_b {x p : Int} (hp : 0 < p) : -p < Int.tmod x p ∧ Int.tmod x p < p ∧ (0 ≤ x → 0 ≤ Int.tmod x p) ∧ (x < 0 → Int.tmod x p ≤ 0) ∧ Int.tmod x p % p = x % p := by
  have h5 : Int.tmod x p % p = x % p := by rw [Int.tmod_def, Int.sub_mul_emod_self_left]
  by_cases h : 0 ≤ x
  · have e := Int.tmod_eq_emod_of_nonneg (b := p) h
    have h1 := Int.emod_nonneg x (show p ≠ 0 by omega)
    have h2 := Int.emod_lt_of_pos x hp
    exact ⟨by omega, by omega, fun _ => by omega, fun _ => by omega, h5⟩
  · have e : Int.tmod x p = - Int.tmod (-x) p := by rw [Int.neg_tmod, Int.neg_neg]
    have e2 := Int.tmod_eq_emod_of_nonneg (b := p) (show 0 ≤ -x by omega)
    have h1 := Int.emod_nonneg (-x) (show p ≠ 0 by omega)
    have h2 := Int.emod_lt_of_pos (-x) hp
    exact ⟨by omega, by omega, fun _ => by omega, fun _ => by omega, h5⟩
theorem kcmp_lt (x y : Int) : kcmp x y < 0 ↔ x < y := by
  unfold kcmp
  split
  · omega
  · split <;> omega
def mxSwap (M : Nat → Nat → Int) (i j : Nat) : Nat → Nat → Int := fun r => if r = i then M j else if r = j then M i else M r
def mxP (M : Nat → Nat → Int) (col a n : Nat) : Option Nat := (List.range n).find? (fun i => decide (a ≤ i) && (M i col != 0))
def mxClr (p : Int) (arcs n rk col : Nat) (M : Nat → Nat → Int) : Nat → Nat → Int := fun i j => if rk < i ∧ i < n ∧ col ≤ j ∧ j < arcs then (M i j * M rk col - M rk j * M i col) % p else M i j
def mxRk (p : Int) (n arcs : Nat) : Nat → Nat → Nat → (Nat → Nat → Int) → Nat
  | 0, _, rk, _ => rk
  | f + 1, col, rk, M => if n ≤ rk then rk else match mxP M col rk n with
    | none => mxRk p n arcs f (col + 1) rk M
    | some q => mxRk p n arcs f (col + 1) (rk + 1) (mxClr p arcs n rk col (mxSwap M q rk))
theorem mxP_some {M : Nat → Nat → Int} {col a n c : Nat} (h1 : a ≤ c) (h2 : c < n) (h3 : M c col ≠ 0) (h4 : ∀ i, a ≤ i → i < c → M i col = 0) : mxP M col a n = some c := by
  refine find_range h2 ?_ (fun i hi => ?_)
  · rw [Bool.and_eq_true, decide_eq_true_iff]; exact ⟨h1, bne_iff_ne.mpr h3⟩
  · by_cases e : a ≤ i
    · rw [h4 i e hi]; simp
    · simp [e]
theorem mxP_none {M : Nat → Nat → Int} {col a n : Nat} (h4 : ∀ i, a ≤ i → i < n → M i col = 0) : mxP M col a n = none := by
  refine find_range_none (fun i hi => ?_)
  by_cases e : a ≤ i
  · rw [h4 i e hi]; simp
  · simp [e]
theorem mxP_s {M : Nat → Nat → Int} {col a n c : Nat} (h : mxP M col a n = some c) : a ≤ c ∧ c < n ∧ M c col ≠ 0 := by
  obtain ⟨h1, h2⟩ := find_range_s h
  rw [Bool.and_eq_true, decide_eq_true_iff] at h2
  exact ⟨h2.1, h1, bne_iff_ne.mp h2.2⟩
/-- the cells hold the rows of numbers -/
def kMx (V : km_V) (n : Nat) (M : Nat → Nat → Int) : Prop := ∀ i j, i < n → j < 12 → V (31 + i) j = M i j
section RKA
variable {xs : Nat → Int32} {Lx d : Nat} {V : km_V} {n : Nat} {M : Nat → Nat → Int}
theorem sp_floorMod {x p : Int} {K : Int → km_V → Prop} (hp : 0 < p ∧ p ≤ 13) (hx : kR64 x) (k : K (x % p) V) : kCJ xs Lx (d + 0) 219 6 [kJ x, kJ p] V K := by
  obtain ⟨b1, b2, b3, b4, b5⟩ := tmod_b (x := x) hp.1
  have xn := xor64_neg (x := x) (y := p) hx (by omega)
  have hne := Int.emod_nonneg x (show p ≠ 0 by omega)
  have hlt := Int.emod_lt_of_pos x hp.1
  refine b219_0 ⟨hx, by omega, fun z hz => ?_⟩
  subst hz
  refine ⟨xor64_r _ _, kcmp_r _ _, fun h => ⟨_, rfl, ?_⟩, fun h => ⟨by omega, kcmp_r _ _, fun h2 => ⟨_, rfl, ?_⟩, fun h2 => ⟨_, rfl, ?_⟩⟩⟩
  · have h3 : ¬ xor64 x p < 0 := fun z => by have := (kcmp_lt _ 0).mpr z; omega
    have h4 : 0 ≤ x := by omega
    have e : Int.tmod x p = x % p := Int.tmod_eq_emod_of_nonneg h4
    rw [e]; exact k
  · have h3 := (kcmp0 _ _).mp h2
    have e : x % p = 0 := by rw [← b5, h3]; exact Int.zero_emod _
    rw [h3, ← e]; exact k
  · have h3 : xor64 x p < 0 := (kcmp_lt _ 0).mp h
    have h4 : x < 0 := by omega
    have h5 : Int.tmod x p ≠ 0 := fun z => h2 ((kcmp0 _ _).mpr z)
    have h6 := b4 h4
    have e : x % p = Int.tmod x p + p := by
      rw [← b5, ← Int.add_emod_right, Int.emod_eq_of_lt (by omega) (by omega)]
    rw [← e]; exact k
theorem sp_pivotRow {col a b : Nat} {K : Int → km_V → Prop} (hM : kMx V n M) (hr : ∀ i, i < n → kR64 (M i col)) (hc : col < 12) (hab : b ≤ n) (hn : n ≤ 8) (hab2 : a ≤ b) (k : K (oInt (mxP M col a b)) V) : kCI xs Lx (d + 0) 7 5 [.ref 28, kI col, kI a, kI b] V K := by
  refine b7_0 ?_
  refine kloop0 b (fun c => a ≤ c → (∀ i, a ≤ i → i < c → M i col = 0) → kGo xs Lx (d + 0) 7 3 [some (.ref 28), some (kI col), none, some (kI b), some (kI (c : Int))] [] V _) ?_ (fun c hc' ih => ?_) a hab2 (Nat.le_refl _) (fun i h1 h2 => by omega)
  · intro _ hz
    rw [mxP_none hz] at k
    exact b7_3 ⟨by omega, by omega, fun _ => ⟨_, rfl, k⟩, fun h => by omega⟩
  · intro hac hz
    have e1 : V (31 + 1 * c) col = M c col := by rw [Nat.one_mul]; exact hM c col (by omega) hc
    have e2 := hr c (by omega)
    refine b7_3 ⟨by omega, by omega, fun h => by omega, fun h => ?_⟩
    simp only [tn, e1]
    refine ⟨by omega, by omega, e2, kcmp_r _ _, fun h2 => ?_, fun h2 => ⟨_, rfl, ?_⟩⟩
    · have h3 := (kcmp0 _ _).mp h2
      refine ih (by omega) (fun i h4 h5 => ?_)
      by_cases e : i = c
      · subst e; exact h3
      · exact hz i h4 (by omega)
    · have h3 : M c col ≠ 0 := fun z => h2 ((kcmp0 _ _).mpr z)
      rw [mxP_some hac hc' h3 hz] at k
      exact k
theorem sp_swapRows {i j : Nat} {K : km_V → Prop} (hM : kMx V n M) (hn : n ≤ 8) (hi : i < n) (hj : j < n) (k : ∀ W, kMx W n (mxSwap M i j) → (∀ b c, ¬ (31 ≤ b ∧ b ≤ 38) → W b c = V b c) → K W) : kCV xs Lx (d + 0) 8 6 [.ref 28, kI i, kI j] V K := by
  refine b8_0 ?_
  refine kloop 12 (fun m W => (∀ r c, r < n → c < 12 → W (31 + r) c = if c < m then mxSwap M i j r c else M r c) ∧ (∀ b c, ¬ (31 ≤ b ∧ b ≤ 38) → W b c = V b c)) (fun m W => kGo xs Lx (d + 0) 8 2 [some (.ref 28), some (kI i), some (kI j), some (kI (m : Int)), none, none] [] W _) (fun W ⟨g1, g2⟩ => ?_) (fun m W hm ⟨g1, g2⟩ ih => ?_) 0 V (Nat.zero_le _) ⟨fun r c hr hc => by rw [if_neg (by omega)]; exact hM r c hr hc, fun _ _ _ => rfl⟩
  · exact b8_2 ⟨by omega, fun _ => ⟨rfl, k W (fun r c hr hc => by rw [g1 r c hr hc, if_pos hc]) g2⟩, fun h => by omega⟩
  · have e1 : W (31 + 1 * i) m = M i m := by rw [Nat.one_mul, g1 i m hi hm, if_neg (by omega)]
    have e2 : W (31 + 1 * j) m = M j m := by rw [Nat.one_mul, g1 j m hj hm, if_neg (by omega)]
    refine b8_2 ⟨by omega, fun h => by omega, fun h => ?_⟩
    simp only [tn, e1, e2]
    refine ⟨by omega, by omega, fun z hz => ⟨by omega, ih _ ⟨fun r c hr hc => ?_, fun b c hb => by rw [up_ne (by omega), up_ne (by omega)]; exact g2 b c hb⟩⟩⟩
    subst hz
    by_cases ec : c = m
    · subst ec
      rw [if_pos (by omega)]
      unfold mxSwap
      by_cases e3 : r = j
      · subst e3
        rw [show 31 + r = 31 + 1 * r by omega, up_at]
        by_cases e4 : r = i
        · subst e4; rw [if_pos rfl]
        · rw [if_neg e4, if_pos rfl]
      · rw [up_ne (by omega)]
        by_cases e4 : r = i
        · subst e4
          rw [show 31 + r = 31 + 1 * r by omega, up_at, if_pos rfl]
        · rw [up_ne (by omega), if_neg e4, if_neg e3, g1 r c hr hc, if_neg (by omega)]
    · rw [up_ne (by omega), up_ne (by omega), g1 r c hr hc]
      by_cases e5 : c < m
      · rw [if_pos e5, if_pos (by omega)]
      · rw [if_neg e5, if_neg (by omega)]
theorem sp_clear {i rk col p arcs : Nat} {K : km_V → Prop} (hM : kMx V n M) (hn : n ≤ 8) (hi : i < n) (hk : rk < n) (hik : i ≠ rk) (hc : col < arcs) (ha : arcs ≤ 12) (hA : V 28 0 = (arcs : Int)) (hp : 0 < p ∧ p ≤ 13) (hr : ∀ r j, r < n → j < arcs → 0 ≤ M r j ∧ M r j < 13) (k : ∀ W, kMx W n (fun r j => if r = i ∧ col ≤ j ∧ j < arcs then (M i j * M rk col - M rk j * M i col) % (p : Int) else M r j) → (∀ b c, ¬ (31 ≤ b ∧ b ≤ 38) → W b c = V b c) → K W) : kCV xs Lx (d + 1) 11 10 [.ref 28, kI i, kI rk, kI col, kI p] V K := by
  have e1 : V (31 + 1 * i) col = M i col := by rw [Nat.one_mul]; exact hM i col hi (by omega)
  have e2 : V (31 + 1 * rk) col = M rk col := by rw [Nat.one_mul]; exact hM rk col hk (by omega)
  refine b11_0 ?_
  simp only [tn, e1, e2]
  refine ⟨by omega, by omega, fun z1 h1 => ⟨by omega, fun z2 h2 => ?_⟩⟩
  subst h1 h2
  refine kloop arcs (fun m W => col ≤ m ∧ (∀ r j, r < n → j < 12 → W (31 + r) j = if r = i ∧ col ≤ j ∧ j < m then (M i j * M rk col - M rk j * M i col) % (p : Int) else M r j) ∧ (∀ b c, ¬ (31 ≤ b ∧ b ≤ 38) → W b c = V b c)) (fun m W => kGo xs Lx (d + 1) 11 23 [some (.ref 28), some (kI i), some (kI rk), none, some (kI p), some (kJ (M i col)), none, some (kJ (M rk col)), none, some (kI (m : Int))] [] W _) (fun W ⟨gm, g1, g2⟩ => ?_) (fun m W hm ⟨gm, g1, g2⟩ ih => ?_) col V (by omega) ⟨Nat.le_refl _, fun r j hr hj => by rw [if_neg (by omega)]; exact hM r j hr hj, fun _ _ _ => rfl⟩
  · have q : W 28 0 = _ := (g2 _ _ (by omega)).trans hA
    exact b11_23 ⟨by omega, by omega, fun _ => ⟨rfl, k W g1 g2⟩, fun h => by omega⟩
  · have q : W 28 0 = _ := (g2 _ _ (by omega)).trans hA
    have w1 : W (31 + 1 * i) m = M i m := by rw [Nat.one_mul, g1 i m hi (by omega), if_neg (by omega)]
    have w2 : W (31 + 1 * rk) m = M rk m := by rw [Nat.one_mul, g1 rk m hk (by omega), if_neg (by omega)]
    have r1 := hr i m hi hm
    have r2 := hr rk m hk hm
    have r3 := hr i col hi hc
    have r4 := hr rk col hk hc
    have s1 : 0 ≤ M i m * M rk col ∧ M i m * M rk col ≤ 169 := ⟨Int.mul_nonneg r1.1 r4.1, by
      have := Int.mul_le_mul (show M i m ≤ 13 by omega) (show M rk col ≤ 13 by omega) r4.1 (by omega); omega⟩
    have s2 : 0 ≤ M rk m * M i col ∧ M rk m * M i col ≤ 169 := ⟨Int.mul_nonneg r2.1 r3.1, by
      have := Int.mul_le_mul (show M rk m ≤ 13 by omega) (show M i col ≤ 13 by omega) r3.1 (by omega); omega⟩
    refine b11_23 ⟨by omega, by omega, fun h => by omega, fun h => ?_⟩
    simp only [tn, w1, w2]
    refine ⟨by omega, by omega, by omega, by omega, sp_floorMod (by omega) (by omega) (ih _ ⟨by omega, fun r j hr' hj => ?_, fun b c hb => by rw [up_ne (by omega)]; exact g2 b c hb⟩)⟩
    by_cases e : r = i ∧ j = m
    · obtain ⟨rfl, rfl⟩ := e
      rw [show 31 + r = 31 + 1 * r by omega, up_at, if_pos (by omega)]
    · rw [up_ne (by omega), g1 r j hr' hj]
      by_cases e2 : r = i ∧ col ≤ j ∧ j < m
      · rw [if_pos e2, if_pos (by omega)]
      · rw [if_neg e2, if_neg (by omega)]
theorem mxClr_r {p : Nat} {arcs n rk col : Nat} {M : Nat → Nat → Int} (hp : 0 < p ∧ p ≤ 13) (hr : ∀ r j, r < n → j < arcs → 0 ≤ M r j ∧ M r j < 13) : ∀ r j, r < n → j < arcs → 0 ≤ mxClr p arcs n rk col M r j ∧ mxClr p arcs n rk col M r j < 13 := by
  intro r j h1 h2
  unfold mxClr
  split
  · have e1 := Int.emod_nonneg (M r j * M rk col - M rk j * M r col) (show (p : Int) ≠ 0 by omega)
    have e2 := Int.emod_lt_of_pos (M r j * M rk col - M rk j * M r col) (show (0 : Int) < p by omega)
    omega
  · exact hr r j h1 h2
theorem mxSwap_r {n arcs i k : Nat} {M : Nat → Nat → Int} (hi : i < n) (hk : k < n) (hr : ∀ r j, r < n → j < arcs → 0 ≤ M r j ∧ M r j < 13) : ∀ r j, r < n → j < arcs → 0 ≤ mxSwap M i k r j ∧ mxSwap M i k r j < 13 := by
  intro r j h1 h2
  unfold mxSwap
  split
  · exact hr k j hk h2
  · split
    · exact hr i j hi h2
    · exact hr r j h1 h2
theorem sp_rank {p arcs : Nat} {K : Int → km_V → Prop} (hM : kMx V n M) (hn : n ≤ 8) (ha : arcs ≤ 12) (hA : V 28 0 = (arcs : Int)) (hp : 0 < p ∧ p ≤ 13) (hr : ∀ r j, r < n → j < arcs → 0 ≤ M r j ∧ M r j < 13) (k : ∀ W, (∀ b c, ¬ (31 ≤ b ∧ b ≤ 38) → W b c = V b c) → K (mxRk p n arcs arcs 0 0 M : Int) W) : kCI xs Lx (d + 2) 10 7 [.ref 28, kI p, kI n] V K := by
  refine b10_0 ?_
  suffices H : ∀ f col rk : Nat, col + f = arcs → rk ≤ n → ∀ (M : Nat → Nat → Int) (W : km_V), kMx W n M → (∀ r j, r < n → j < arcs → 0 ≤ M r j ∧ M r j < 13) → (∀ b c, ¬ (31 ≤ b ∧ b ≤ 38) → W b c = V b c) → (∀ W', (∀ b c, ¬ (31 ≤ b ∧ b ≤ 38) → W' b c = V b c) → K (mxRk p n arcs f col rk M : Int) W') → kGo xs Lx (d + 2) 10 5 [some (.ref 28), some (kI p), some (kI n), some (kI (rk : Int)), some (kI (col : Int)), none, none] [] W (fun r V' => ∃ x, r = some (kI x) ∧ K x V') from
    H arcs 0 0 (by omega) (Nat.zero_le _) M V hM hr (fun _ _ _ => rfl) k
  intro f
  induction f with
  | zero =>
    intro col rk hf hk M W hM hr hfr k
    have q : W 28 0 = _ := (hfr _ _ (by omega)).trans hA
    exact b10_5 ⟨by omega, by omega, fun _ => ⟨_, rfl, k W hfr⟩, fun h => by omega⟩
  | succ f ih =>
    intro col rk hf hk M W hM hr hfr k
    have q : W 28 0 = _ := (hfr _ _ (by omega)).trans hA
    refine b10_5 ⟨by omega, by omega, fun h => by omega, fun h => ⟨by omega, by omega, fun h2 => ⟨_, rfl, ?_⟩, fun h2 => ?_⟩⟩
    · have := k W hfr
      unfold mxRk at this
      rw [if_pos (by omega)] at this
      exact this
    · refine sp_pivotRow hM (fun i hi => by have := hr i col hi (by omega); omega) (by omega) (Nat.le_refl _) hn (by omega) ?_
      cases hq : mxP M col rk n with
      | none =>
        refine ⟨by show kR (-1); omega, fun h => absurd rfl h, fun _ => ih (col + 1) rk (by omega) hk M W hM hr hfr (fun W' hW' => ?_)⟩
        have := k W' hW'
        unfold mxRk at this
        rw [if_neg (by omega), hq] at this
        exact this
      | some c =>
        obtain ⟨c1, c2, c3⟩ := mxP_s hq
        refine ⟨by show kR (c : Int); omega, fun _ => ?_, fun h => by have h : (c : Int) = -1 := h; omega⟩
        refine sp_swapRows hM hn c2 (by omega) (fun W1 m1 f1 => ?_)
        have hr1 := mxSwap_r c2 (show rk < n by omega) hr
        have fr1 : ∀ b c, ¬ (31 ≤ b ∧ b ≤ 38) → W1 b c = V b c := fun b c hb => by rw [f1 b c hb]; exact hfr b c hb
        generalize hS : mxSwap M c rk = S at *
        refine kloop n (fun m W2 => rk + 1 ≤ m ∧ kMx W2 n (fun r j => if rk < r ∧ r < m ∧ col ≤ j ∧ j < arcs then (S r j * S rk col - S rk j * S r col) % (p : Int) else S r j) ∧ (∀ b c, ¬ (31 ≤ b ∧ b ≤ 38) → W2 b c = V b c)) (fun m W2 => kGo xs Lx (d + 2) 10 50 [some (.ref 28), some (kI p), some (kI n), some (kI (rk : Int)), some (kI (col : Int)), none, some (kI (m : Int))] [] W2 _) (fun W2 ⟨gm, g1, g2⟩ => ?_) (fun m W2 hm ⟨gm, g1, g2⟩ ih2 => ?_) (rk + 1) W1 (by omega) ⟨Nat.le_refl _, fun i j hi hj => by dsimp only; rw [if_neg (by omega)]; exact m1 i j hi hj, fr1⟩
        · refine b10_50 ⟨by omega, by omega, fun _ => ?_, fun h => by omega⟩
          refine ih (col + 1) (rk + 1) (by omega) (by omega) (mxClr p arcs n rk col S) W2 g1 (mxClr_r hp hr1) g2 (fun W' hW' => ?_)
          have := k W' hW'
          unfold mxRk at this
          rw [if_neg (by omega), hq] at this
          dsimp only at this
          rw [hS] at this
          exact this
        · refine b10_50 ⟨by omega, by omega, fun h => by omega, fun h => ?_⟩
          have q2 : W2 28 0 = _ := (g2 _ _ (by omega)).trans hA
          refine sp_clear g1 hn hm (show rk < n by omega) (by omega) (show col < arcs by omega) ha q2 hp (fun r j h1 h2 => ?_) (fun W3 m3 f3 => ?_)
          · split
            · have e1 := Int.emod_nonneg (S r j * S rk col - S rk j * S r col) (show (p : Int) ≠ 0 by omega)
              have e2 := Int.emod_lt_of_pos (S r j * S rk col - S rk j * S r col) (show (0 : Int) < p by omega)
              omega
            · exact hr1 r j h1 h2
          · refine ih2 W3 ⟨by omega, fun r j h1 h2 => ?_, fun b c hb => by rw [f3 b c hb]; exact g2 b c hb⟩
            rw [m3 r j h1 h2]
            dsimp only
            by_cases e : r = m
            · subst e
              simp only [Nat.lt_irrefl, false_and, and_false, if_false]
              by_cases e2 : col ≤ j ∧ j < arcs
              · rw [if_pos ⟨True.intro, e2⟩, if_pos ⟨by omega, by omega, e2⟩]
              · rw [if_neg (fun z => e2 z.2), if_neg (fun z => e2 z.2.2)]
            · rw [if_neg (fun z => e z.1)]
              by_cases e2 : rk < r ∧ r < m ∧ col ≤ j ∧ j < arcs
              · rw [if_pos e2, if_pos (by omega)]
              · rw [if_neg e2, if_neg (by omega)]
def rwM0 (R : Rw) (p : Nat) : Nat → Nat → Int := fun i j => if j < rwAc R then rwM R i j % (p : Int) else rwM R i j
theorem mxRk_le {p : Int} {n arcs : Nat} : ∀ f col rk M, mxRk p n arcs f col rk M ≤ rk + f := by
  intro f
  induction f with
  | zero => intro col rk M; exact Nat.le_refl _
  | succ f ih =>
    intro col rk M
    unfold mxRk
    split
    · omega
    · split
      · have := ih (col + 1) rk M; omega
      · rename_i q _
        have := ih (col + 1) (rk + 1) (mxClr p arcs n rk col (mxSwap M q rk)); omega
theorem sp_colouringsBy {p t r : Nat} {R : Rw} {K : Int → km_V → Prop} (hr : km_sh[r]? = some (5, 5)) (ht : km_sh[t]? = some (2, 11)) (apr : r + 3 < 28 ∨ 38 < r) (apt : t + 10 < 28 ∨ 38 < t) (hR : kRC V r R) (ok : rwOk R) (hE : kDE V t R) (hA : kAr V R) (hp : 0 < p ∧ p ≤ 13) (k : ∀ W, (∀ b c, ¬ (31 ≤ b ∧ b ≤ 38) → W b c = V b c) → K ((p : Int) ^ (rwAc R - mxRk p (rwn R) (rwAc R) (rwAc R) 0 0 (rwM0 R p))) W) : kCJ xs Lx (d + 3) 9 8 [.ref 28, kI p, .ref r, .ref t] V K := by
  have o2 := ok.2.1
  have hac : rwAc R ≤ 12 := by
    have := rwZ_le R R.1.length
    have := ok.1
    unfold rwAc; omega
  refine b9_0 hr ht (sp_writeRows hr ht (by omega) (by omega) hR ok hE hA (fun W0 m0 f0 => ?_))
  refine kloop (rwn R) (fun c W => (∀ i j, i < rwn R → j < 12 → W (31 + i) j = if i < c ∧ j < rwAc R then rwM R i j % (p : Int) else rwM R i j) ∧ (∀ b c, ¬ (31 ≤ b ∧ b ≤ 38) → W b c = V b c)) (fun c W => kGo xs Lx (d + 3) 9 9 [some (.ref 28), some (kI p), some (.ref r), none, some (kI (c : Int)), none, none, none] [] W _) (fun W ⟨g1, g2⟩ => ?_) (fun c W hc ⟨g1, g2⟩ ih => ?_) 0 W0 (Nat.zero_le _) ⟨fun i j hi hj => by rw [if_neg (by omega)]; exact m0 i j hi hj, f0⟩
  · have e1 : W r 1 = _ := (g2 _ _ (by omega)).trans hR.2.1
    have e2 : W 28 0 = _ := (g2 _ _ (by omega)).trans hA.1
    refine b9_9 hr ⟨by omega, by omega, fun _ => ?_, fun h => by omega⟩
    rw [e1]
    have hM : kMx W (rwn R) (rwM0 R p) := fun i j hi hj => by
      rw [g1 i j hi hj]
      unfold rwM0
      by_cases e : j < rwAc R
      · rw [if_pos ⟨hi, e⟩, if_pos e]
      · rw [if_neg (fun z => e z.2), if_neg e]
    refine sp_rank hM o2 hac e2 hp (fun i j h1 h2 => ?_) (fun W1 f1 z hz => ?_)
    · unfold rwM0
      rw [if_pos h2]
      have q1 := Int.emod_nonneg (rwM R i j) (show (p : Int) ≠ 0 by omega)
      have q2 := Int.emod_lt_of_pos (rwM R i j) (show (0 : Int) < p by omega)
      omega
    · have le := mxRk_le (p := p) (n := rwn R) (arcs := rwAc R) (rwAc R) 0 0 (rwM0 R p)
      have e3 : W1 28 0 = _ := (f1 _ _ (by omega)).trans e2
      rw [e2] at hz
      have hz : z = ((rwAc R - mxRk p (rwn R) (rwAc R) (rwAc R) 0 0 (rwM0 R p) : Nat) : Int) := by omega
      subst hz
      have k1 := k W1 (fun b c hb => by rw [f1 b c hb]; exact g2 b c hb)
      refine kloop0 (rwAc R - mxRk p (rwn R) (rwAc R) (rwAc R) 0 0 (rwM0 R p)) (fun j => kGo xs Lx (d + 3) 9 89 [none, some (kI p), none, none, some (kI ((rwAc R - mxRk p (rwn R) (rwAc R) (rwAc R) 0 0 (rwM0 R p) : Nat) : Int)), some (kJ ((p : Int) ^ j)), none, some (kI (j : Int))] [] W1 _) ?_ (fun j hj ih => ?_) 0 (Nat.zero_le _)
      · exact b9_89 ⟨by omega, by omega, fun _ => ⟨_, rfl, k1⟩, fun h => by omega⟩
      · exact b9_89 ⟨by omega, by omega, fun h => by omega, fun h => ⟨by omega, ih⟩⟩
  · have e1 : W r 1 = _ := (g2 _ _ (by omega)).trans hR.2.1
    refine b9_9 hr ⟨by omega, by omega, fun h => by omega, fun h => ?_⟩
    refine kloop (rwAc R) (fun m W' => (∀ i j, i < rwn R → j < 12 → W' (31 + i) j = if (i < c ∧ j < rwAc R) ∨ (i = c ∧ j < m) then rwM R i j % (p : Int) else rwM R i j) ∧ (∀ b c, ¬ (31 ≤ b ∧ b ≤ 38) → W' b c = V b c)) (fun m W' => kGo xs Lx (d + 3) 9 21 [some (.ref 28), some (kI p), some (.ref r), none, some (kI (c : Int)), some (kI (m : Int)), none, none] [] W' _) (fun W' ⟨h1, h2⟩ => ?_) (fun m W' hm ⟨h1, h2⟩ ih2 => ?_) 0 W (Nat.zero_le _) ⟨fun i j hi hj => ?_, g2⟩
    · have e2 : W' 28 0 = _ := (h2 _ _ (by omega)).trans hA.1
      refine b9_21 hr ⟨by omega, by omega, fun _ => ih W' ⟨fun i j hi hj => ?_, h2⟩, fun h => by omega⟩
      rw [h1 i j hi hj]
      by_cases e : i < c + 1 ∧ j < rwAc R
      · rw [if_pos e, if_pos (by omega)]
      · rw [if_neg e, if_neg (by omega)]
    · have e2 : W' 28 0 = _ := (h2 _ _ (by omega)).trans hA.1
      have w1 : W' (31 + 1 * c) m = rwM R c m := by rw [Nat.one_mul, h1 c m hc (by omega), if_neg (by omega)]
      have mr := rwM_r R c m
      refine b9_21 hr ⟨by omega, by omega, fun h => by omega, fun h => ?_⟩
      simp only [tn, w1]
      refine ⟨by omega, by omega, by omega, sp_floorMod (by omega) (by omega) (ih2 _ ⟨fun i j hi hj => ?_, fun b c hb => by rw [up_ne (by omega)]; exact h2 b c hb⟩)⟩
      by_cases e : i = c ∧ j = m
      · obtain ⟨rfl, rfl⟩ := e
        rw [show 31 + i = 31 + 1 * i by omega, up_at, if_pos (by omega)]
      · rw [up_ne (by omega), h1 i j hi hj]
        by_cases e2 : (i < c ∧ j < rwAc R) ∨ (i = c ∧ j < m)
        · rw [if_pos e2, if_pos (by omega)]
        · rw [if_neg e2, if_neg (by omega)]
    · rw [g1 i j hi hj]
      by_cases e : i < c ∧ j < rwAc R
      · rw [if_pos e, if_pos (Or.inl e)]
      · rw [if_neg e, if_neg (by omega)]
end RKA

/-! the model's rows worked off -/
def mnP (p : Int) (N : Nat → Nat → Int) (col a n : Nat) : Option Nat := (List.range n).find? (fun i => decide (a ≤ i) && (N i col % p != 0))
def mnClr (p : Int) (n rk col : Nat) (N : Nat → Nat → Int) : Nat → Nat → Int := fun i j => if i ≠ rk ∧ i < n then (N i j * (N rk col % p) - N rk j * (N i col % p)) % p else N i j
def mnRk (p : Int) (n : Nat) : Nat → Nat → Nat → (Nat → Nat → Int) → Nat
  | 0, _, rk, _ => rk
  | f + 1, col, rk, N => match mnP p N col rk n with
    | none => mnRk p n f (col + 1) rk N
    | some q => mnRk p n f (col + 1) (rk + 1) (mnClr p n rk col (mxSwap N q rk))
theorem mnP_some {p : Int} {N : Nat → Nat → Int} {col a n c : Nat} (h1 : a ≤ c) (h2 : c < n) (h3 : N c col % p ≠ 0) (h4 : ∀ i, a ≤ i → i < c → N i col % p = 0) : mnP p N col a n = some c := by
  refine find_range h2 ?_ (fun i hi => ?_)
  · rw [Bool.and_eq_true, decide_eq_true_iff]; exact ⟨h1, bne_iff_ne.mpr h3⟩
  · by_cases e : a ≤ i
    · rw [h4 i e hi]; simp
    · simp [e]
theorem mnP_none {p : Int} {N : Nat → Nat → Int} {col a n : Nat} (h4 : ∀ i, a ≤ i → i < n → N i col % p = 0) : mnP p N col a n = none := by
  refine find_range_none (fun i hi => ?_)
  by_cases e : a ≤ i
  · rw [h4 i e hi]; simp
  · simp [e]
theorem mnP_s {p : Int} {N : Nat → Nat → Int} {col a n c : Nat} (h : mnP p N col a n = some c) : a ≤ c ∧ c < n ∧ N c col % p ≠ 0 := by
  obtain ⟨h1, h2⟩ := find_range_s h
  rw [Bool.and_eq_true, decide_eq_true_iff] at h2
  exact ⟨h2.1, h1, bne_iff_ne.mp h2.2⟩
theorem find_congr {f g : Nat → Bool} : ∀ (l : List Nat), (∀ x, x ∈ l → f x = g x) → l.find? f = l.find? g := by
  intro l
  induction l with
  | nil => intro _; rfl
  | cons a t ih =>
    intro h
    rw [List.find?_cons, List.find?_cons, h a List.mem_cons_self, ih (fun x hx => h x (List.mem_cons_of_mem _ hx))]
theorem ccong (a b c e p : Int) : (a * c - b * e) % p = ((a % p) * c - (b % p) * e) % p := by
  rw [Int.sub_emod (a * c), Int.mul_emod a c, Int.mul_emod b e, Int.sub_emod (a % p * c), Int.mul_emod (a % p) c, Int.mul_emod (b % p) e, Int.emod_emod_of_dvd a (Int.dvd_refl p), Int.emod_emod_of_dvd b (Int.dvd_refl p)]
/-- both come to the same rank -/
theorem mnRk_eq {p : Int} (hp : 0 < p) {n arcs : Nat} : ∀ f col rk M N, col + f = arcs → (∀ i j, rk ≤ i → i < n → col ≤ j → j < arcs → 0 ≤ M i j ∧ M i j < p ∧ N i j % p = M i j) → mnRk p n f col rk N = mxRk p n arcs f col rk M := by
  intro f
  induction f with
  | zero => intro col rk M N _ _; rfl
  | succ f ih =>
    intro col rk M N hf h
    have eP : mnP p N col rk n = mxP M col rk n := by
      unfold mnP mxP
      refine find_congr _ (fun i hi => ?_)
      by_cases e : rk ≤ i
      · rw [(h i col e (List.mem_range.mp hi) (Nat.le_refl _) (by omega)).2.2]
      · simp [e]
    unfold mnRk mxRk
    by_cases hn : n ≤ rk
    · rw [if_pos hn, mnP_none (fun i h1 h2 => by omega)]
      dsimp only
      have key : ∀ f col, mnRk p n f col rk N = rk := by
        intro f
        induction f with
        | zero => intro col; rfl
        | succ f ih2 =>
          intro col
          unfold mnRk
          rw [mnP_none (fun i h1 h2 => by omega)]
          exact ih2 _
      exact key f (col + 1)
    · rw [if_neg hn, eP]
      cases hq : mxP M col rk n with
      | none =>
        dsimp only
        exact ih (col + 1) rk M N (by omega) (fun i j h1 h2 h3 h4 => h i j h1 h2 (by omega) h4)
      | some q =>
        dsimp only
        obtain ⟨c1, c2, c3⟩ := mxP_s hq
        refine ih (col + 1) (rk + 1) _ _ (by omega) (fun i j h1 h2 h3 h4 => ?_)
        have hS : ∀ r j, rk ≤ r → r < n → col ≤ j → j < arcs → 0 ≤ mxSwap M q rk r j ∧ mxSwap M q rk r j < p ∧ mxSwap N q rk r j % p = mxSwap M q rk r j := by
          intro r j q1 q2 q3 q4
          unfold mxSwap
          by_cases e1 : r = q
          · rw [if_pos e1, if_pos e1]; exact h rk j (by omega) (by omega) q3 q4
          · by_cases e2 : r = rk
            · rw [if_neg e1, if_pos e2, if_neg e1, if_pos e2]; exact h q j c1 c2 q3 q4
            · rw [if_neg e1, if_neg e2, if_neg e1, if_neg e2]; exact h r j q1 q2 q3 q4
        generalize mxSwap M q rk = S at hS
        generalize mxSwap N q rk = T at hS
        unfold mxClr mnClr
        rw [if_pos ⟨by omega, h2, by omega, h4⟩, if_pos ⟨by omega, h2⟩]
        have s1 := hS i j (by omega) h2 (by omega) h4
        have s2 := hS rk j (by omega) (by omega) (by omega) h4
        have s3 := hS i col (by omega) h2 (by omega) (by omega)
        have s4 := hS rk col (by omega) (by omega) (by omega) (by omega)
        rw [s3.2.2, s4.2.2]
        refine ⟨Int.emod_nonneg _ (by omega), Int.emod_lt_of_pos _ hp, ?_⟩
        rw [Int.emod_emod_of_dvd _ (Int.dvd_refl p), ccong, s1.2.2, s2.2.2]
def kMn (V : km_V) (n : Nat) (N : Nat → Nat → Int) : Prop := ∀ i j, i < n → j < 12 → V 332 (12 * i + j) = N i j
section MRA
variable {xs : Nat → Int32} {Lx d : Nat} {V : km_V} {n : Nat} {N : Nat → Nat → Int}
theorem sp_rest {x p : Int} {K : Int → km_V → Prop} (hp : 0 < p ∧ p ≤ 13) (hx : kR64 x) (k : K (x % p) V) : kCJ xs Lx (d + 0) 206 3 [kJ x, kI p] V K := by
  obtain ⟨b1, b2, b3, b4, b5⟩ := tmod_b (x := x) hp.1
  refine b206_0 ⟨by omega, hx, by omega, by omega, _, rfl, ?_⟩
  rw [Int.tmod_eq_emod_of_nonneg (by omega), Int.add_emod_right, b5]
  exact k
theorem sp_exchangesRows {i j : Nat} {K : km_V → Prop} (hM : kMn V n N) (hn : n ≤ 8) (hi : i < n) (hj : j < n) (k : ∀ W, kMn W n (mxSwap N i j) → (∀ b c, b ≠ 332 → W b c = V b c) → K W) : kCV xs Lx (d + 0) 207 6 [.ref 299, kI i, kI j] V K := by
  refine b207_0 ?_
  refine kloop 12 (fun m W => (∀ r c, r < n → c < 12 → W 332 (12 * r + c) = if c < m then mxSwap N i j r c else N r c) ∧ (∀ b c, b ≠ 332 → W b c = V b c)) (fun m W => kGo xs Lx (d + 0) 207 2 [some (.ref 299), some (kI i), some (kI j), some (kI (m : Int)), none, none] [] W _) (fun W ⟨g1, g2⟩ => ?_) (fun m W hm ⟨g1, g2⟩ ih => ?_) 0 V (Nat.zero_le _) ⟨fun r c hr hc => by rw [if_neg (by omega)]; exact hM r c hr hc, fun _ _ _ => rfl⟩
  · exact b207_2 ⟨by omega, fun _ => ⟨rfl, k W (fun r c hr hc => by rw [g1 r c hr hc, if_pos hc]) g2⟩, fun h => by omega⟩
  · have t1 : Int.toNat (12 * (i : Int) + (m : Int)) = 12 * i + m := rfl
    have t2 : Int.toNat (12 * (j : Int) + (m : Int)) = 12 * j + m := rfl
    have e1 : W 332 (12 * i + m) = N i m := by rw [g1 i m hi hm, if_neg (by omega)]
    have e2 : W 332 (12 * j + m) = N j m := by rw [g1 j m hj hm, if_neg (by omega)]
    refine b207_2 ⟨by omega, fun h => by omega, fun h => ?_⟩
    simp only [t1, t2, e1, e2]
    refine ⟨by omega, fun z hz => ⟨by omega, ih _ ⟨fun r c hr hc => ?_, fun b c hb => by rw [up_ne (by omega), up_ne (by omega)]; exact g2 b c hb⟩⟩⟩
    subst hz
    by_cases ec : c = m
    · subst ec
      rw [if_pos (by omega)]
      unfold mxSwap
      by_cases e3 : r = j
      · subst e3
        rw [up_at]
        by_cases e4 : r = i
        · subst e4; rw [if_pos rfl]
        · rw [if_neg e4, if_pos rfl]
      · rw [up_ne (by omega)]
        by_cases e4 : r = i
        · subst e4
          rw [up_at, if_pos rfl]
        · rw [up_ne (by omega), if_neg e4, if_neg e3, g1 r c hr hc, if_neg (by omega)]
    · rw [up_ne (by omega), up_ne (by omega), g1 r c hr hc]
      by_cases e5 : c < m
      · rw [if_pos e5, if_pos (by omega)]
      · rw [if_neg e5, if_neg (by omega)]
theorem mul13 {a b : Int} (ha : -13 ≤ a ∧ a ≤ 13) (hb : 0 ≤ b ∧ b ≤ 13) : -169 ≤ a * b ∧ a * b ≤ 169 := by
  have h1 := Int.mul_le_mul_of_nonneg_right ha.2 hb.1
  have h2 := Int.mul_le_mul_of_nonneg_right ha.1 hb.1
  omega
theorem sp_clears {i rk col p : Nat} {K : km_V → Prop} (hM : kMn V n N) (hn : n ≤ 8) (hi : i < n) (hk : rk < n) (hik : i ≠ rk) (hc : col < 12) (hp : 0 < p ∧ p ≤ 13) (hr : ∀ r j, r < n → j < 12 → -13 ≤ N r j ∧ N r j ≤ 13) (k : ∀ W, kMn W n (fun r j => if r = i then (N i j * (N rk col % (p : Int)) - N rk j * (N i col % (p : Int))) % (p : Int) else N r j) → (∀ b c, b ≠ 332 → W b c = V b c) → K W) : kCV xs Lx (d + 1) 208 10 [.ref 299, kI i, kI rk, kI col, kI p] V K := by
  have t1 : Int.toNat (12 * (i : Int) + (col : Int)) = 12 * i + col := rfl
  have t2 : Int.toNat (12 * (rk : Int) + (col : Int)) = 12 * rk + col := rfl
  have r3 := hr i col hi hc
  have r4 := hr rk col hk hc
  refine b208_0 ?_
  rw [t1, hM i col hi hc]
  refine ⟨by omega, sp_rest (by omega) (by omega) ?_⟩
  rw [t2, hM rk col hk hc]
  refine ⟨by omega, sp_rest (by omega) (by omega) ?_⟩
  have q1 := Int.emod_nonneg (N i col) (show (p : Int) ≠ 0 by omega)
  have q2 := Int.emod_lt_of_pos (N i col) (show (0 : Int) < p by omega)
  have q3 := Int.emod_nonneg (N rk col) (show (p : Int) ≠ 0 by omega)
  have q4 := Int.emod_lt_of_pos (N rk col) (show (0 : Int) < p by omega)
  refine kloop 12 (fun m W => (∀ r j, r < n → j < 12 → W 332 (12 * r + j) = if r = i ∧ j < m then (N i j * (N rk col % (p : Int)) - N rk j * (N i col % (p : Int))) % (p : Int) else N r j) ∧ (∀ b c, b ≠ 332 → W b c = V b c)) (fun m W => kGo xs Lx (d + 1) 208 39 [some (.ref 299), some (kI i), some (kI rk), none, some (kI p), some (kJ (N i col % (p : Int))), none, some (kJ (N rk col % (p : Int))), none, some (kI (m : Int))] [] W _) (fun W ⟨g1, g2⟩ => ?_) (fun m W hm ⟨g1, g2⟩ ih => ?_) 0 V (Nat.zero_le _) ⟨fun r j hr hj => by rw [if_neg (by omega)]; exact hM r j hr hj, fun _ _ _ => rfl⟩
  · refine b208_39 ⟨by omega, fun _ => ⟨rfl, k W (fun r j h1 h2 => ?_) g2⟩, fun h => by omega⟩
    rw [g1 r j h1 h2]
    dsimp only
    by_cases e : r = i
    · rw [if_pos ⟨e, h2⟩, if_pos e]
    · rw [if_neg (fun z => e z.1), if_neg e]
  · have t3 : Int.toNat (12 * (i : Int) + (m : Int)) = 12 * i + m := rfl
    have t4 : Int.toNat (12 * (rk : Int) + (m : Int)) = 12 * rk + m := rfl
    have w1 : W 332 (12 * i + m) = N i m := by rw [g1 i m hi hm, if_neg (by omega)]
    have w2 : W 332 (12 * rk + m) = N rk m := by rw [g1 rk m hk hm, if_neg (by omega)]
    have s1 := mul13 (hr i m hi hm) (show 0 ≤ N rk col % (p : Int) ∧ N rk col % (p : Int) ≤ 13 by omega)
    have s2 := mul13 (hr rk m hk hm) (show 0 ≤ N i col % (p : Int) ∧ N i col % (p : Int) ≤ 13 by omega)
    refine b208_39 ⟨by omega, fun h => by omega, fun h => ?_⟩
    simp only [t3, t4, w1, w2]
    refine ⟨by omega, by omega, sp_rest (by omega) (by omega) (ih _ ⟨fun r j hr' hj => ?_, fun b c hb => by rw [up_ne (by omega)]; exact g2 b c hb⟩)⟩
    by_cases e : r = i ∧ j = m
    · obtain ⟨rfl, rfl⟩ := e
      rw [up_at, if_pos (by omega)]
    · rw [up_ne (by omega), g1 r j hr' hj]
      by_cases e2 : r = i ∧ j < m
      · rw [if_pos e2, if_pos (by omega)]
      · rw [if_neg e2, if_neg (by omega)]
theorem sp_mcolourings {R : Rw} {x : Int} {K : Int → km_V → Prop} (hR : kRf (V 307) R) (ok : rwOk R) (hx : kR x) (k0 : ¬ (x = 2 ∨ x = 3 ∨ x = 5 ∨ x = 7 ∨ x = 11 ∨ x = 13) → K (-1) V) (k : ∀ p : Nat, x = (p : Int) → (x = 2 ∨ x = 3 ∨ x = 5 ∨ x = 7 ∨ x = 11 ∨ x = 13) → ∀ W, (∀ b j, ¬ (b = 299 ∧ j = 25 ∨ 313 ≤ b ∧ b ≤ 318 ∨ b = 331 ∨ b = 332) → W b j = V b j) → K ((p : Int) ^ (rwAc R - mnRk p (rwn R) (rwAc R) 0 0 (rwM R))) W) : kCJ xs Lx (d + 4) 205 8 [.ref 299, kI x] V K := by
  have o2 := ok.2.1
  have hac : rwAc R ≤ 12 := by
    have := rwZ_le R R.1.length
    have := ok.1
    unfold rwAc; omega
  have main : ∀ p : Nat, 0 < p ∧ p ≤ 13 → (∀ W, (∀ b j, ¬ (b = 299 ∧ j = 25 ∨ 313 ≤ b ∧ b ≤ 318 ∨ b = 331 ∨ b = 332) → W b j = V b j) → K ((p : Int) ^ (rwAc R - mnRk p (rwn R) (rwAc R) 0 0 (rwM R))) W) → kCI xs Lx (d + 3) 204 4 [.ref 299] V (fun y1 W1 => (∀ z2 : Int, z2 = (W1 307 (Int.toNat 1)) → kGo xs Lx (d + 4) 205 55 [some (.ref 299), some (kI p), some (kI y1), some (kI z2), some (kI 0), some (kI 0), none, none] [] W1 (fun r V' => ∃ x, r = some (kJ x) ∧ K x V'))) := by
    intro p hp k
    refine sp_laysRows hR ok (fun W0 hE m0 f0 z hz => ?_)
    simp only [tnn1] at hz
    have e1 : W0 307 1 = _ := (f0 _ _ (by omega)).trans hR.2.1
    rw [e1] at hz
    subst hz
    suffices H : ∀ f col rk : Nat, col + f = rwAc R → rk ≤ rwn R → rk ≤ col → ∀ (N : Nat → Nat → Int) (W : km_V), kMn W (rwn R) N → (∀ r j, r < rwn R → j < 12 → -13 ≤ N r j ∧ N r j ≤ 13) → (∀ b j, ¬ (b = 299 ∧ j = 25 ∨ 313 ≤ b ∧ b ≤ 318 ∨ b = 331 ∨ b = 332) → W b j = V b j) → (∀ W', (∀ b j, ¬ (b = 299 ∧ j = 25 ∨ 313 ≤ b ∧ b ≤ 318 ∨ b = 331 ∨ b = 332) → W' b j = V b j) → K ((p : Int) ^ (rwAc R - mnRk p (rwn R) f col rk N)) W') → kGo xs Lx (d + 4) 205 55 [some (.ref 299), some (kI p), some (kI (rwAc R : Int)), some (kI (rwn R : Int)), some (kI (rk : Int)), some (kI (col : Int)), none, none] [] W (fun r V' => ∃ x, r = some (kJ x) ∧ K x V') from
      H (rwAc R) 0 0 (by omega) (Nat.zero_le _) (Nat.le_refl _) (rwM R) W0 m0 (fun r j _ _ => by have := rwM_r R r j; omega) f0 k
    intro f
    induction f with
    | zero =>
      intro col rk hf hk hrc N W hM hr hfr k
      refine b205_55 ⟨by omega, by omega, fun _ => ?_, fun h => by omega⟩
      have k1 := k W hfr
      have hh : ∀ j, j ≤ rwAc R → rk ≤ j → kGo xs Lx (d + 4) 205 165 [none, some (kI p), some (kI (rwAc R : Int)), none, none, some (kJ ((p : Int) ^ (j - rk))), none, some (kI (j : Int))] [] W (fun r V' => ∃ x, r = some (kJ x) ∧ K x V') := by
        refine kloop0 (rwAc R) _ ?_ (fun j hj ih => ?_)
        · intro _
          exact b205_165 ⟨by omega, by omega, fun _ => ⟨_, rfl, k1⟩, fun h => by omega⟩
        · intro hj2
          refine b205_165 ⟨by omega, by omega, fun h => by omega, fun h => ⟨by omega, ?_⟩⟩
          have := ih (by omega)
          rw [show j + 1 - rk = (j - rk) + 1 by omega, Int.pow_succ] at this
          exact this
      have h0 := hh rk (by omega) (Nat.le_refl _)
      rw [Nat.sub_self] at h0
      exact h0
    | succ f ih =>
      intro col rk hf hk hrc N W hM hr hfr k
      refine b205_55 ⟨by omega, by omega, fun h => by omega, fun h => ?_⟩
      have hcol : col < 12 := by omega
      have hh : ∀ c, c ≤ rwn R → rk ≤ c → (∀ i, rk ≤ i → i < c → N i col % (p : Int) = 0) → kGo xs Lx (d + 4) 205 65 [some (.ref 299), some (kI p), some (kI (rwAc R : Int)), some (kI (rwn R : Int)), some (kI (rk : Int)), some (kI (col : Int)), some (kI (c : Int)), none] [] W (fun r V' => ∃ x, r = some (kJ x) ∧ K x V') := by
        refine kloop0 (rwn R) _ ?_ (fun c hc ihc => ?_)
        · intro h1 h2
          refine b205_65 ⟨by omega, by omega, fun _ => ?_, fun h => by omega⟩
          refine ih (col + 1) rk (by omega) hk (by omega) N W hM hr hfr (fun W' hW' => ?_)
          have := k W' hW'
          unfold mnRk at this
          rw [mnP_none h2] at this
          exact this
        · intro h1 h2
          have t1 : Int.toNat (12 * (c : Int) + (col : Int)) = 12 * c + col := rfl
          have rr := hr c col hc hcol
          refine b205_65 ⟨by omega, by omega, fun h => by omega, fun h => ?_⟩
          rw [t1, hM c col hc hcol]
          have q1 := Int.emod_nonneg (N c col) (show (p : Int) ≠ 0 by omega)
          have q2 := Int.emod_lt_of_pos (N c col) (show (0 : Int) < p by omega)
          refine ⟨by omega, sp_rest (by omega) (by omega) ⟨by omega, kcmp_r _ _, fun h3 => ?_, fun h3 => ?_⟩⟩
          · have h4 : N c col % (p : Int) ≠ 0 := fun z => h3 ((kcmp0 _ _).mpr z)
            have hq := mnP_some (n := rwn R) h1 hc h4 h2
            refine sp_exchangesRows hM o2 hc (show rk < rwn R by omega) (fun W1 m1 f1 => ?_)
            have hr1 : ∀ r j, r < rwn R → j < 12 → -13 ≤ mxSwap N c rk r j ∧ mxSwap N c rk r j ≤ 13 := by
              intro r j g1 g2
              unfold mxSwap
              split
              · exact hr rk j (by omega) g2
              · split
                · exact hr c j hc g2
                · exact hr r j g1 g2
            have fr1 : ∀ b j, ¬ (b = 299 ∧ j = 25 ∨ 313 ≤ b ∧ b ≤ 318 ∨ b = 331 ∨ b = 332) → W1 b j = V b j := fun b j hb => by rw [f1 b j (by omega)]; exact hfr b j hb
            have k2 : ∀ W', (∀ b j, ¬ (b = 299 ∧ j = 25 ∨ 313 ≤ b ∧ b ≤ 318 ∨ b = 331 ∨ b = 332) → W' b j = V b j) → K ((p : Int) ^ (rwAc R - mnRk p (rwn R) f (col + 1) (rk + 1) (mnClr p (rwn R) rk col (mxSwap N c rk)))) W' := by
              intro W' hW'
              have := k W' hW'
              unfold mnRk at this
              rw [hq] at this
              exact this
            generalize mxSwap N c rk = S at *
            have er : ∀ a b : Int, -13 ≤ (a - b) % (p : Int) ∧ (a - b) % (p : Int) ≤ 13 := by
              intro a b
              have e1 := Int.emod_nonneg (a - b) (show (p : Int) ≠ 0 by omega)
              have e2 := Int.emod_lt_of_pos (a - b) (show (0 : Int) < p by omega)
              omega
            refine kloop (rwn R) (fun m W2 => kMn W2 (rwn R) (fun r j => if r ≠ rk ∧ r < m then (S r j * (S rk col % (p : Int)) - S rk j * (S r col % (p : Int))) % (p : Int) else S r j) ∧ (∀ b j, ¬ (b = 299 ∧ j = 25 ∨ 313 ≤ b ∧ b ≤ 318 ∨ b = 331 ∨ b = 332) → W2 b j = V b j)) (fun m W2 => kGo xs Lx (d + 4) 205 119 [some (.ref 299), some (kI p), some (kI (rwAc R : Int)), some (kI (rwn R : Int)), some (kI (rk : Int)), some (kI (col : Int)), none, some (kI (m : Int))] [] W2 _) (fun W2 ⟨g1, g2⟩ => ?_) (fun m W2 hm ⟨g1, g2⟩ ih2 => ?_) 0 W1 (Nat.zero_le _) ⟨fun i j hi hj => by dsimp only; rw [if_neg (by omega)]; exact m1 i j hi hj, fr1⟩
            · refine b205_119 ⟨by omega, by omega, fun _ => ?_, fun h => by omega⟩
              refine ih (col + 1) (rk + 1) (by omega) (by omega) (by omega) (mnClr p (rwn R) rk col S) W2 g1 (fun r j h1 h2 => ?_) g2 k2
              unfold mnClr
              split
              · exact er _ _
              · exact hr1 r j h1 h2
            · refine b205_119 ⟨by omega, by omega, fun h => by omega, fun h => ⟨by omega, fun h5 => ?_, fun h5 => ?_⟩⟩
              · refine ih2 W2 ⟨fun r j h1 h2 => ?_, g2⟩
                rw [g1 r j h1 h2]
                dsimp only
                by_cases e : r ≠ rk ∧ r < m
                · rw [if_pos e, if_pos (by omega)]
                · rw [if_neg e, if_neg (by omega)]
              · refine sp_clears g1 o2 hm (show rk < rwn R by omega) (by omega) hcol hp (fun r j h1 h2 => ?_) (fun W3 m3 f3 => ?_)
                · split
                  · exact er _ _
                  · exact hr1 r j h1 h2
                · refine ih2 W3 ⟨fun r j h1 h2 => ?_, fun b j hb => by rw [f3 b j (by omega)]; exact g2 b j hb⟩
                  rw [m3 r j h1 h2]
                  dsimp only
                  by_cases e : r = m
                  · subst e
                    simp only [Nat.lt_irrefl, and_false, if_false, ne_eq, not_true_eq_false, false_and]
                    rw [if_pos True.intro, if_pos ⟨by omega, by omega⟩]
                  · rw [if_neg e]
                    by_cases e2 : r ≠ rk ∧ r < m
                    · rw [if_pos e2, if_pos (by omega)]
                    · rw [if_neg e2, if_neg (by omega)]
          · have h4 := (kcmp0 _ _).mp h3
            refine ihc (by omega) (fun i h5 h6 => ?_)
            by_cases e : i = c
            · subst e; exact h4
            · exact h2 i h5 (by omega)
      exact hh rk hk (Nat.le_refl _) (fun i h1 h2 => by omega)
  refine b205_0 ⟨hx, fun h => ?_, fun h1 => ⟨fun h => ?_, fun h2 => ⟨fun h => ?_, fun h3 => ⟨fun h => ?_, fun h4 => ⟨fun h => ?_, fun h5 => ⟨fun h => ?_, fun h6 => ⟨_, rfl, k0 (by omega)⟩⟩⟩⟩⟩⟩⟩ <;> subst h
  · exact main 2 (by omega) (k 2 rfl (by omega))
  · exact main 3 (by omega) (k 3 rfl (by omega))
  · exact main 5 (by omega) (k 5 rfl (by omega))
  · exact main 7 (by omega) (k 7 rfl (by omega))
  · exact main 11 (by omega) (k 11 rfl (by omega))
  · exact main 13 (by omega) (k 13 rfl (by omega))
end MRA

/-! the determinant -/
def mxB (n k : Nat) (last : Int) (M : Nat → Nat → Int) : Nat → Nat → Int := fun i j => if k < i ∧ i < n ∧ k < j ∧ j < n then w64 (Int.tdiv (w64 (w64 (M i j * M k k) - w64 (M i k * M k j))) last) else M i j
def mxD (n : Nat) : Nat → Nat → Int → (Nat → Nat → Int) → Int
  | 0, _, last, _ => last
  | f + 1, k, last, M => match mxP M k k n with
    | none => 0
    | some q => mxD n f (k + 1) (mxSwap M q k k k) (mxB n k last (mxSwap M q k))
def abs64 (x : Int) : Int := if x < 0 then w64 (-x) else x
def rwDet (R : Rw) : Int := if rwn R = 0 then (if R.1.length = 1 then 1 else 0) else if rwn R < rwAc R then 0 else abs64 (mxD (rwn R - 1) (rwn R - 1) 0 1 (rwM R))
theorem w64_n1 : w64 (-1) = -1 := w64_id (by omega)
theorem abs64_s {x s : Int} (hx : kR64 x) (hs : s = 1 ∨ s = -1) : abs64 (w64 (s * x)) = abs64 x := by
  rcases hs with rfl | rfl
  · rw [Int.one_mul, w64_id hx]
  · rw [Int.neg_mul, Int.one_mul]
    by_cases h : x = -9223372036854775808
    · subst h
      have e : w64 (- -9223372036854775808) = -9223372036854775808 := by decide +kernel
      rw [e]
    · have e : w64 (-x) = -x := w64_id (by omega)
      rw [e]
      unfold abs64
      by_cases h2 : x < 0
      · rw [if_neg (by omega), if_pos h2, e]
      · by_cases h3 : x = 0
        · subst h3; rfl
        · rw [if_pos (by omega), if_neg h2, Int.neg_neg, w64_id hx]
theorem mxSwap_64 {n i k : Nat} {M : Nat → Nat → Int} (hi : i < n) (hk : k < n) (hr : ∀ r j, r < n → j < 12 → kR64 (M r j)) : ∀ r j, r < n → j < 12 → kR64 (mxSwap M i k r j) := by
  intro r j h1 h2
  unfold mxSwap
  split
  · exact hr k j hk h2
  · split
    · exact hr i j hi h2
    · exact hr r j h1 h2
theorem mxSwap_self (M : Nat → Nat → Int) (k : Nat) : mxSwap M k k = M := by
  funext r
  unfold mxSwap
  by_cases e : r = k
  · subst e; rw [if_pos rfl]
  · rw [if_neg e, if_neg e]
theorem mxB_64 {n s k : Nat} {last : Int} {M : Nat → Nat → Int} (hr : ∀ r j, r < n → j < 12 → kR64 (M r j)) : ∀ r j, r < n → j < 12 → kR64 (mxB s k last M r j) := by
  intro r j h1 h2
  unfold mxB
  split
  · exact w64_r _
  · exact hr r j h1 h2
section DTA
variable {xs : Nat → Int32} {Lx d : Nat} {V : km_V} {n : Nat} {M : Nat → Nat → Int}
theorem sp_eliminated {sz : Nat} {K : Int → km_V → Prop} (hM : kMx V n M) (hn : n ≤ 8) (hs : sz ≤ n) (hr : ∀ r j, r < n → j < 12 → kR64 (M r j)) (k : ∀ W y, kR64 y → abs64 y = abs64 (mxD sz sz 0 1 M) → (∀ b c, ¬ (31 ≤ b ∧ b ≤ 38) → W b c = V b c) → K y W) : kCJ xs Lx (d + 1) 6 12 [.ref 28, kI (sz : Int)] V K := by
  refine c6_0 ?_
  suffices H : ∀ f c : Nat, c + f = sz → ∀ (last sg : Int) (M : Nat → Nat → Int) (W : km_V), kR64 last → last ≠ 0 → (sg = 1 ∨ sg = -1) → kMx W n M → (∀ r j, r < n → j < 12 → kR64 (M r j)) → (∀ b c, ¬ (31 ≤ b ∧ b ≤ 38) → W b c = V b c) → (∀ W y, kR64 y → abs64 y = abs64 (mxD sz f c last M) → (∀ b c, ¬ (31 ≤ b ∧ b ≤ 38) → W b c = V b c) → K y W) → kGo xs Lx (d + 1) 6 8 [some (.ref 28), some (kI (sz : Int)), some (kJ last), none, some (kJ sg), none, some (kI (c : Int)), none, none, none, none, none] [] W (fun r V' => ∃ x, r = some (kJ x) ∧ K x V') from
    H sz 0 (by omega) 1 1 M V (by omega) (by omega) (Or.inl rfl) hM hr (fun _ _ _ => rfl) k
  intro f
  induction f with
  | zero =>
    intro c hc last sg M W hl hl0 hsg hM hr hfr k
    exact c6_8 ⟨by omega, by omega, fun _ => ⟨_, rfl, k W _ (w64_r _) (abs64_s hl hsg) hfr⟩, fun h => by omega⟩
  | succ f ih =>
    intro c hc last sg M W hl hl0 hsg hM hr hfr k
    refine c6_8 ⟨by omega, by omega, fun h => by omega, fun h => ?_⟩
    refine sp_pivotRow hM (fun i hi => hr i c hi (by omega)) (by omega) hs hn (by omega) ?_
    cases hq : mxP M c c sz with
    | none =>
      refine ⟨by show kR (-1); omega, fun h => absurd rfl h, fun _ => ⟨_, rfl, ?_⟩⟩
      refine k W 0 (by omega) ?_ hfr
      unfold mxD
      rw [hq]
    | some q =>
      obtain ⟨c1, c2, c3⟩ := mxP_s hq
      -- behind the exchange
      have main : ∀ (sg2 : Int) (W1 : km_V), (sg2 = 1 ∨ sg2 = -1) → kMx W1 n (mxSwap M q c) → (∀ b c, ¬ (31 ≤ b ∧ b ≤ 38) → W1 b c = V b c) → kGo xs Lx (d + 1) 6 59 [some (.ref 28), some (kI (sz : Int)), some (kJ last), none, some (kJ sg2), none, some (kI (c : Int)), none, some (kI ((c : Int) + 1)), none, none, none] [] W1 (fun r V' => ∃ x, r = some (kJ x) ∧ K x V') := by
        intro sg2 W1 hsg2 hM1 hfr1
        have hr1 := mxSwap_64 (show q < n by omega) (show c < n by omega) hr
        have piv : mxSwap M q c c c ≠ 0 := by
          unfold mxSwap
          by_cases e : c = q
          · subst e; rw [if_pos rfl]; exact c3
          · rw [if_neg e, if_pos rfl]; exact c3
        have k2 : ∀ W y, kR64 y → abs64 y = abs64 (mxD sz f (c + 1) (mxSwap M q c c c) (mxB sz c last (mxSwap M q c))) → (∀ b c, ¬ (31 ≤ b ∧ b ≤ 38) → W b c = V b c) → K y W := by
          intro W y hy he hf'
          refine k W y hy ?_ hf'
          rw [he]
          conv => rhs; unfold mxD
          rw [hq]
        generalize mxSwap M q c = S at *
        refine kloop sz (fun i W2 => c + 1 ≤ i ∧ kMx W2 n (fun r j => if r < i then mxB sz c last S r j else S r j) ∧ (∀ b c, ¬ (31 ≤ b ∧ b ≤ 38) → W2 b c = V b c)) (fun i W2 => kGo xs Lx (d + 1) 6 59 [some (.ref 28), some (kI (sz : Int)), some (kJ last), none, some (kJ sg2), none, some (kI (c : Int)), none, some (kI (i : Int)), none, none, none] [] W2 _) (fun W2 ⟨gm, g1, g2⟩ => ?_) (fun i W2 hi ⟨gm, g1, g2⟩ ih2 => ?_) (c + 1) W1 (by omega) ⟨Nat.le_refl _, fun r j h1 h2 => ?_, hfr1⟩
        · have e1 : W2 (31 + 1 * c) c = S c c := by
            rw [Nat.one_mul, g1 c c (by omega) (by omega)]
            dsimp only
            rw [if_pos (by omega)]
            unfold mxB
            rw [if_neg (by omega)]
          refine c6_59 ⟨by omega, by omega, fun _ => ⟨by omega, by omega, fun z hz => ?_⟩, fun h => by omega⟩
          simp only [tn] at hz
          rw [e1] at hz
          subst hz
          refine ih (c + 1) (by omega) _ sg2 (mxB sz c last S) W2 (hr1 c c (by omega) (by omega)) piv hsg2 (fun r j h1 h2 => ?_) (mxB_64 hr1) g2 k2
          rw [g1 r j h1 h2]
          dsimp only
          by_cases e : r < sz
          · rw [if_pos e]
          · rw [if_neg e]
            unfold mxB
            rw [if_neg (by omega)]
        · refine c6_59 ⟨by omega, by omega, fun h => by omega, fun h => ?_⟩
          refine kloop sz (fun m W3 => c + 1 ≤ m ∧ kMx W3 n (fun r j => if r < i ∨ r = i ∧ j < m then mxB sz c last S r j else S r j) ∧ (∀ b c, ¬ (31 ≤ b ∧ b ≤ 38) → W3 b c = V b c)) (fun m W3 => kGo xs Lx (d + 1) 6 71 [some (.ref 28), some (kI (sz : Int)), some (kJ last), none, some (kJ sg2), none, some (kI (c : Int)), none, some (kI (i : Int)), some (kI (m : Int)), none, none] [] W3 _) (fun W3 ⟨hm', h1, h2⟩ => ?_) (fun m W3 hm ⟨hm', h1, h2⟩ ih3 => ?_) (c + 1) W2 (by omega) ⟨Nat.le_refl _, fun r j q1 q2 => ?_, g2⟩
          · refine c6_71 ⟨by omega, by omega, fun _ => ih2 W3 ⟨by omega, fun r j q1 q2 => ?_, h2⟩, fun h => by omega⟩
            rw [h1 r j q1 q2]
            dsimp only
            by_cases e : r < i + 1
            · rw [if_pos e]
              by_cases e2 : r < i ∨ r = i ∧ j < sz
              · rw [if_pos e2]
              · rw [if_neg e2]
                unfold mxB
                rw [if_neg (by omega)]
            · rw [if_neg e, if_neg (by omega)]
          · have e1 : W3 (31 + 1 * i) m = S i m := by rw [Nat.one_mul, h1 i m (by omega) (by omega)]; dsimp only; rw [if_neg (by omega)]
            have e2 : W3 (31 + 1 * c) c = S c c := by
              rw [Nat.one_mul, h1 c c (by omega) (by omega)]; dsimp only; rw [if_pos (by omega)]
              unfold mxB; rw [if_neg (by omega)]
            have e3 : W3 (31 + 1 * i) c = S i c := by
              rw [Nat.one_mul, h1 i c (by omega) (by omega)]; dsimp only; rw [if_pos (by omega)]
              unfold mxB; rw [if_neg (by omega)]
            have e4 : W3 (31 + 1 * c) m = S c m := by
              rw [Nat.one_mul, h1 c m (by omega) (by omega)]; dsimp only; rw [if_pos (by omega)]
              unfold mxB; rw [if_neg (by omega)]
            refine c6_71 ⟨by omega, by omega, fun h => by omega, fun h => ?_⟩
            simp only [tn, e1, e2, e3, e4]
            refine ⟨by omega, by omega, by omega, by omega, fun z hz => ⟨hl, kcmp_r _ _, fun h6 => ⟨by rw [hz]; exact w64_r _, ⟨hl, hl0⟩, ih3 _ ⟨by omega, fun r j q1 q2 => ?_, fun b c hb => by rw [up_ne (by omega)]; exact h2 b c hb⟩⟩, fun h6 => absurd ((kcmp0 _ _).mp h6) hl0⟩⟩
            subst hz
            dsimp only
            by_cases e : r = i ∧ j = m
            · obtain ⟨rfl, rfl⟩ := e
              rw [show 31 + r = 31 + 1 * r by omega, up_at, if_pos (by omega)]
              unfold mxB
              rw [if_pos (by omega)]
            · rw [up_ne (by omega), h1 r j q1 q2]
              dsimp only
              by_cases e5 : r < i ∨ r = i ∧ j < m
              · rw [if_pos e5, if_pos (by omega)]
              · rw [if_neg e5, if_neg (by omega)]
          · rw [g1 r j q1 q2]
            dsimp only
            by_cases e5 : r < i
            · rw [if_pos e5, if_pos (by omega)]
            · rw [if_neg e5]
              by_cases e6 : r < i ∨ r = i ∧ j < c + 1
              · rw [if_pos e6]
                unfold mxB
                rw [if_neg (by omega)]
              · rw [if_neg e6]
        · rw [hM1 r j h1 h2]
          dsimp only
          by_cases e : r < c + 1
          · rw [if_pos e]
            unfold mxB
            rw [if_neg (by omega)]
          · rw [if_neg e]
      refine ⟨by show kR (q : Int); omega, fun _ => ⟨fun h6 => ?_, fun h6 => ?_⟩, fun h => by have h : (q : Int) = -1 := h; omega⟩
      · have h6 : (q : Int) = (c : Int) := h6
        have : q = c := by omega
        subst this
        refine main sg W hsg ?_ hfr
        rw [mxSwap_self]
        exact hM
      · refine sp_swapRows hM hn (by omega) (by omega) (fun W1 m1 f1 => main _ W1 ?_ m1 (fun b c hb => by rw [f1 b c hb]; exact hfr b c hb))
        rcases hsg with rfl | rfl
        · exact Or.inr w64_n1
        · exact Or.inl (w64_id (by omega))
theorem sp_abs {x : Int} {K : Int → km_V → Prop} (hx : kR64 x) (k : K (abs64 x) V) : kCJ xs Lx (d + 0) 220 2 [kJ x] V K := by
  unfold abs64 at k
  refine b220_0 ⟨hx, kcmp_r _ _, fun h => ⟨_, rfl, ?_⟩, fun h => ⟨_, rfl, ?_⟩⟩
  · rwa [if_neg (fun z => by have := (kcmp_lt x 0).mpr z; omega)] at k
  · rwa [if_pos ((kcmp_lt x 0).mp h)] at k
theorem sp_determinant {t r : Nat} {R : Rw} {K : Int → km_V → Prop} (hr : km_sh[r]? = some (5, 5)) (ht : km_sh[t]? = some (2, 11)) (apr : r + 3 < 28 ∨ 38 < r) (apt : t + 10 < 28 ∨ 38 < t) (hR : kRC V r R) (ok : rwOk R) (hE : kDE V t R) (hA : kAr V R) (k : ∀ W, (∀ b c, ¬ (31 ≤ b ∧ b ≤ 38) → W b c = V b c) → K (rwDet R) W) : kCI xs Lx (d + 2) 5 3 [.ref 28, .ref r, .ref t] V K := by
  have o1 := ok.1
  have o2 := ok.2.1
  have e1 := hR.1
  have e2 := hR.2.1
  have e3 := hA.1
  have hac : rwAc R ≤ 12 := by
    have := rwZ_le R R.1.length
    unfold rwAc; omega
  have k0 := k V (fun _ _ _ => rfl)
  unfold rwDet at k0 k
  refine b5_0 hr ht ⟨by omega, fun h => ⟨by omega, fun h2 => ?_, fun h2 => ⟨_, rfl, ?_⟩⟩, fun h => ⟨by omega, fun h2 => ⟨_, rfl, ?_⟩, fun h2 => ⟨_, rfl, ?_⟩⟩⟩
  · refine sp_writeRows hr ht (by omega) (by omega) hR ok hE hA (fun W m0 f0 => ?_)
    have q : W r 1 = _ := (f0 _ _ (by omega)).trans e2
    rw [q, show (rwn R : Int) - 1 = ((rwn R - 1 : Nat) : Int) by omega]
    refine sp_eliminated m0 o2 (by omega) (fun i j _ _ => by have := rwM_r R i j; omega) (fun W1 y hy he f1 => ?_)
    refine sp_abs hy ⟨_, rfl, ?_⟩
    rw [he]
    have := k W1 (fun b c hb => by rw [f1 b c hb]; exact f0 b c hb)
    rw [if_neg (by omega), if_neg (by omega)] at this
    exact this
  · rw [if_neg (by omega), if_pos (by omega)] at k0; exact k0
  · rw [if_pos (by omega), if_neg (by omega)] at k0; exact k0
  · rw [if_pos (by omega), if_pos (by omega)] at k0; exact k0
theorem sp_mdet {R : Rw} {K : Int → km_V → Prop} (hR : kRf (V 307) R) (ok : rwOk R) (k : ∀ W, (∀ b j, ¬ (b = 299 ∧ j = 25 ∨ 313 ≤ b ∧ b ≤ 318 ∨ b = 331 ∨ b = 332) → W b j = V b j) → K (rwDet R) W) : kCJ xs Lx (d + 4) 209 8 [.ref 299] V K := by
  have o1 := ok.1
  have o2 := ok.2.1
  have e1 := hR.1
  have e2 := hR.2.1
  have hac : rwAc R ≤ 12 := by
    have := rwZ_le R R.1.length
    unfold rwAc; omega
  have kl := ok.len
  have k0 := k V (fun _ _ _ => rfl)
  unfold rwDet at k0 k
  -- without rings no crossings
  have nr : R.1.length = 0 → rwn R = 0 := by
    intro h
    have : R.1 = [] := List.length_eq_zero_iff.mp h
    have h2 : (rwP R).length = 0 := by unfold rwP; rw [this]; rfl
    omega
  refine c209_0 ⟨by simp only [tn0]; omega, fun h => ?_, fun h => ⟨_, rfl, ?_⟩⟩
  · simp only [tn0, tnn1] at h ⊢
    rw [e1, e2]
    intro z hz
    subst hz
    refine ⟨by omega, fun h2 => ?_, fun h2 => ⟨fun h3 => ⟨_, rfl, ?_⟩, fun h3 => ⟨_, rfl, ?_⟩⟩⟩
    · refine sp_laysRows hR ok (fun W0 hE m0 f0 => ⟨by omega, fun h3 => ?_, fun h3 => ⟨_, rfl, ?_⟩⟩)
      · have k1 : ∀ W, (∀ b j, ¬ (b = 299 ∧ j = 25 ∨ 313 ≤ b ∧ b ≤ 318 ∨ b = 331 ∨ b = 332) → W b j = V b j) → K (abs64 (mxD (rwn R - 1) (rwn R - 1) 0 1 (rwM R))) W := by
          intro W hW
          have := k W hW
          rw [if_neg (by omega), if_neg (by omega)] at this
          exact this
        have en : (rwn R : Int) - 1 = ((rwn R - 1 : Nat) : Int) := by omega
        suffices H : ∀ f c : Nat, c + f = rwn R - 1 → ∀ (last : Int) (M : Nat → Nat → Int) (W : km_V), kR64 last → last ≠ 0 → kMn W (rwn R) M → (∀ r j, r < rwn R → j < 12 → kR64 (M r j)) → (∀ b j, ¬ (b = 299 ∧ j = 25 ∨ 313 ≤ b ∧ b ≤ 318 ∨ b = 331 ∨ b = 332) → W b j = V b j) → (∀ W, (∀ b j, ¬ (b = 299 ∧ j = 25 ∨ 313 ≤ b ∧ b ≤ 318 ∨ b = 331 ∨ b = 332) → W b j = V b j) → K (abs64 (mxD (rwn R - 1) f c last M)) W) → kGo xs Lx (d + 4) 209 53 [some (.ref 299), some (kI (rwn R : Int)), some (kJ last), none, some (kI (c : Int)), none, none, none] [] W (fun r V' => ∃ x, r = some (kJ x) ∧ K x V') from
          H (rwn R - 1) 0 (by omega) 1 (rwM R) W0 (by omega) (by omega) m0 (fun i j _ _ => by have := rwM_r R i j; omega) f0 k1
        clear k k0 k1
        intro f
        induction f with
        | zero =>
          intro c hc last M W hl hl0 hM hr hfr k
          have k2 := k W hfr
          unfold mxD abs64 at k2
          refine c209_53 ⟨by omega, by omega, fun _ => ⟨hl, kcmp_r _ _, fun h => ⟨_, rfl, ?_⟩, fun h => ⟨_, rfl, ?_⟩⟩, fun h => by omega⟩
          · rwa [if_neg (fun z => by have := (kcmp_lt last 0).mpr z; omega)] at k2
          · rwa [if_pos ((kcmp_lt last 0).mp h)] at k2
        | succ f ih =>
          intro c hc last M W hl hl0 hM hr hfr k
          refine c209_53 ⟨by omega, by omega, fun h => by omega, fun h => ?_⟩
          have main : ∀ (q : Nat), mxP M c c (rwn R - 1) = some q → kCV xs Lx (d + 3) 207 6 [.ref 299, kI (q : Int), kI (c : Int)] W (fun W1 => kGo xs Lx (d + 4) 209 121 [some (.ref 299), some (kI (rwn R : Int)), some (kJ last), none, some (kI (c : Int)), none, some (kI ((c : Int) + 1)), none] [] W1 (fun r V' => ∃ x, r = some (kJ x) ∧ K x V')) := by
            intro q hq
            obtain ⟨c1, c2, c3⟩ := mxP_s hq
            refine sp_exchangesRows hM o2 (show q < rwn R by omega) (show c < rwn R by omega) (fun W1 m1 f1 => ?_)
            have hr1 := mxSwap_64 (show q < rwn R by omega) (show c < rwn R by omega) hr
            have fr1 : ∀ b j, ¬ (b = 299 ∧ j = 25 ∨ 313 ≤ b ∧ b ≤ 318 ∨ b = 331 ∨ b = 332) → W1 b j = V b j := fun b j hb => by rw [f1 b j (by omega)]; exact hfr b j hb
            have piv : mxSwap M q c c c ≠ 0 := by
              unfold mxSwap
              by_cases e : c = q
              · subst e; rw [if_pos rfl]; exact c3
              · rw [if_neg e, if_pos rfl]; exact c3
            have k2 : ∀ W, (∀ b j, ¬ (b = 299 ∧ j = 25 ∨ 313 ≤ b ∧ b ≤ 318 ∨ b = 331 ∨ b = 332) → W b j = V b j) → K (abs64 (mxD (rwn R - 1) f (c + 1) (mxSwap M q c c c) (mxB (rwn R - 1) c last (mxSwap M q c)))) W := by
              intro W hf'
              have := k W hf'
              unfold mxD at this
              rw [hq] at this
              exact this
            generalize mxSwap M q c = S at *
            refine kloop (rwn R - 1) (fun i W2 => c + 1 ≤ i ∧ kMn W2 (rwn R) (fun r j => if r < i then mxB (rwn R - 1) c last S r j else S r j) ∧ (∀ b j, ¬ (b = 299 ∧ j = 25 ∨ 313 ≤ b ∧ b ≤ 318 ∨ b = 331 ∨ b = 332) → W2 b j = V b j)) (fun i W2 => kGo xs Lx (d + 4) 209 121 [some (.ref 299), some (kI (rwn R : Int)), some (kJ last), none, some (kI (c : Int)), none, some (kI (i : Int)), none] [] W2 _) (fun W2 ⟨gm, g1, g2⟩ => ?_) (fun i W2 hi ⟨gm, g1, g2⟩ ih2 => ?_) (c + 1) W1 (by omega) ⟨Nat.le_refl _, fun r j h1 h2 => ?_, fr1⟩
            · have tc : Int.toNat (12 * (c : Int) + (c : Int)) = 12 * c + c := rfl
              have e1 : W2 332 (12 * c + c) = S c c := by
                rw [g1 c c (by omega) (by omega)]
                dsimp only
                rw [if_pos (by omega)]
                unfold mxB
                rw [if_neg (by omega)]
              refine c209_121 ⟨by omega, by omega, fun _ => ⟨by omega, fun z hz => ?_⟩, fun h => by omega⟩
              rw [tc, e1] at hz
              subst hz
              refine ih (c + 1) (by omega) _ (mxB (rwn R - 1) c last S) W2 (hr1 c c (by omega) (by omega)) piv (fun r j h1 h2 => ?_) (mxB_64 hr1) g2 k2
              rw [g1 r j h1 h2]
              dsimp only
              by_cases e : r < rwn R - 1
              · rw [if_pos e]
              · rw [if_neg e]
                unfold mxB
                rw [if_neg (by omega)]
            · refine c209_121 ⟨by omega, by omega, fun h => by omega, fun h => ?_⟩
              have es : (rwn R : Int) - 2 = ((rwn R - 2 - 0 : Nat) : Int) := by omega
              rw [es]
              -- from the last column back
              refine kloop (rwn R - 2 - c) (fun m W3 => kMn W3 (rwn R) (fun r j => if r < i ∨ r = i ∧ rwn R - 2 - m < j then mxB (rwn R - 1) c last S r j else S r j) ∧ (∀ b j, ¬ (b = 299 ∧ j = 25 ∨ 313 ≤ b ∧ b ≤ 318 ∨ b = 331 ∨ b = 332) → W3 b j = V b j)) (fun m W3 => kGo xs Lx (d + 4) 209 134 [some (.ref 299), some (kI (rwn R : Int)), some (kJ last), none, some (kI (c : Int)), none, some (kI (i : Int)), some (kI ((rwn R - 2 - m : Nat) : Int))] [] W3 _) (fun W3 ⟨h1, h2⟩ => ?_) (fun m W3 hm ⟨h1, h2⟩ ih3 => ?_) 0 W2 (Nat.zero_le _) ⟨fun r j q1 q2 => ?_, g2⟩
              · refine c209_134 ⟨by omega, by omega, fun _ => ih2 W3 ⟨by omega, fun r j q1 q2 => ?_, h2⟩, fun h => by omega⟩
                rw [h1 r j q1 q2]
                dsimp only
                by_cases e : r < i + 1
                · rw [if_pos e]
                  by_cases e2 : r < i ∨ r = i ∧ rwn R - 2 - (rwn R - 2 - c) < j
                  · rw [if_pos e2]
                  · rw [if_neg e2]
                    unfold mxB
                    rw [if_neg (by omega)]
                · rw [if_neg e, if_neg (by omega)]
              · have t1 : Int.toNat (12 * (i : Int) + ((rwn R - 2 - m : Nat) : Int)) = 12 * i + (rwn R - 2 - m) := rfl
                have t2 : Int.toNat (12 * (c : Int) + (c : Int)) = 12 * c + c := rfl
                have t3 : Int.toNat (12 * (i : Int) + (c : Int)) = 12 * i + c := rfl
                have t4 : Int.toNat (12 * (c : Int) + ((rwn R - 2 - m : Nat) : Int)) = 12 * c + (rwn R - 2 - m) := rfl
                have e1 : W3 332 (12 * i + (rwn R - 2 - m)) = S i (rwn R - 2 - m) := by rw [h1 i _ (by omega) (by omega)]; dsimp only; rw [if_neg (by omega)]
                have e2 : W3 332 (12 * c + c) = S c c := by
                  rw [h1 c c (by omega) (by omega)]; dsimp only; rw [if_pos (by omega)]
                  unfold mxB; rw [if_neg (by omega)]
                have e3 : W3 332 (12 * i + c) = S i c := by
                  rw [h1 i c (by omega) (by omega)]; dsimp only; rw [if_neg (by omega)]
                have e4 : W3 332 (12 * c + (rwn R - 2 - m)) = S c (rwn R - 2 - m) := by
                  rw [h1 c _ (by omega) (by omega)]; dsimp only; rw [if_pos (by omega)]
                  unfold mxB; rw [if_neg (by omega)]
                refine c209_134 ⟨by omega, by omega, fun h => by omega, fun h => ?_⟩
                simp only [t1, t2, t3, t4, e1, e2, e3, e4]
                have e5 : ((rwn R - 2 - m : Nat) : Int) + (-1) = ((rwn R - 2 - (m + 1) : Nat) : Int) := by omega
                rw [e5]
                refine ⟨by omega, by omega, by omega, by omega, w64_r _, ⟨hl, hl0⟩, ih3 _ ⟨fun r j q1 q2 => ?_, fun b c hb => by rw [up_ne (by omega)]; exact h2 b c hb⟩⟩
                dsimp only
                by_cases e : r = i ∧ j = rwn R - 2 - m
                · obtain ⟨rfl, rfl⟩ := e
                  rw [up_at, if_pos (by omega)]
                  unfold mxB
                  rw [if_pos (by omega)]
                · rw [up_ne (by omega), h1 r j q1 q2]
                  dsimp only
                  by_cases e6 : r < i ∨ r = i ∧ rwn R - 2 - m < j
                  · rw [if_pos e6, if_pos (by omega)]
                  · rw [if_neg e6, if_neg (by omega)]
              · rw [g1 r j q1 q2]
                dsimp only
                by_cases e6 : r < i
                · rw [if_pos e6, if_pos (by omega)]
                · rw [if_neg e6]
                  by_cases e7 : r < i ∨ r = i ∧ rwn R - 2 - 0 < j
                  · rw [if_pos e7]
                    unfold mxB
                    rw [if_neg (by omega)]
                  · rw [if_neg e7]
            · rw [m1 r j h1 h2]
              dsimp only
              by_cases e : r < c + 1
              · rw [if_pos e]
                unfold mxB
                rw [if_neg (by omega)]
              · rw [if_neg e]
          have hh : ∀ q, q ≤ rwn R - 1 → c ≤ q → (∀ i, c ≤ i → i < q → M i c = 0) → kGo xs Lx (d + 4) 209 65 [some (.ref 299), some (kI (rwn R : Int)), some (kJ last), none, some (kI (c : Int)), some (kI (q : Int)), none, none] [] W (fun r V' => ∃ x, r = some (kJ x) ∧ K x V') := by
            refine kloop0 (rwn R - 1) _ ?_ (fun q hq ihq => ?_)
            · intro h1 h2
              refine c209_65 ⟨by omega, by omega, fun _ => ⟨fun h => by omega, fun _ => ⟨_, rfl, ?_⟩⟩, fun h => by omega⟩
              have := k W hfr
              unfold mxD at this
              rw [mxP_none h2] at this
              exact this
            · intro h1 h2
              have t1 : Int.toNat (12 * (q : Int) + (c : Int)) = 12 * q + c := rfl
              refine c209_65 ⟨by omega, by omega, fun h => by omega, fun h => ?_⟩
              rw [t1, hM q c (by omega) (by omega)]
              refine ⟨by omega, hr q c (by omega) (by omega), kcmp_r _ _, fun h3 => ⟨fun _ => ?_, fun h => by omega⟩, fun h3 => ?_⟩
              · have h4 : M q c ≠ 0 := fun z => h3 ((kcmp0 _ _).mpr z)
                exact main q (mxP_some h1 hq h4 h2)
              · have h4 := (kcmp0 _ _).mp h3
                refine ihq (by omega) (fun i h5 h6 => ?_)
                by_cases e : i = q
                · subst e; exact h4
                · exact h2 i h5 (by omega)
          exact hh c (by omega) (Nat.le_refl _) (fun i h1 h2 => by omega)
      · have := k W0 f0
        rw [if_neg (by omega), if_pos (by omega)] at this
        exact this
    · rw [if_pos (by omega), if_neg (by omega)] at k0; exact k0
    · rw [if_pos (by omega), if_pos (by omega)] at k0; exact k0
  · simp only [tn0] at h
    have := nr (by omega)
    rw [if_pos this, if_neg (by omega)] at k0
    exact k0
end DTA

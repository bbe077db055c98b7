/-! what is asked of brackets, the class and the model -/
theorem cb_hi : ∀ k, k < 12 → ∀ j, j < 23 → 13 ≤ j → cb k j = 0 := by decide +kernel
theorem po_b {k : Nat} (hk : k < 12) (y : Int) : -500 ≤ po k y ∧ po k y ≤ 500 := by
  by_cases h : 2 * (k : Int) < y ∨ y < -(2 * (k : Int)) ∨ (y - 2 * (k : Int)) % 4 ≠ 0
  · rw [po_supp k y h]; omega
  · have e := po_cb k (Int.toNat ((2 * (k : Int) - y) / 4))
    rw [show 2 * (k : Int) - 4 * ((Int.toNat ((2 * (k : Int) - y) / 4) : Nat) : Int) = y by omega] at e
    rw [e]
    exact cb_b k hk _ (by omega)
theorem rsum_b {f : Nat → Int} {n : Nat} {b : Nat} (h : ∀ i, i < n → -(b : Int) ≤ f i ∧ f i ≤ (b : Int)) : -((n * b : Nat) : Int) ≤ rsum f n ∧ rsum f n ≤ ((n * b : Nat) : Int) := by
  induction n with
  | zero => rw [Nat.zero_mul]; exact ⟨Int.le_refl _, Int.le_refl _⟩
  | succ n ih =>
    have h1 := ih (fun i hi => h i (by omega))
    have h2 := h n (by omega)
    rw [rsum_succ, Nat.succ_mul]
    omega
theorem rwBr_b {R : Rw} (ok : rwOk R) (x : Int) : -130000 ≤ rwBr R x ∧ rwBr R x ≤ 130000 := by
  have o2 := ok.2.1
  unfold rwBr
  by_cases hr : R.1.length = 0
  · rw [if_pos hr]; omega
  · rw [if_neg hr]
    have p := pow_256 o2
    have h := rsum_b (f := fun s => po (rwLoops R s - 1) (x - ((rwn R : Int) - 2 * (rwBc s : Int)))) (n := 2 ^ rwn R) (b := 500) (fun s hs => by
      have b2 := rwLoops_b ok (by omega) s
      exact po_b (by omega) _)
    omega
/-- the bracket, turned by the writhe -/
def rwKn (R : Rw) (e : Int) : Int := if rwWr R % 2 = 0 then rwBr R (e + 3 * rwWr R) else - rwBr R (e + 3 * rwWr R)
theorem rwKn_supp {R : Rw} (ok : rwOk R) {e : Int} (h : 60 < e ∨ e < -60) : rwKn R e = 0 := by
  have w := rwWr_b ok
  unfold rwKn
  rw [rwBr_supp ok (by omega)]
  split <;> rfl
theorem rwKn_b {R : Rw} (ok : rwOk R) (e : Int) : -130000 ≤ rwKn R e ∧ rwKn R e ≤ 130000 := by
  have b := rwBr_b ok (e + 3 * rwWr R)
  unfold rwKn
  split <;> omega
theorem tmod2 (w : Int) : (Int.tmod w 2 = 0 ↔ w % 2 = 0) ∧ -2 < Int.tmod w 2 ∧ Int.tmod w 2 < 2 := by
  rcases Int.emod_emod_of_dvd w (show (2 : Int) ∣ 2 by omega) with _
  have h := Int.mul_tdiv_add_tmod w 2
  have h2 : -2 < Int.tmod w 2 ∧ Int.tmod w 2 < 2 := by
    constructor
    · have := Int.lt_tmod_of_pos w (show (0 : Int) < 2 by omega); omega
    · have := Int.tmod_lt_of_pos w (show (0 : Int) < 2 by omega); omega
  exact ⟨by omega, h2⟩
def rwSame (R S : Rw) (m : Bool) : Prop := ∀ e : Int, rwKn R e = rwKn S (if m then -e else e)
def rwSpanP (R : Rw) (s : Int) : Prop := ((∀ x, rwBr R x = 0) ∧ s = 0) ∨ ∃ lo hi, rwBr R lo ≠ 0 ∧ rwBr R hi ≠ 0 ∧ (∀ x, rwBr R x ≠ 0 → lo ≤ x ∧ x ≤ hi) ∧ s = hi - lo
theorem rwSpanP.uniq {R : Rw} {s u : Int} (h1 : rwSpanP R s) (h2 : rwSpanP R u) : s = u := by
  rcases h1 with ⟨a, rfl⟩ | ⟨lo, hi, a, b, c, rfl⟩
  · rcases h2 with ⟨_, rfl⟩ | ⟨lo, hi, a2, b, c, rfl⟩
    · rfl
    · exact absurd (a lo) a2
  · rcases h2 with ⟨a2, rfl⟩ | ⟨lo2, hi2, a2, b2, c2, rfl⟩
    · exact absurd (a2 lo) a
    · have q1 := c lo2 a2
      have q2 := c hi2 b2
      have q3 := c2 lo a
      have q4 := c2 hi b
      omega
section KNO
variable {xs : Nat → Int32} {Lx d : Nat} {V : km_V} {t u : Nat} {R S : Rw}
theorem sp_at {x : Int} {K : Int → km_V → Prop} (ht : km_sh[t]? = some (1, 3)) (hB : kBr V t R) (ok : rwOk R) (hx : kR x) (k : K (rwBr R x) V) : kCI xs Lx (d + 0) 16 2 [.ref t, kI x] V K := by
  refine b16_0 ht ⟨hx, fun h => ?_, fun h => ⟨fun h2 => ⟨by omega, ?_⟩, fun h2 => ?_⟩⟩
  · rw [rwBr_supp ok (by omega)] at k; exact ⟨_, rfl, k⟩
  · rw [hB.1 x ⟨h, h2⟩]; exact ⟨_, rfl, k⟩
  · rw [rwBr_supp ok (by omega)] at k; exact ⟨_, rfl, k⟩
theorem sp_knottedAt {x : Int} {K : Int → km_V → Prop} (ht : km_sh[t]? = some (1, 3)) (hB : kBr V t R) (ok : rwOk R) (hx : kR x) (k : K (rwKn R x) V) : kCI xs Lx (d + 1) 17 3 [.ref t, kI x] V K := by
  have w := rwWr_b ok
  have h0 := hB.2
  refine b17_0 ht ⟨hx, fun h => ?_, fun h => ⟨fun h2 => ?_, fun h2 => ?_⟩⟩
  · rw [rwKn_supp ok (by omega)] at k; exact ⟨_, rfl, k⟩
  · rw [h0]
    refine sp_at ht hB ok (by omega) ?_
    have t2 := tmod2 (rwWr R)
    rw [h0]
    unfold rwKn at k
    refine ⟨by omega, by omega, fun h3 => ?_, fun h3 => ?_⟩
    · rw [if_neg (fun z => h3 (t2.1.mpr z))] at k; exact ⟨_, rfl, k⟩
    · rw [if_pos (t2.1.mp h3)] at k; exact ⟨_, rfl, k⟩
  · rw [rwKn_supp ok (by omega)] at k; exact ⟨_, rfl, k⟩
theorem sp_knottedAlike {m : Bool} {K : Int → km_V → Prop} (ht : km_sh[t]? = some (1, 3)) (hu : km_sh[u]? = some (1, 3)) (hB : kBr V t R) (hC : kBr V u S) (ok : rwOk R) (okS : rwOk S) (k1 : rwSame R S m → K 1 V) (k0 : ¬ rwSame R S m → K 0 V) : kCI xs Lx (d + 2) 18 4 [.ref t, .ref u, kI (if m then 1 else 0)] V K := by
  refine b18_0 ht hu ?_
  have go : ∀ n : Nat, n ≤ 121 → (∀ e : Int, -60 ≤ e → e < (n : Int) - 60 → rwKn R e = rwKn S (if m then -e else e)) → kGo xs Lx (d + 2) 18 3 [some (.ref t), some (.ref u), some (kI (if m then 1 else 0)), some (kI ((n : Int) - 60))] [] V (fun r V' => ∃ v : Int, r = some (kI v) ∧ K v V') := by
    refine kloop0 121 (fun n => (∀ e : Int, -60 ≤ e → e < (n : Int) - 60 → rwKn R e = rwKn S (if m then -e else e)) → kGo xs Lx (d + 2) 18 3 [some (.ref t), some (.ref u), some (kI (if m then 1 else 0)), some (kI ((n : Int) - 60))] [] V (fun r V' => ∃ v : Int, r = some (kI v) ∧ K v V')) ?_ (fun n hn ih hh => ?_)
    · intro hh
      refine b18_3 ht hu ⟨by omega, fun _ => ⟨_, rfl, k1 (fun e => ?_)⟩, fun h => by omega⟩
      by_cases c : -60 ≤ e ∧ e ≤ 60
      · exact hh e c.1 (by omega)
      · rw [rwKn_supp ok (by omega)]
        cases m with
        | false => exact (rwKn_supp okS (e := e) (by omega)).symm
        | true => exact (rwKn_supp okS (e := -e) (by omega)).symm
    · have b1 := rwKn_b ok ((n : Int) - 60)
      have nx : rwKn R ((n : Int) - 60) = rwKn S (if m then -((n : Int) - 60) else (n : Int) - 60) → kGo xs Lx (d + 2) 18 3 [some (.ref t), some (.ref u), some (kI (if m then 1 else 0)), some (kI ((n : Int) - 60 + 1))] [] V (fun r V' => ∃ v : Int, r = some (kI v) ∧ K v V') := by
        intro h
        have := ih (fun e h1 h2 => by
          by_cases c : e = (n : Int) - 60
          · rw [c]; exact h
          · exact hh e h1 (by omega))
        rw [show ((n + 1 : Nat) : Int) - 60 = (n : Int) - 60 + 1 by omega] at this
        exact this
      refine b18_3 ht hu ⟨by omega, fun h => by omega, fun _ => ?_⟩
      refine sp_knottedAt ht hB ok (by omega) ⟨by cases m <;> exact ⟨by decide, by decide⟩, fun h => ?_, fun h => ?_⟩
      · have hm : m = false := by cases m with
          | false => rfl
          | true => exact absurd h (by decide)
        subst hm
        have b2 := rwKn_b okS ((n : Int) - 60)
        exact sp_knottedAt hu hC okS (by omega) ⟨by omega, by omega, fun e => nx e, fun e => ⟨_, rfl, k0 (fun z => e (z _))⟩⟩
      · have hm : m = true := by cases m with
          | true => rfl
          | false => exact absurd rfl h
        subst hm
        have b2 := rwKn_b okS (-((n : Int) - 60))
        exact sp_knottedAt hu hC okS (by omega) ⟨by omega, by omega, fun e => nx e, fun e => ⟨_, rfl, k0 (fun z => e (z _))⟩⟩
  have := go 0 (by omega) (fun e h1 h2 => by omega)
  exact this
theorem sp_span {K : Int → km_V → Prop} (ht : km_sh[t]? = some (1, 3)) (hB : kBr V t R) (ok : rwOk R) (k : ∀ s, rwSpanP R s → 0 ≤ s → s ≤ 60 → K s V) : kCI xs Lx (d + 1) 19 5 [.ref t] V K := by
  refine b19_0 ht ?_
  have go : ∀ n : Nat, n ≤ 121 → ∀ x1 x2 x3 : Int, ((x3 = 0 ∧ x1 = 0 ∧ x2 = 0 ∧ ∀ e : Int, e < (n : Int) - 60 → rwBr R e = 0) ∨ (x3 = 1 ∧ x1 < (n : Int) - 60 ∧ rwBr R x1 ≠ 0 ∧ rwBr R x2 ≠ 0 ∧ ∀ e : Int, e < (n : Int) - 60 → rwBr R e ≠ 0 → x1 ≤ e ∧ e ≤ x2)) → kGo xs Lx (d + 1) 19 10 [some (.ref t), some (kI x1), some (kI x2), some (kI x3), some (kI ((n : Int) - 60))] [] V (fun r V' => ∃ v : Int, r = some (kI v) ∧ K v V') := by
    refine kloop0 121 (fun n => ∀ x1 x2 x3 : Int, ((x3 = 0 ∧ x1 = 0 ∧ x2 = 0 ∧ ∀ e : Int, e < (n : Int) - 60 → rwBr R e = 0) ∨ (x3 = 1 ∧ x1 < (n : Int) - 60 ∧ rwBr R x1 ≠ 0 ∧ rwBr R x2 ≠ 0 ∧ ∀ e : Int, e < (n : Int) - 60 → rwBr R e ≠ 0 → x1 ≤ e ∧ e ≤ x2)) → kGo xs Lx (d + 1) 19 10 [some (.ref t), some (kI x1), some (kI x2), some (kI x3), some (kI ((n : Int) - 60))] [] V (fun r V' => ∃ v : Int, r = some (kI v) ∧ K v V')) (fun x1 x2 x3 h => ?_) (fun n hn ih x1 x2 x3 h => ?_)
    · refine b19_10 ht ⟨by omega, fun _ => ⟨_, rfl, ?_⟩, fun h => by omega⟩
      rcases h with ⟨h3, h1, h2, h4⟩ | ⟨h3, h0, h1, h2, h4⟩
      · refine k _ (Or.inl ⟨fun x => ?_, by omega⟩) (by omega) (by omega)
        by_cases c : x ≤ 60
        · exact h4 x (by omega)
        · exact rwBr_supp ok (by omega)
      · have s1 : -30 ≤ x1 ∧ x1 ≤ 30 := by
          by_cases c : -30 ≤ x1 ∧ x1 ≤ 30
          · exact c
          · exact absurd (rwBr_supp ok (by omega)) h1
        have s2 : -30 ≤ x2 ∧ x2 ≤ 30 := by
          by_cases c : -30 ≤ x2 ∧ x2 ≤ 30
          · exact c
          · exact absurd (rwBr_supp ok (by omega)) h2
        have s3 := h4 x1 h0 h1
        refine k _ (Or.inr ⟨x1, x2, h1, h2, fun x hx => ?_, rfl⟩) (by omega) (by omega)
        by_cases c : x ≤ 60
        · exact h4 x (by omega) hx
        · exact absurd (rwBr_supp ok (by omega)) hx
    · have b1 := rwBr_b ok ((n : Int) - 60)
      have nx := fun y1 y2 y3 hh => ih y1 y2 y3 hh
      rw [show ((n + 1 : Nat) : Int) - 60 = (n : Int) - 60 + 1 by omega] at nx
      refine b19_10 ht ⟨by omega, fun h => by omega, fun _ => sp_at ht hB ok (by omega) ⟨by omega, fun e => nx _ _ _ ?_, fun e => ⟨by omega, fun e3 => nx _ _ _ ?_, fun e3 => ?_⟩⟩⟩
      · rcases h with ⟨h3, h1, h2, h4⟩ | ⟨h3, h0, h1, h2, h4⟩
        · refine Or.inl ⟨h3, h1, h2, fun x hx => ?_⟩
          by_cases c : x = (n : Int) - 60
          · rw [c]; exact e
          · exact h4 x (by omega)
        · refine Or.inr ⟨h3, by omega, h1, h2, fun x hx hn => ?_⟩
          by_cases c : x = (n : Int) - 60
          · rw [c] at hn; exact absurd e hn
          · exact h4 x (by omega) hn
      · rcases h with ⟨h3, h1, h2, h4⟩ | ⟨h3, h0, h1, h2, h4⟩
        · refine Or.inr ⟨rfl, by omega, e, e, fun x hx hn => ?_⟩
          by_cases c : x = (n : Int) - 60
          · omega
          · exact absurd (h4 x (by omega)) hn
        · omega
      · rcases h with ⟨h3, h1, h2, h4⟩ | ⟨h3, h0, h1, h2, h4⟩
        · omega
        · refine nx _ _ _ (Or.inr ⟨rfl, by omega, h1, e, fun x hx hn => ?_⟩)
          by_cases c : x = (n : Int) - 60
          · omega
          · have := h4 x (by omega) hn; omega
  have := go 0 (by omega) 0 0 0 (Or.inl ⟨rfl, rfl, rfl, fun e he => rwBr_supp ok (by omega)⟩)
  exact this
end KNO

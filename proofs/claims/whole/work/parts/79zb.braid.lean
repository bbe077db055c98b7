/-! braids in the class -/
def bMean (K W : Nat → Int) (P : Nat → Nat) (L : List Nat) (f : Int) (p : Nat) : Prop := (¬ (2 ≤ W 1 ∧ W 1 ≤ 4) ∧ f = 5 ∧ p = P 1) ∨ ((2 ≤ W 1 ∧ W 1 ≤ 4) ∧ ∃ i, i < L.length ∧ (∀ j, j < i → 1 ≤ W (L.getD j 0) ∧ W (L.getD j 0) < W 1) ∧ ¬ (1 ≤ W (L.getD i 0) ∧ W (L.getD i 0) < W 1) ∧ f = 5 ∧ p = P (L.getD i 0)) ∨ ((2 ≤ W 1 ∧ W 1 ≤ 4) ∧ (∀ j, j < L.length → 1 ≤ W (L.getD j 0) ∧ W (L.getD j 0) < W 1) ∧ f = 0 ∧ p = 0)
theorem bMean_uni {K W : Nat → Int} {P : Nat → Nat} {L : List Nat} {f f' : Int} {p p' : Nat} (h : bMean K W P L f p) (h' : bMean K W P L f' p') : f = f' ∧ p = p' := by
  rcases h with ⟨a, a4, a5⟩ | ⟨a, i, a1, a2, a3, a4, a5⟩ | ⟨a, a1, a4, a5⟩
  · rcases h' with ⟨b, b4, b5⟩ | ⟨b, _⟩ | ⟨b, _⟩
    · exact ⟨by rw [a4, b4], by rw [a5, b5]⟩
    · exact absurd b a
    · exact absurd b a
  · rcases h' with ⟨b, b4, b5⟩ | ⟨b, i', b1, b2, b3, b4, b5⟩ | ⟨b, b1, b4, b5⟩
    · exact absurd a b
    · have : i = i' := by
        apply Decidable.byContradiction
        intro n
        by_cases l : i < i'
        · exact a3 (b2 i l)
        · exact b3 (a2 i' (by omega))
      subst this
      exact ⟨by rw [a4, b4], by rw [a5, b5]⟩
    · exact absurd (b1 i a1) a3
  · rcases h' with ⟨b, b4, b5⟩ | ⟨b, i', b1, b2, b3, b4, b5⟩ | ⟨b, b1, b4, b5⟩
    · exact absurd a b
    · exact absurd (a1 i' b1) b3
    · exact ⟨by rw [a4, b4], by rw [a5, b5]⟩
def kBv (V : km_V) (K W : Nat → Int) (P : Nat → Nat) (L : List Nat) : Prop := V 3 7 = (L.length : Int) ∧ V 3 4 = W 1 ∧ V 3 5 = (P 1 : Int) ∧ ∀ i, i < L.length → V 5 i = W (L.getD i 0) ∧ V 6 i = (P (L.getD i 0) : Int) ∧ V 9 i = rdSg K (L.getD i 0)
section BST
variable {xs : Nat → Int32} {Lx d : Nat} {V : km_V} {K W : Nat → Int} {P : Nat → Nat} {L : List Nat}
theorem sp_braidStands {G : Int → km_V → Prop} (hB : kBv V K W P L) (hl : L.length ≤ 8) (r1 : kR (W 1)) (kW : ∀ i, i < L.length → kR (W (L.getD i 0))) (k : ∀ f p X, bMean K W P L f p → (f ≠ 0 → X 3 0 = f ∧ X 3 1 = (p : Int)) → (∀ b j, ¬ (b = 3 ∧ j < 2) → X b j = V b j) → G (if f = 0 then 1 else 0) X) : kCI xs Lx (d + 1) 53 2 [.ref 3] V G := by
  obtain ⟨h7, h4, h5, hI⟩ := hB
  have bad : ¬ (2 ≤ W 1 ∧ W 1 ≤ 4) → ∃ v : Int, some (kI 0) = some (kI v) ∧ G v (up (up V 3 0 5) 3 1 (V 3 5)) := fun n => ⟨_, rfl, by
    rw [h5]
    exact k 5 (P 1) (up (up V 3 0 5) 3 1 (P 1 : Int)) (Or.inl ⟨n, rfl, rfl⟩) (fun _ => ⟨by rw [up_ne (by omega), up_at], up_at _ _ _ _⟩) (fun b j hb => by rw [up_ne (by omega), up_ne (by omega)])⟩
  refine b53_0 ⟨by rw [h4]; exact r1, fun l => bad (by omega), fun g => ⟨fun l4 => ?_, fun g4 => bad (by omega)⟩⟩
  rw [h4] at g l4
  refine kloop0 L.length (fun i => (∀ j, j < i → 1 ≤ W (L.getD j 0) ∧ W (L.getD j 0) < W 1) → kGo xs Lx (d + 1) 53 28 [some (.ref 3), some (kI (i : Int))] [] V (fun r V' => ∃ v : Int, r = some (kI v) ∧ G v V')) (fun hh => ?_) (fun i hi ih hh => ?_) 0 (Nat.zero_le _) (fun j h => absurd h (Nat.not_lt_zero _))
  · refine b53_28 ?_
    rw [h7]
    exact ⟨by omega, by omega, fun _ => ⟨_, rfl, k 0 0 V (Or.inr (Or.inr ⟨⟨g, l4⟩, hh, rfl, rfl⟩)) (fun q => absurd rfl q) (fun _ _ _ => rfl)⟩, fun l => by omega⟩
  · obtain ⟨s5, s6, s9⟩ := hI i hi
    have kw := kW i hi
    have bad2 : ¬ (1 ≤ W (L.getD i 0) ∧ W (L.getD i 0) < W 1) → ∃ v : Int, some (kI 0) = some (kI v) ∧ G v (up (up V 3 0 5) 3 1 (P (L.getD i 0) : Int)) := fun n => ⟨_, rfl, by
      exact k 5 (P (L.getD i 0)) (up (up V 3 0 5) 3 1 (P (L.getD i 0) : Int)) (Or.inr (Or.inl ⟨⟨g, l4⟩, i, hi, hh, n, rfl, rfl⟩)) (fun _ => ⟨by rw [up_ne (by omega), up_at], up_at _ _ _ _⟩) (fun b j hb => by rw [up_ne (by omega), up_ne (by omega)])⟩
    refine b53_28 ?_
    rw [h7, tn, s5, s6, h4]
    refine ⟨by omega, by omega, fun l => by omega, fun _ => ⟨⟨by omega, by omega⟩, kw, fun l1 => bad2 (by omega), fun g1 => ⟨r1, fun ls => ih (fun j hj => ?_), fun gs => bad2 (by omega)⟩⟩⟩
    by_cases e : j = i
    · subst e; exact ⟨g1, ls⟩
    · exact hh j (by omega)
end BST
theorem brT_lt {a : Nat → Nat} {s c x : Nat} (hx : x < s) (ha : a c + 2 ≤ s) : brT a c x < s := by
  unfold brT; (repeat' split) <;> omega
theorem brX_lt {a : Nat → Nat} {s x : Nat} (hx : x < s) : ∀ m, (∀ c, c < m → a c + 2 ≤ s) → brX a m x < s := by
  intro m
  induction m with
  | zero => intro _; exact hx
  | succ m ih => intro h; exact brT_lt (ih (fun c hc => h c (by omega))) (h m (by omega))
theorem brL_mono {a b : Nat → Nat} {x m : Nat} : ∀ n, m ≤ n → (brL a b m x).length ≤ (brL a b n x).length := by
  intro n
  induction n with
  | zero => intro h; rw [show m = 0 by omega]; exact Nat.le_refl _
  | succ n ih =>
    intro h
    by_cases e : m = n + 1
    · subst e; exact Nat.le_refl _
    · have := ih (by omega)
      show _ ≤ (brL a b n x ++ brO a b n (brX a n x)).length
      rw [List.length_append]; omega
theorem or16 {g x : Nat} (hg : g < 16) (hx : x < 4) : g ||| 2 ^ x < 16 := Nat.or_lt_two_pow (n := 4) hg (Nat.pow_lt_pow_right (by decide) hx)
theorem gone_or : ∀ g, g < 16 → ∀ x, x < 4 → (2 * g) ||| 2 ^ (x + 1) = 2 * (g ||| 2 ^ x) := by decide +kernel
theorem gone_bit (g x : Nat) : 2 * g / 2 ^ (x + 1) % 2 = g / 2 ^ x % 2 := by
  rw [Nat.pow_succ, Nat.mul_comm (2 ^ x) 2, Nat.mul_div_mul_left _ _ (by decide)]
theorem brG_lt {a b : Nat → Nat} {n s : Nat} (hs : s ≤ 4) (ha : ∀ c, c < n → a c + 2 ≤ s) : ∀ f g x, g < 16 → x < s → (brG a b n f g x).2 < 16 := by
  intro f
  induction f with
  | zero => intro g x hg _; exact hg
  | succ f ih =>
    intro g x hg hx
    unfold brG
    split
    · exact hg
    · exact ih _ _ (or16 hg (by omega)) (brX_lt hx n ha)
theorem brR_s {a b : Nat → Nat} {n s p : Nat} : brR a b n s (p + 1) = if (brR a b n s p).2 / 2 ^ p % 2 = 1 then brR a b n s p else ((brR a b n s p).1 ++ [(brG a b n s (brR a b n s p).2 p).1], (brG a b n s (brR a b n s p).2 p).2) := rfl
theorem brR_lt {a b : Nat → Nat} {n s : Nat} (hs : s ≤ 4) (ha : ∀ c, c < n → a c + 2 ≤ s) : ∀ p, p ≤ s → (brR a b n s p).2 < 16 ∧ (brR a b n s p).1.length ≤ p := by
  intro p
  induction p with
  | zero => intro _; exact ⟨by show (0 : Nat) < 16; decide, Nat.le_refl _⟩
  | succ p ih =>
    intro h
    obtain ⟨i1, i2⟩ := ih (by omega)
    rw [brR_s]
    split
    · exact ⟨i1, by omega⟩
    · exact ⟨brG_lt hs ha s _ p i1 (by omega), by rw [List.length_append, List.length_singleton]; omega⟩
theorem brR_mono {a b : Nat → Nat} {n s p : Nat} : ∀ q, p ≤ q → (brR a b n s p).1.flatten.length ≤ (brR a b n s q).1.flatten.length := by
  intro q
  induction q with
  | zero => intro h; rw [show p = 0 by omega]; exact Nat.le_refl _
  | succ q ih =>
    intro h
    by_cases e : p = q + 1
    · subst e; exact Nat.le_refl _
    · have := ih (by omega)
      have e2 : (brR a b n s (q + 1)).1 = (brR a b n s q).1 ∨ ∃ l, (brR a b n s (q + 1)).1 = (brR a b n s q).1 ++ [l] := by
        rw [brR_s]
        split
        · exact Or.inl rfl
        · exact Or.inr ⟨_, rfl⟩
      rcases e2 with e2 | ⟨l, e2⟩
      · rw [e2]; exact this
      · rw [e2, List.flatten_append, List.length_append]; omega

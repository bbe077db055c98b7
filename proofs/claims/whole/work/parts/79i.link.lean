/-! the two kinds of tokens -/
def nm27 (f : Nat → Int) : Nat → Int
  | 0 => 0
  | n + 1 => 27 * nm27 f n + f n
theorem nm27_nn {f : Nat → Int} : ∀ n, (∀ i, i < n → 1 ≤ f i ∧ f i ≤ 26) → 0 ≤ nm27 f n := by
  intro n
  induction n with
  | zero => intro _; exact Int.le_refl _
  | succ n ih =>
    intro h
    have a := ih (fun i hi => h i (by omega))
    have b := h n (by omega)
    show 0 ≤ 27 * nm27 f n + f n
    omega
theorem nm27_uniq {f g : Nat → Int} : ∀ n m, (∀ i, i < n → 1 ≤ f i ∧ f i ≤ 26) → (∀ i, i < m → 1 ≤ g i ∧ g i ≤ 26) → nm27 f n = nm27 g m → n = m ∧ ∀ i, i < n → f i = g i := by
  intro n
  induction n with
  | zero =>
    intro m _ hg e
    cases m with
    | zero => exact ⟨rfl, fun i hi => by omega⟩
    | succ m =>
      have a := nm27_nn m (fun i hi => hg i (by omega))
      have b := hg m (by omega)
      have e' : (0 : Int) = 27 * nm27 g m + g m := e
      omega
  | succ n ih =>
    intro m hf hg e
    cases m with
    | zero =>
      have a := nm27_nn n (fun i hi => hf i (by omega))
      have b := hf n (by omega)
      have e' : 27 * nm27 f n + f n = (0 : Int) := e
      omega
    | succ m =>
      have b := hf n (by omega)
      have c := hg m (by omega)
      have e' : 27 * nm27 f n + f n = 27 * nm27 g m + g m := e
      obtain ⟨x, y⟩ := ih m (fun i hi => hf i (by omega)) (fun i hi => hg i (by omega)) (by omega)
      subst x
      refine ⟨rfl, fun i hi => ?_⟩
      by_cases z : i = n
      · subst z; omega
      · exact y i (by omega)
theorem nameV_nm (tp : List Int) (q : Nat) : ∀ n, nameV tp q n = nm27 (fun i => bs tp (q + i) - 97 + 1) n := by
  intro n
  induction n with
  | zero => rfl
  | succ n ih =>
    show 27 * nameV tp q n + _ = 27 * nm27 _ n + _
    rw [ih]
def wkey : Nat → Nat
  | 0 => 0
  | 1 => 3
  | 2 => 1
  | _ => 2
theorem key_nm : ∀ w, w < 4 → keyV (wkey w) = nm27 (fun i => ((km_tx w).getD i 0 : Int) - 97 + 1) (km_tx w).length := by decide
theorem key_d : ∀ w, w < 4 → ∀ i, i < (km_tx w).length → 97 ≤ (km_tx w).getD i 0 ∧ (km_tx w).getD i 0 ≤ 122 := by decide
theorem spW_key {tp : List Int} {q n w : Nat} (hw : w < 4) (h : ∀ i, i < n → isL (bs tp (q + i)) = true) : spW tp q n w = true ↔ keyV (wkey w) = nameV tp q n := by
  rw [spW_1, nameV_nm, key_nm w hw]
  constructor
  · rintro ⟨a, b⟩
    subst a
    have : ∀ m, m ≤ (km_tx w).length → nm27 (fun i => ((km_tx w).getD i 0 : Int) - 97 + 1) m = nm27 (fun i => bs tp (q + i) - 97 + 1) m := by
      intro m
      induction m with
      | zero => intro _; rfl
      | succ m ih =>
        intro hm
        show 27 * _ + (((km_tx w).getD m 0 : Int) - 97 + 1) = 27 * _ + (bs tp (q + m) - 97 + 1)
        rw [ih (by omega), b m (by omega)]
    exact this _ (Nat.le_refl _)
  · intro e
    obtain ⟨a, b⟩ := nm27_uniq _ _ (fun i hi => by have := key_d w hw i hi; omega) (fun i hi => by have := isL_r.mp (h i hi); omega) e
    refine ⟨a.symm, fun i hi => ?_⟩
    have := b i hi
    omega
theorem runL_all {P : Int → Bool} {tp : List Int} : ∀ k p i, i < runL P tp k p → P (bs tp (p + i)) = true := by
  intro k
  induction k with
  | zero => intro p i hi; exact absurd hi (Nat.not_lt_zero _)
  | succ k ih =>
    intro p i hi
    unfold runL at hi
    by_cases h : P (bs tp p) = true
    · rw [if_pos h] at hi
      cases i with
      | zero => exact h
      | succ i =>
        have := ih (p + 1) i (by omega)
        rw [show p + 1 + i = p + (i + 1) by omega] at this
        exact this
    · rw [if_neg h] at hi; omega
def kOf (m : Int) : Int := if m = 0 then 0 else if m = 2 then 6 else if m = 4 then 7 else if m = 5 then 8 else if m = 6 then 9 else if m = 20 then 2 else if m = 21 then 4 else if m = 22 then 5 else if m = 23 then 3 else 1
theorem wordK_M {tp : List Int} {q n : Nat} (h : ∀ i, i < n → isL (bs tp (q + i)) = true) : wordK tp q n = kOf (wordM tp q n) := by
  have s0 := spW_key (tp := tp) (q := q) (n := n) (w := 0) (by omega) h
  have s1 := spW_key (tp := tp) (q := q) (n := n) (w := 1) (by omega) h
  have s2 := spW_key (tp := tp) (q := q) (n := n) (w := 2) (by omega) h
  have s3 := spW_key (tp := tp) (q := q) (n := n) (w := 3) (by omega) h
  have d : keyV 0 ≠ keyV 1 ∧ keyV 0 ≠ keyV 2 ∧ keyV 0 ≠ keyV 3 ∧ keyV 1 ≠ keyV 2 ∧ keyV 1 ≠ keyV 3 ∧ keyV 2 ≠ keyV 3 := by decide
  simp only [wkey] at s0 s1 s2 s3
  unfold wordK wordM
  generalize keyV 0 = a0 at *
  generalize keyV 1 = a1 at *
  generalize keyV 2 = a2 at *
  generalize keyV 3 = a3 at *
  generalize nameV tp q n = v at *
  obtain ⟨d1, d2, d3, d4, d5, d6⟩ := d
  by_cases e0 : a0 = v
  · rw [if_pos (s0.mpr e0), if_neg (by omega), if_neg (by omega), if_neg (by omega), if_pos e0]; decide
  · rw [if_neg (fun z => e0 (s0.mp z))]
    by_cases e1 : a3 = v
    · rw [if_pos (s1.mpr e1), if_pos e1]; decide
    · rw [if_neg (fun z => e1 (s1.mp z)), if_neg e1]
      by_cases e2 : a1 = v
      · rw [if_pos (s2.mpr e2), if_neg (by omega), if_pos e2]; decide
      · rw [if_neg (fun z => e2 (s2.mp z))]
        by_cases e3 : a2 = v
        · rw [if_pos (s3.mpr e3), if_pos e3]; decide
        · rw [if_neg (fun z => e3 (s3.mp z)), if_neg e3, if_neg e2, if_neg e0]; decide
theorem tkK_M (tp : List Int) (q : Nat) : tkK tp q = kOf (mtK tp q) := by
  unfold tkK mtK
  by_cases e : bs tp q = -1
  · rw [if_pos e, if_pos e]; decide
  · rw [if_neg e, if_neg e]
    by_cases l : isL (bs tp q) = true
    · rw [if_pos l, if_pos l]
      have all : ∀ i, i < runN isL tp q → isL (bs tp (q + i)) = true := fun i hi => runL_all _ _ i hi
      by_cases n8 : runN isL tp q ≤ 8
      · rw [if_pos n8]; exact wordK_M all
      · rw [if_neg n8]
        have no : ∀ w, w < 4 → spW tp q (runN isL tp q) w = false := by
          intro w hw
          refine not_1 (P := fun _ => spW tp q (runN isL tp q) w) (c := 0) (fun z => ?_)
          have := (spW_1.mp z).1
          have lw : (km_tx w).length ≤ 5 := (by decide : ∀ w, w < 4 → (km_tx w).length ≤ 5) w hw
          omega
        unfold wordK
        rw [no 0 (by omega), no 1 (by omega), no 2 (by omega), no 3 (by omega)]
        decide
    · rw [if_neg l, if_neg l]
      by_cases dd : isD (bs tp q) = true
      · rw [if_pos dd, if_pos dd]
        by_cases n4 : runN isD tp q ≤ 4
        · rw [if_pos n4, if_pos n4]; decide
        · rw [if_neg n4, if_neg n4]; decide
      · rw [if_neg dd, if_neg dd]
        by_cases e1 : bs tp q = 59
        · rw [if_pos e1, if_pos e1]; decide
        · rw [if_neg e1, if_neg e1]
          by_cases e2 : bs tp q = 43
          · rw [if_pos e2, if_pos e2]; decide
          · rw [if_neg e2, if_neg e2]
            by_cases e3 : bs tp q = 45
            · rw [if_pos e3, if_pos e3]; decide
            · rw [if_neg e3, if_neg e3]; decide
section MCU
variable {xs : Nat → Int32} {Lx d : Nat} {V : km_V} {tp : List Int}
theorem sp_cutsText {K : km_V → Prop} (hl : tp.length ≤ 2000) (hx : kTt V tp) (hky : kKy V) (k : ∀ W T, 1 ≤ T → T ≤ 401 → kTk W tp T → (∀ t, t + 1 < T → mtK tp (tkQ tp (tkP tp t)) ≠ 0) → (T = 401 ∨ mtK tp (tkQ tp (tkP tp (T - 1))) = 0) → (∀ b j, ¬ (b = 299 ∧ j = 10 ∨ 302 ≤ b ∧ b ≤ 305) → W b j = V b j) → K W) : kCV xs Lx (d + 2) 134 8 [.ref 299] V K := by
  refine b134_0 ?_
  have := mt_cut (xs := xs) (Lx := Lx) (d := d) (V := V) (tp := tp) (Q := fun r V' => r = none ∧ K V') hl (fun W T h1 h2 h3 h4 h5 h6 => ⟨rfl, k W T h1 h2 h3 h4 h5 h6⟩) tp.length 0 0 (up V 299 10 0) (by show 0 + 0 + tp.length = tp.length; omega) (fun i hi => by omega) (by omega) ⟨by rw [up_at]; rfl, fun t ht => by omega⟩ (fun t ht => by omega) ⟨by rw [up_ne (by omega)]; exact hx.1, fun j hj => by rw [up_ne (by omega)]; exact hx.2 j hj⟩ (fun i hi => by rw [up_ne (by omega)]; exact hky i hi) (fun b j hb => up_ne (by omega))
  exact this
end MCU

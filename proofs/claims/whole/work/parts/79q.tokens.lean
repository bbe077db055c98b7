/-! the tokens of a text: kinds, values, places -/
def txK (tp : List Int) (t : Nat) : Int := tkK tp (tkQ tp (tkP tp t))
def txW (tp : List Int) (t : Nat) : Int := tkV tp (tkQ tp (tkP tp t))
def txP (tp : List Int) (t : Nat) : Nat := tkQ tp (tkP tp t)
theorem runL_le {P : Int → Bool} {tp : List Int} : ∀ k p, runL P tp k p ≤ k := by
  intro k
  induction k with
  | zero => intro p; exact Nat.le_refl _
  | succ k ih =>
    intro p
    unfold runL
    split
    · have := ih (p + 1); omega
    · omega
theorem runN_le {P : Int → Bool} {tp : List Int} {p : Nat} (h : p ≤ tp.length) : p + runN P tp p ≤ tp.length := by
  have := runL_le (P := P) (tp := tp) (tp.length - p) p
  unfold runN
  omega
theorem runN_pos {P : Int → Bool} {tp : List Int} {p : Nat} (h : p < tp.length) (h1 : P (bs tp p) = true) : 1 ≤ runN P tp p := by
  unfold runN
  rw [show tp.length - p = (tp.length - p - 1) + 1 by omega]
  unfold runL
  rw [if_pos h1]; omega
theorem tkE_le {tp : List Int} {q : Nat} (h : q ≤ tp.length) : tkE tp q ≤ tp.length ∧ q ≤ tkE tp q ∧ (bs tp q ≠ -1 → q < tkE tp q) := by
  by_cases hq : q < tp.length
  · have a := runN_le (P := isL) h
    have b := runN_le (P := isD) h
    unfold tkE
    by_cases e : bs tp q = -1
    · rw [if_pos e]; exact ⟨h, Nat.le_refl _, fun n => absurd e n⟩
    · rw [if_neg e]
      by_cases l : isL (bs tp q) = true
      · have := runN_pos hq l
        rw [if_pos l]; exact ⟨a, by omega, fun _ => by omega⟩
      · rw [if_neg l]
        by_cases l2 : isD (bs tp q) = true
        · have := runN_pos hq l2
          rw [if_pos l2]; exact ⟨b, by omega, fun _ => by omega⟩
        · rw [if_neg l2]; exact ⟨by omega, by omega, fun _ => by omega⟩
  · unfold tkE
    rw [if_pos (bs_end hq)]
    exact ⟨h, Nat.le_refl _, fun n => absurd (bs_end hq) n⟩
theorem tkP_le {tp : List Int} : ∀ t, tkP tp t ≤ tp.length := by
  intro t
  induction t with
  | zero => exact Nat.zero_le _
  | succ t ih => exact (tkE_le (runN_le (P := isB) ih)).1
theorem txP_le {tp : List Int} (t : Nat) : txP tp t ≤ tp.length := runN_le (tkP_le t)
theorem txK_end {tp : List Int} {t : Nat} : txK tp t = 0 ↔ bs tp (txP tp t) = -1 := by
  unfold txK txP tkK wordK
  constructor
  · intro h
    apply Decidable.byContradiction
    intro n
    rw [if_neg n] at h
    (repeat' split at h) <;> omega
  · intro h; rw [if_pos h]
theorem txP_lt {tp : List Int} {t : Nat} (h : txK tp t ≠ 0) : txP tp t < txP tp (t + 1) := by
  have a := (tkE_le (txP_le (tp := tp) t)).2.2 (fun e => h (txK_end.mpr e))
  have b : txP tp (t + 1) = tkE tp (txP tp t) + runN isB tp (tkE tp (txP tp t)) := rfl
  omega
theorem txP_end {tp : List Int} {t : Nat} (h : txK tp t = 0) : txP tp t = tp.length := by
  have a := txK_end.mp h
  have b := txP_le (tp := tp) t
  apply Decidable.byContradiction
  intro n
  unfold bs at a
  rw [if_pos (by omega)] at a
  omega
theorem txK_r {tp : List Int} {t : Nat} : 0 ≤ txK tp t ∧ txK tp t ≤ 9 := by
  unfold txK tkK wordK
  (repeat' split) <;> omega
theorem dval_r {tp : List Int} {q : Nat} : ∀ n, (∀ i, i < n → isD (bs tp (q + i)) = true) → 0 ≤ dval tp q n ∧ dval tp q n + 1 ≤ ((10 ^ n : Nat) : Int) := by
  intro n
  induction n with
  | zero => intro _; exact ⟨Int.le_refl _, Int.le_refl _⟩
  | succ n ih =>
    intro h
    have a := ih (fun i hi => h i (by omega))
    have b := isD_r.mp (h n (by omega))
    have c : ((10 ^ (n + 1) : Nat) : Int) = 10 * ((10 ^ n : Nat) : Int) := by rw [Nat.pow_succ]; omega
    unfold dval
    rw [c]
    omega
theorem txW_r {tp : List Int} {t : Nat} (h : txK tp t = 6) : 0 ≤ txW tp t ∧ txW tp t ≤ 9999 := by
  have hb : bs tp (txP tp t) ≠ -1 := by
    intro e
    have := txK_end.mpr e
    omega
  have h' : (if bs tp (txP tp t) = -1 then 0 else if isL (bs tp (txP tp t)) then wordK tp (txP tp t) (runN isL tp (txP tp t)) else if isD (bs tp (txP tp t)) then (if runN isD tp (txP tp t) ≤ 4 then 6 else 1) else if bs tp (txP tp t) = 59 then 7 else if bs tp (txP tp t) = 43 then 8 else if bs tp (txP tp t) = 45 then 9 else (1 : Int)) = 6 := h
  rw [if_neg hb] at h'
  have n4 : runN isD tp (txP tp t) ≤ 4 := by
    split at h'
    · unfold wordK at h'
      (repeat' split at h') <;> omega
    · split at h'
      · split at h'
        · assumption
        · omega
      · (repeat' split at h') <;> omega
  have a := dval_r (tp := tp) (q := txP tp t) (runN isD tp (txP tp t)) (fun i hi => runL_all _ _ _ hi)
  have b : 10 ^ runN isD tp (txP tp t) ≤ 10 ^ 4 := Nat.pow_le_pow_right (by omega) n4
  have c : (10 : Nat) ^ 4 = 10000 := rfl
  have e : txW tp t = dval tp (txP tp t) (runN isD tp (txP tp t)) := rfl
  omega
section TKN
variable {xs : Nat → Int32} {Lx d : Nat} {V : km_V} {tp : List Int}
theorem sp_takesTokens {G : Int → km_V → Prop} (hT : kTc V tp) (hl : tp.length ≤ 2000) (h2 : V 3 2 = 0) (h3 : V 3 3 = 0) (h6 : V 3 6 = 0) (h7 : V 3 7 = 0) (k : ∀ t X, (∀ j, j < t → rdPass (txK tp) (txW tp) j) → ¬ rdPass (txK tp) (txW tp) t → t ≤ 400 → (rdFault (txK tp) t = 0 → kRd X (txK tp) (txW tp) (txP tp) t) → (rdFault (txK tp) t ≠ 0 → X 3 0 = rdFault (txK tp) t ∧ X 3 1 = (txP tp t : Int)) → (∀ b j, ¬ (3 ≤ b ∧ b ≤ 12 ∨ b = 1 ∧ 1 ≤ j ∧ j ≤ 4) → X b j = V b j) → G (if rdFault (txK tp) t = 0 then 1 else 0) X) : kCI xs Lx (d + 4) 43 5 [.ref 3, .ref 1] V G := by
  have kW : ∀ j, txK tp j = 6 → kR (txW tp j) := fun j hj => by have := txW_r hj; exact ⟨by omega, by omega⟩
  refine b43_0 ?_
  have body : ∀ c X, c ≤ 400 → ((∀ j, j < c → rdPass (txK tp) (txW tp) j) ∧ kRd X (txK tp) (txW tp) (txP tp) c ∧ X 1 4 = (tkP tp c : Int) ∧ (∀ b j, ¬ (3 ≤ b ∧ b ≤ 12 ∨ b = 1 ∧ 1 ≤ j ∧ j ≤ 4) → X b j = V b j)) → (c < 400 → ∀ X', ((∀ j, j < c + 1 → rdPass (txK tp) (txW tp) j) ∧ kRd X' (txK tp) (txW tp) (txP tp) (c + 1) ∧ X' 1 4 = (tkP tp (c + 1) : Int) ∧ (∀ b j, ¬ (3 ≤ b ∧ b ≤ 12 ∨ b = 1 ∧ 1 ≤ j ∧ j ≤ 4) → X' b j = V b j)) → kGo xs Lx (d + 4) 43 8 [some (.ref 3), some (.ref 1), some (kI (rdS (txK tp) (c + 1))), some (kI ((c + 1 : Nat) : Int)), none] [] X' (fun r V' => ∃ v : Int, r = some (kI v) ∧ G v V')) → kGo xs Lx (d + 4) 43 8 [some (.ref 3), some (.ref 1), some (kI (rdS (txK tp) c)), some (kI (c : Int)), none] [] X (fun r V' => ∃ v : Int, r = some (kI v) ∧ G v V') := by
    intro c X hc ⟨i1, i2, i3, i4⟩ ih
    have T1 : kTc X tp := ⟨by rw [i4 1 0 (by omega)]; exact hT.1, fun j hj => by rw [i4 2 j (by omega)]; exact hT.2 j hj⟩
    have w := (rdWell_all c i1).1
    refine b43_8 ⟨by omega, fun n => by omega, fun _ => ?_⟩
    refine sp_step (d := d) T1 hl i3 (tkP_le c) ?_
    intro Y y1 y3 y4 y2 fY
    have fY' : ∀ b j, ¬ (3 ≤ b ∧ b ≤ 12 ∨ b = 1 ∧ 1 ≤ j ∧ j ≤ 4) → Y b j = V b j := fun b j hb => by rw [fY b j (by omega)]; exact i4 b j hb
    have y1' : Y 1 1 = txK tp c := y1
    have y3' : Y 1 3 = (txP tp c : Int) := y3
    have y2' : txK tp c = 6 → Y 1 2 = txW tp c := y2
    have y4' : Y 1 4 = (tkP tp (c + 1) : Int) := y4
    have Rd : kRd Y (txK tp) (txW tp) (txP tp) c := i2.fr (fun b j hb => fY b j (by omega))
    have y0 : Y 1 0 = (tp.length : Int) := by rw [fY 1 0 (by omega)]; exact T1.1
    have kr := txK_r (tp := tp) (t := c)
    rw [y1', y0]
    refine ⟨⟨by omega, by omega⟩, fun n0 => ?_, fun e0 => ?_⟩
    · refine sp_behind (d := d + 3) ⟨by omega, by omega⟩ ⟨by omega, by omega⟩ ?_
      have br := stB_r (rdS (txK tp) c) (txK tp c)
      refine ⟨⟨by omega, by omega⟩, fun nb => ⟨fun e4 => ?_, fun n4 => ?_⟩, fun eb => ?_⟩
      · have hf : rdFault (txK tp) c = 2 := by unfold rdFault; rw [if_neg n0, if_neg nb]
        rw [y3']
        refine ⟨_, rfl, ?_⟩
        have := k c (up (up Y 3 0 2) 3 1 (txP tp c : Int)) i1 (fun q => by have := q.2.2.1; omega) hc (fun q => by omega) (fun _ => ⟨by rw [up_ne (by omega), up_at, hf], up_at _ _ _ _⟩) (fun b j hb => by rw [up_ne (by omega), up_ne (by omega)]; exact fY' b j hb)
        rw [hf] at this
        exact this
      · refine sp_takes (d := d) i1 nb Rd (by omega) y1' y2' y3' kW (fun room Z zR zf => ?_) (fun nroom Z zf => ?_)
        · refine ⟨by omega, fun _ => ih (by omega) Z ⟨fun j hj => ?_, zR, ?_, fun b j hb => ?_⟩, fun q => by omega⟩
          · by_cases e : j = c
            · subst e; exact ⟨n0, nb, by omega, room⟩
            · exact i1 j (by omega)
          · rw [zf 1 4 (by omega)]; exact y4'
          · rw [zf b j (by omega)]; exact fY' b j hb
        · have hf : rdFault (txK tp) c = 2 := by unfold rdFault; rw [if_neg n0, if_neg nb]
          have z3 : Z 1 3 = (txP tp c : Int) := by rw [zf 1 3 (by omega)]; exact y3'
          refine ⟨by omega, fun q => absurd rfl q, fun _ => ⟨_, rfl, ?_⟩⟩
          rw [z3]
          have := k c (up (up Z 3 0 2) 3 1 (txP tp c : Int)) i1 (fun q => nroom q.2.2.2) hc (fun q => by omega) (fun _ => ⟨by rw [up_ne (by omega), up_at, hf], up_at _ _ _ _⟩) (fun b j hb => by rw [up_ne (by omega), up_ne (by omega), zf b j (by omega)]; exact fY' b j hb)
          rw [hf] at this
          exact this
      · have hf : rdFault (txK tp) c = 1 := by unfold rdFault; rw [if_neg n0, if_pos eb]
        rw [y3']
        refine ⟨_, rfl, ?_⟩
        have := k c (up (up Y 3 0 1) 3 1 (txP tp c : Int)) i1 (fun q => q.2.1 eb) hc (fun q => by omega) (fun _ => ⟨by rw [up_ne (by omega), up_at, hf], up_at _ _ _ _⟩) (fun b j hb => by rw [up_ne (by omega), up_ne (by omega)]; exact fY' b j hb)
        rw [hf] at this
        exact this
    · have np : ¬ rdPass (txK tp) (txW tp) c := fun q => q.1 e0
      have good : rdS (txK tp) c = 0 ∨ rdS (txK tp) c = 4 ∨ rdS (txK tp) c = 8 → ∃ v : Int, some (kI 1) = some (kI v) ∧ G v Y := by
        intro hs
        have hf : rdFault (txK tp) c = 0 := by unfold rdFault; rw [if_pos e0, if_pos hs]
        refine ⟨_, rfl, ?_⟩
        have := k c Y i1 np hc (fun _ => Rd) (fun q => absurd hf q) fY'
        rw [hf] at this
        exact this
      refine ⟨⟨by omega, by omega⟩, fun q => good (Or.inl q), fun n1 => ⟨fun q => good (Or.inr (Or.inl q)), fun n2 => ⟨fun n3 => ?_, fun q => good (Or.inr (Or.inr q))⟩⟩⟩
      have hf : rdFault (txK tp) c = 1 := by unfold rdFault; rw [if_pos e0, if_neg (by omega)]
      refine ⟨_, rfl, ?_⟩
      have := k c (up (up Y 3 0 1) 3 1 (tp.length : Int)) i1 np hc (fun q => by omega) (fun _ => ⟨by rw [up_ne (by omega), up_at, hf], by rw [up_at, txP_end e0]⟩) (fun b j hb => by rw [up_ne (by omega), up_ne (by omega)]; exact fY' b j hb)
      rw [hf] at this
      exact this
  refine kloop 400 (fun c X => (∀ j, j < c → rdPass (txK tp) (txW tp) j) ∧ kRd X (txK tp) (txW tp) (txP tp) c ∧ X 1 4 = (tkP tp c : Int) ∧ (∀ b j, ¬ (3 ≤ b ∧ b ≤ 12 ∨ b = 1 ∧ 1 ≤ j ∧ j ≤ 4) → X b j = V b j)) (fun c X => kGo xs Lx (d + 4) 43 8 [some (.ref 3), some (.ref 1), some (kI (rdS (txK tp) c)), some (kI (c : Int)), none] [] X (fun r V' => ∃ v : Int, r = some (kI v) ∧ G v V')) (fun X hX => body 400 X (Nat.le_refl _) hX (fun n => by omega)) (fun c X hc hX ih => body c X (by omega) hX (fun _ X' h' => ih X' h')) 0 _ (Nat.zero_le _) ⟨fun j hj => by omega, ⟨?_, ?_, ?_, ?_, fun q => ?_, fun q => ?_, ?_⟩, ?_, fun b j hb => up_ne (by omega)⟩
  · rw [up_ne (by omega)]; exact h2
  · rw [up_ne (by omega)]; exact h3
  · rw [up_ne (by omega)]; exact h6
  · rw [up_ne (by omega)]; exact h7
  · exact absurd q (by show ¬ ((0 : Int) = 2); decide)
  · exact absurd q (by show ¬ ((6 : Int) ≤ 0); decide)
  · refine ⟨fun j hj => absurd hj (Nat.not_lt_zero _), fun j hj => absurd hj (Nat.not_lt_zero _), fun j hj => absurd hj (Nat.not_lt_zero _), fun _ j hj => absurd hj (Nat.not_lt_zero _), fun j hj => ?_⟩
    have : rdO (txK tp) 0 = 0 := rfl
    omega
  · rw [up_at]; rfl
end TKN

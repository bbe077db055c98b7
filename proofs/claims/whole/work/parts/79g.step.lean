/-! a token at a time, in the class -/
def tkQ (tp : List Int) (p : Nat) : Nat := p + runN isB tp p
def tkK (tp : List Int) (q : Nat) : Int := if bs tp q = -1 then 0 else if isL (bs tp q) then wordK tp q (runN isL tp q) else if isD (bs tp q) then (if runN isD tp q ≤ 4 then 6 else 1) else if bs tp q = 59 then 7 else if bs tp q = 43 then 8 else if bs tp q = 45 then 9 else 1
def tkE (tp : List Int) (q : Nat) : Nat := if bs tp q = -1 then q else if isL (bs tp q) then q + runN isL tp q else if isD (bs tp q) then q + runN isD tp q else q + 1
def tkV (tp : List Int) (q : Nat) : Int := dval tp q (runN isD tp q)
section STP
variable {xs : Nat → Int32} {Lx d : Nat} {V : km_V} {tp : List Int}
theorem bs_end {tp : List Int} {i : Nat} (h : ¬ i < tp.length) : bs tp i = -1 := by unfold bs; rw [if_neg h]
theorem not_1 {P : Int → Bool} {c : Int} (h : ¬ P c = true) : P c = false := by
  cases e : P c with
  | false => rfl
  | true => exact absurd e h
theorem sp_stepInt {q : Nat} {K : km_V → Prop} (hT : kTc V tp) (hl : tp.length ≤ 2000) (h3 : V 1 3 = (q : Int)) (h4 : V 1 4 = (q : Int)) (hq : q ≤ tp.length) (k : ∀ W, W 1 1 = (if runN isD tp q ≤ 4 then 6 else 1) → W 1 4 = ((q + runN isD tp q : Nat) : Int) → W 1 2 = dval tp q (runN isD tp q) → (∀ b j, ¬ (b = 1 ∧ (j = 1 ∨ j = 2 ∨ j = 4)) → W b j = V b j) → K W) : kCV xs Lx (d + 1) 85 2 [.ref 1] V K := by
  refine b85_0 ?_
  have fin : ∀ (W : km_V) (j : Nat), runN isD tp q = j → q + j ≤ tp.length → W 1 4 = ((q + j : Nat) : Int) → W 1 2 = dval tp q j → (∀ b i, ¬ (b = 1 ∧ (i = 2 ∨ i = 4)) → W b i = V b i) → (kR ((W 1 4) - (W 1 3))) ∧ ((4 < ((W 1 4) - (W 1 3)) → (none : Option Value) = none ∧ K (up W 1 1 1)) ∧ (((W 1 4) - (W 1 3)) ≤ 4 → (none : Option Value) = none ∧ K (up W 1 1 6))) := by
    intro W j hr hj w4 w2 f
    have w3 : W 1 3 = (q : Int) := (f _ _ (by omega)).trans h3
    rw [w3, w4]
    refine ⟨by omega, fun h => ⟨rfl, k _ ?_ ?_ ?_ (fun b i hb => by rw [up_ne (by omega)]; exact f _ _ (by omega))⟩, fun h => ⟨rfl, k _ ?_ ?_ ?_ (fun b i hb => by rw [up_ne (by omega)]; exact f _ _ (by omega))⟩⟩
    · rw [up_at, hr, if_neg (by omega)]
    · rw [up_ne (by omega), hr]; exact w4
    · rw [up_ne (by omega), hr]; exact w2
    · rw [up_at, hr, if_pos (by omega)]
    · rw [up_ne (by omega), hr]; exact w4
    · rw [up_ne (by omega), hr]; exact w2
  refine kloop 2000 (fun j W => q + j ≤ tp.length ∧ (∀ i, i < j → isD (bs tp (q + i)) = true) ∧ W 1 4 = ((q + j : Nat) : Int) ∧ W 1 2 = dval tp q j ∧ (∀ b i, ¬ (b = 1 ∧ (i = 2 ∨ i = 4)) → W b i = V b i)) (fun j W => kGo xs Lx (d + 1) 85 7 [some (.ref 1), some (kI (j : Int))] [] W _) (fun W ⟨q1, q2, q3, q5, q4⟩ => ?_) (fun j W hj ⟨q1, q2, q3, q5, q4⟩ ih => ?_) 0 _ (Nat.zero_le _) ⟨hq, fun i hi => by omega, by rw [up_ne (by omega)]; exact h4, up_at _ _ _ _, fun b i hb => up_ne (by omega)⟩
  · exact b85_7 ⟨by omega, fun _ => fin W 2000 (runN_eq q1 q2 (fun h => by omega)) q1 q3 q5 q4, fun h => by omega⟩
  · have wT : kTc W tp := hT.fr (fun b i hb => q4 _ _ (by omega))
    obtain ⟨c1, c2⟩ := kcby_bs wT hl (i := q + j) (by omega)
    refine b85_7 ⟨by omega, fun h => by omega, fun _ => ?_⟩
    rw [up_ne (show ¬ (1 = 1 ∧ 4 = 2) by omega), q3, c1, q5]
    have br := bs_r tp (q + j)
    refine ⟨c2, by omega, by unfold kdig; split <;> omega, fun e => ?_, fun ne => ih _ ⟨?_, fun i hi => ?_, by rw [up_at]; omega, by rw [up_ne (by omega), up_at]; rfl, fun b i hb => by rw [up_ne (by omega), up_ne (by omega)]; exact q4 b i hb⟩⟩
    · have := fin W j (runN_eq q1 q2 (fun _ => not_1 (fun z => absurd e (isD_1.mp z)))) q1 q3 q5 q4
      rw [q3] at this
      exact this
    · by_cases z : q + j < tp.length
      · omega
      · rw [bs_end z] at ne
        exact absurd (by decide) ne
    · by_cases z : i = j
      · subst z; exact isD_1.mpr ne
      · exact q2 i (by omega)
theorem sp_step {p : Nat} {K : km_V → Prop} (hT : kTc V tp) (hl : tp.length ≤ 2000) (h4 : V 1 4 = (p : Int)) (hp : p ≤ tp.length) (k : ∀ W, W 1 1 = tkK tp (tkQ tp p) → W 1 3 = (tkQ tp p : Int) → W 1 4 = (tkE tp (tkQ tp p) : Int) → (tkK tp (tkQ tp p) = 6 → W 1 2 = tkV tp (tkQ tp p)) → (∀ b j, ¬ (b = 1 ∧ 1 ≤ j ∧ j ≤ 4) → W b j = V b j) → K W) : kCV xs Lx (d + 3) 82 2 [.ref 1] V K := by
  refine b82_0 ?_
  have rest : ∀ (U : km_V) (q : Nat), tkQ tp p = q → q ≤ tp.length → U 1 3 = (q : Int) → U 1 4 = (q : Int) → (∀ b i, ¬ (b = 1 ∧ (i = 3 ∨ i = 4)) → U b i = V b i) → (kcbyC U (U 1 4)) ∧ (∀ z1 : Int, z1 = (kcby U (U 1 4)) → (kR z1) ∧ ((z1 ≠ (-1) → (kR (klet z1)) ∧ (((klet z1) = 0 → (kR (kdig z1)) ∧ (((kdig z1) = 0 → ((z1 ≠ 59 → ((z1 ≠ 43 → ((z1 ≠ 45 → (none : Option Value) = none ∧ K (up (up U 1 4 ((U 1 4) + 1)) 1 1 1)) ∧ (z1 = 45 → (none : Option Value) = none ∧ K (up (up U 1 4 ((U 1 4) + 1)) 1 1 9)))) ∧ (z1 = 43 → (none : Option Value) = none ∧ K (up (up U 1 4 ((U 1 4) + 1)) 1 1 8)))) ∧ (z1 = 59 → (none : Option Value) = none ∧ K (up (up U 1 4 ((U 1 4) + 1)) 1 1 7)))) ∧ ((kdig z1) ≠ 0 → kCV xs Lx (d + 2) 85 2 [.ref 1] U (fun W2 => (none : Option Value) = none ∧ K W2)))) ∧ ((klet z1) ≠ 0 → kCV xs Lx (d + 2) 83 2 [.ref 1] U (fun W3 => (none : Option Value) = none ∧ K W3)))) ∧ (z1 = (-1) → (none : Option Value) = none ∧ K (up U 1 1 0)))) := by
    intro U q hQ hq u3 u4 f
    have uT : kTc U tp := hT.fr (fun b i hb => f _ _ (by omega))
    obtain ⟨c1, c2⟩ := kcby_bs uT hl (i := q) (by omega)
    have br := bs_r tp q
    rw [hQ] at k
    rw [u4]
    refine ⟨c2, fun z hz => ?_⟩
    rw [c1] at hz
    subst hz
    unfold tkK tkE tkV at k
    have one : ∀ v : Int, bs tp q ≠ -1 → klet (bs tp q) = 0 → kdig (bs tp q) = 0 → (if bs tp q = 59 then 7 else if bs tp q = 43 then 8 else if bs tp q = 45 then 9 else 1) = v → v ≠ 6 → (none : Option Value) = none ∧ K (up (up U 1 4 ((q : Int) + 1)) 1 1 v) := by
      intro v n1 nl nd hv n6
      have a1 : ¬ isL (bs tp q) = true := fun z => isL_1.mp z nl
      have a2 : ¬ isD (bs tp q) = true := fun z => isD_1.mp z nd
      rw [if_neg n1, if_neg a1, if_neg a2, if_neg n1, if_neg a1, if_neg a2] at k
      refine ⟨rfl, k _ (by rw [up_at, hv]) (by rw [up_ne (by omega), up_ne (by omega)]; exact u3) (by rw [up_ne (by omega), up_at]; omega) (fun z => absurd (hv.symm.trans z) n6) (fun b i hb => by rw [up_ne (by omega), up_ne (by omega)]; exact f _ _ (by omega))⟩
    refine ⟨by omega, fun n1 => ⟨by unfold klet; split <;> omega, fun nl => ⟨by unfold kdig; split <;> omega, fun nd => ⟨fun n59 => ⟨fun n43 => ⟨fun n45 => one 1 n1 nl nd ?_ (by omega), fun e45 => one 9 n1 nl nd ?_ (by omega)⟩, fun e43 => one 8 n1 nl nd ?_ (by omega)⟩, fun e59 => one 7 n1 nl nd ?_ (by omega)⟩, fun yd => ?_⟩, fun yl => ?_⟩, fun e1 => ?_⟩
    · rw [if_neg n59, if_neg n43, if_neg n45]
    · rw [if_neg n59, if_neg n43, if_pos e45]
    · rw [if_neg n59, if_pos e43]
    · rw [if_pos e59]
    · have a1 : ¬ isL (bs tp q) = true := fun z => isL_1.mp z nl
      have a2 : isD (bs tp q) = true := isD_1.mpr yd
      rw [if_neg n1, if_neg a1, if_pos a2, if_neg n1, if_neg a1, if_pos a2] at k
      exact sp_stepInt (d := d + 1) uT hl u3 u4 hq (fun W w1 w4 w2 g => ⟨rfl, k W w1 ((g _ _ (by omega)).trans u3) w4 (fun _ => w2) (fun b i hb => by rw [g _ _ (by omega)]; exact f _ _ (by omega))⟩)
    · have a1 : isL (bs tp q) = true := isL_1.mpr yl
      rw [if_neg n1, if_pos a1, if_neg n1, if_pos a1] at k
      refine sp_stepWord (d := d) uT hl u3 u4 hq (fun W w1 w4 g => ⟨rfl, k W w1 ((g _ _ (by omega)).trans u3) w4 (fun z => ?_) (fun b i hb => by rw [g _ _ (by omega)]; exact f _ _ (by omega))⟩)
      exfalso
      revert z
      unfold wordK
      (repeat' split) <;> omega
    · rw [if_pos e1, if_pos e1] at k
      exact ⟨rfl, k _ (up_at _ _ _ _) (by rw [up_ne (by omega)]; exact u3) (by rw [up_ne (by omega)]; exact u4) (fun z => absurd z (by omega)) (fun b i hb => by rw [up_ne (by omega)]; exact f _ _ (by omega))⟩
  refine kloop 2000 (fun j W => p + j ≤ tp.length ∧ (∀ i, i < j → isB (bs tp (p + i)) = true) ∧ W 1 4 = ((p + j : Nat) : Int) ∧ (∀ b i, ¬ (b = 1 ∧ i = 4) → W b i = V b i)) (fun j W => kGo xs Lx (d + 3) 82 2 [some (.ref 1), some (kI (j : Int))] [] W _) (fun W ⟨q1, q2, q3, q4⟩ => ?_) (fun j W hj ⟨q1, q2, q3, q4⟩ ih => ?_) 0 V (Nat.zero_le _) ⟨hp, fun i hi => by omega, h4, fun _ _ _ => rfl⟩
  · have hQ : tkQ tp p = p + 2000 := by unfold tkQ; rw [runN_eq q1 q2 (fun h => by omega)]
    exact b82_2 ⟨by omega, fun _ => rest (up W 1 3 (W 1 4)) (p + 2000) hQ q1 (by rw [up_at]; exact q3) (by rw [up_ne (by omega)]; exact q3) (fun b i hb => by rw [up_ne (by omega)]; exact q4 _ _ (by omega)), fun h => by omega⟩
  · have wT : kTc W tp := hT.fr (fun b i hb => q4 _ _ (by omega))
    obtain ⟨c1, c2⟩ := kcby_bs wT hl (i := p + j) (by omega)
    refine b82_2 ⟨by omega, fun h => by omega, fun _ => ⟨by rw [q3]; exact c2, by rw [q3, c1]; have br := bs_r tp (p + j); omega, by rw [q3, c1]; unfold kblk; split <;> omega, fun e => ?_, fun ne => ?_⟩⟩
    · rw [q3, c1] at e
      have hQ : tkQ tp p = p + j := by unfold tkQ; rw [runN_eq q1 q2 (fun _ => not_1 (fun z => absurd e (isB_1.mp z)))]
      exact rest (up W 1 3 (W 1 4)) (p + j) hQ q1 (by rw [up_at]; exact q3) (by rw [up_ne (by omega)]; exact q3) (fun b i hb => by rw [up_ne (by omega)]; exact q4 _ _ (by omega))
    · rw [q3, c1] at ne
      rw [q3]
      refine ih _ ⟨?_, fun i hi => ?_, by rw [up_at]; omega, fun b i hb => by rw [up_ne (by omega)]; exact q4 b i hb⟩
      · by_cases z : p + j < tp.length
        · omega
        · rw [bs_end z] at ne
          exact absurd (by decide) ne
      · by_cases z : i = j
        · subst z; exact isB_1.mpr ne
        · exact q2 i (by omega)
end STP

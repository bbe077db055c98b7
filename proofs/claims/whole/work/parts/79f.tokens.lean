/-! the tokens of a text -/
def bs (tp : List Int) (i : Nat) : Int := if i < tp.length then tp.getD i 0 % 256 else -1
theorem bs_r (tp : List Int) (i : Nat) : -1 ≤ bs tp i ∧ bs tp i < 256 := by
  unfold bs; split <;> omega
def runL (P : Int → Bool) (tp : List Int) : Nat → Nat → Nat
  | 0, _ => 0
  | k + 1, p => if P (bs tp p) then runL P tp k (p + 1) + 1 else 0
def runN (P : Int → Bool) (tp : List Int) (p : Nat) : Nat := runL P tp (tp.length - p) p
theorem runL_eq {P : Int → Bool} {tp : List Int} : ∀ (k p j : Nat), j ≤ k → (∀ i, i < j → P (bs tp (p + i)) = true) → (j < k → P (bs tp (p + j)) = false) → runL P tp k p = j := by
  intro k
  induction k with
  | zero => intro p j hj _ _; have : j = 0 := by omega
            subst this; rfl
  | succ k ih =>
    intro p j hj h1 h2
    unfold runL
    cases j with
    | zero => rw [if_neg (by rw [show p = p + 0 from rfl, h2 (by omega)]; decide)]
    | succ j =>
      have a := h1 0 (by omega)
      rw [Nat.add_zero] at a
      rw [if_pos a, ih (p + 1) j (by omega) (fun i hi => by rw [Nat.add_assoc, Nat.add_comm 1 i]; exact h1 (i + 1) (by omega)) (fun h => by rw [Nat.add_assoc, Nat.add_comm 1 j]; exact h2 (by omega))]
theorem runN_eq {P : Int → Bool} {tp : List Int} {p j : Nat} (hj : p + j ≤ tp.length) (h1 : ∀ i, i < j → P (bs tp (p + i)) = true) (h2 : p + j < tp.length → P (bs tp (p + j)) = false) : runN P tp p = j := runL_eq _ _ _ (by omega) h1 (fun h => h2 (by omega))
def isB (c : Int) : Bool := kblk c == 1
def isL (c : Int) : Bool := klet c == 1
def isD (c : Int) : Bool := kdig c == 1
theorem isB_1 {c : Int} : isB c = true ↔ kblk c ≠ 0 := by
  unfold isB kblk
  by_cases h : c = 9 ∨ c = 10 ∨ c = 13 ∨ c = 32
  · rw [if_pos h]; decide
  · rw [if_neg h]; decide
theorem isL_1 {c : Int} : isL c = true ↔ klet c ≠ 0 := by
  unfold isL klet
  by_cases h : 97 ≤ c ∧ c ≤ 122
  · rw [if_pos h]; decide
  · rw [if_neg h]; decide
theorem isD_1 {c : Int} : isD c = true ↔ kdig c ≠ 0 := by
  unfold isD kdig
  by_cases h : 48 ≤ c ∧ c ≤ 57
  · rw [if_pos h]; decide
  · rw [if_neg h]; decide
def spW (tp : List Int) (q n w : Nat) : Bool := n == (km_tx w).length && (List.range (km_tx w).length).all (fun i => bs tp (q + i) == ((km_tx w).getD i 0 : Int))
theorem spW_1 {tp : List Int} {q n w : Nat} : spW tp q n w = true ↔ n = (km_tx w).length ∧ ∀ i, i < (km_tx w).length → bs tp (q + i) = ((km_tx w).getD i 0 : Int) := by
  unfold spW
  rw [Bool.and_eq_true, beq_iff_eq, List.all_eq_true]
  exact ⟨fun ⟨a, b⟩ => ⟨a, fun i hi => beq_iff_eq.mp (b i (List.mem_range.mpr hi))⟩, fun ⟨a, b⟩ => ⟨a, fun i hi => beq_iff_eq.mpr (b i (List.mem_range.mp hi))⟩⟩
def wordK (tp : List Int) (q n : Nat) : Int := if spW tp q n 0 then 2 else if spW tp q n 1 then 3 else if spW tp q n 2 then 4 else if spW tp q n 3 then 5 else 1
def dval (tp : List Int) (q : Nat) : Nat → Int
  | 0 => 0
  | n + 1 => 10 * dval tp q n + bs tp (q + n) - 48
section TOK
variable {xs : Nat → Int32} {Lx d : Nat} {V : km_V} {tp : List Int}
theorem kcby_bs (hT : kTc V tp) (hl : tp.length ≤ 2000) {i : Nat} (hi : i ≤ 4000) : kcby V (i : Int) = bs tp i ∧ kcbyC V (i : Int) := by
  unfold kcby kcbyC bs
  rw [hT.1, tn]
  refine ⟨?_, by omega, by omega⟩
  by_cases h : i < tp.length
  · rw [if_pos (by omega), if_pos h, hT.2 i h]
  · rw [if_neg (by omega), if_neg h]
theorem sp_spells {w q n : Nat} {K : Int → km_V → Prop} (hw : w < 4) (hT : kTc V tp) (hl : tp.length ≤ 2000) (h3 : V 1 3 = (q : Int)) (h4 : V 1 4 = ((q + n : Nat) : Int)) (hq : q + n ≤ tp.length) (k1 : spW tp q n w = true → K 1 V) (k0 : spW tp q n w = false → K 0 V) : kCI xs Lx (d + 1) 84 4 [.ref 1, .ref (1000001 + w)] V K := by
  have lw : (km_tx w).length ≤ 5 := (by decide : ∀ w, w < 4 → (km_tx w).length ≤ 5) w hw
  have bw : ∀ i, i < (km_tx w).length → (km_tx w).getD i 0 < 128 := by
    have : ∀ w, w < 4 → ∀ i, i < (km_tx w).length → (km_tx w).getD i 0 < 128 := by decide
    exact this w hw
  have no : (¬ spW tp q n w = true) → ∀ x : Int, kGo xs Lx (d + 1) 84 24 [some (.ref 1), some (.ref (1000001 + w)), some (kI 0), some (kI x)] [] V (fun r V' => ∃ v : Int, r = some (kI v) ∧ K v V') := by
    intro h x
    refine b84_24 hw ⟨by omega, fun _ => ⟨Or.inl rfl, _, rfl, k0 ?_⟩, fun h => absurd rfl h⟩
    cases e : spW tp q n w with
    | false => rfl
    | true => exact absurd e h
  refine b84_0 hw ?_
  rw [h3, h4]
  refine ⟨by omega, by omega, fun ne => no (fun z => ne (by have := (spW_1.mp z).1; omega)) 0, fun e => ?_⟩
  have en : n = (km_tx w).length := by omega
  have key := kloop0 (km_tx w).length (fun i => (∀ j, j < i → bs tp (q + j) = ((km_tx w).getD j 0 : Int)) → kGo xs Lx (d + 1) 84 24 [some (.ref 1), some (.ref (1000001 + w)), some (kI 1), some (kI (i : Int))] [] V (fun r V' => ∃ v : Int, r = some (kI v) ∧ K v V')) (fun hh => ?_) (fun i hi ih hh => ?_) 0 (Nat.zero_le _) (fun j hj => by omega)
  · exact key
  · exact b84_24 hw ⟨by omega, fun h => by omega, fun _ => ⟨by omega, by omega, fun _ => ⟨Or.inr rfl, _, rfl, k1 (spW_1.mpr ⟨en, hh⟩)⟩, fun h => by omega⟩⟩
  · obtain ⟨c1, c2⟩ := kcby_bs hT hl (i := q + i) (by omega)
    have br := bs_r tp (q + i)
    have bb := bw i hi
    refine b84_24 hw ⟨by omega, fun h => by omega, fun _ => ⟨by omega, by omega, fun h => by omega, fun _ => ?_⟩⟩
    rw [h3, show (q : Int) + (i : Int) = ((q + i : Nat) : Int) by omega, c1]
    refine ⟨c2, (km_tx w).getD i 0, by omega, ?_, by omega, by omega, fun ne => no (fun z => ne ((spW_1.mp z).2 i hi)) _, fun e => ih (fun j hj => ?_)⟩
    · rw [tn, gd_lt hi]; exact List.getElem?_eq_getElem hi
    · by_cases z : j = i
      · subst z; exact e
      · exact hh j (by omega)
theorem sp_stepWord {q : Nat} {K : km_V → Prop} (hT : kTc V tp) (hl : tp.length ≤ 2000) (h3 : V 1 3 = (q : Int)) (h4 : V 1 4 = (q : Int)) (hq : q ≤ tp.length) (k : ∀ W, W 1 1 = wordK tp q (runN isL tp q) → W 1 4 = ((q + runN isL tp q : Nat) : Int) → (∀ b j, ¬ (b = 1 ∧ (j = 1 ∨ j = 4)) → W b j = V b j) → K W) : kCV xs Lx (d + 2) 83 2 [.ref 1] V K := by
  refine b83_0 ?_
  have fin : ∀ (W : km_V) (j : Nat), runN isL tp q = j → q + j ≤ tp.length → W 1 4 = ((q + j : Nat) : Int) → (∀ b i, ¬ (b = 1 ∧ i = 4) → W b i = V b i) → kCI xs Lx (d + 1) 84 4 [.ref 1, .ref 1000001] W (fun y1 W1 => (kR y1) ∧ ((y1 = 0 → kCI xs Lx (d + 1) 84 4 [.ref 1, .ref 1000002] W1 (fun y2 W2 => (kR y2) ∧ ((y2 = 0 → kCI xs Lx (d + 1) 84 4 [.ref 1, .ref 1000003] W2 (fun y3 W3 => (kR y3) ∧ ((y3 = 0 → kCI xs Lx (d + 1) 84 4 [.ref 1, .ref 1000004] W3 (fun y4 W4 => (kR y4) ∧ ((y4 = 0 → (none : Option Value) = none ∧ K (up W4 1 1 1)) ∧ (y4 ≠ 0 → (none : Option Value) = none ∧ K (up W4 1 1 5))))) ∧ (y3 ≠ 0 → (none : Option Value) = none ∧ K (up W3 1 1 4))))) ∧ (y2 ≠ 0 → (none : Option Value) = none ∧ K (up W2 1 1 3))))) ∧ (y1 ≠ 0 → (none : Option Value) = none ∧ K (up W1 1 1 2)))) := by
    intro W j hr hj w4 f
    have wT : kTc W tp := hT.fr (fun b i hb => f _ _ (by omega))
    have w3 : W 1 3 = (q : Int) := (f _ _ (by omega)).trans h3
    have done : ∀ v : Int, wordK tp q j = v → (none : Option Value) = none ∧ K (up W 1 1 v) := fun v hv => ⟨rfl, k _ (by rw [up_at, hr, hv]) (by rw [up_ne (by omega), hr]; exact w4) (fun b i hb => by rw [up_ne (by omega)]; exact f _ _ (by omega))⟩
    unfold wordK at done
    refine sp_spells (w := 0) (by omega) wT hl w3 w4 hj (fun a0 => ⟨by omega, fun h => absurd h (by omega), fun _ => done 2 (by rw [if_pos a0])⟩) (fun a0 => ⟨by omega, fun _ => ?_, fun h => absurd rfl h⟩)
    refine sp_spells (w := 1) (by omega) wT hl w3 w4 hj (fun a1 => ⟨by omega, fun h => absurd h (by omega), fun _ => done 3 (by rw [a0, a1]; rfl)⟩) (fun a1 => ⟨by omega, fun _ => ?_, fun h => absurd rfl h⟩)
    refine sp_spells (w := 2) (by omega) wT hl w3 w4 hj (fun a2 => ⟨by omega, fun h => absurd h (by omega), fun _ => done 4 (by rw [a0, a1, a2]; rfl)⟩) (fun a2 => ⟨by omega, fun _ => ?_, fun h => absurd rfl h⟩)
    refine sp_spells (w := 3) (by omega) wT hl w3 w4 hj (fun a3 => ⟨by omega, fun h => absurd h (by omega), fun _ => done 5 (by rw [a0, a1, a2, a3]; rfl)⟩) (fun a3 => ⟨by omega, fun _ => done 1 (by rw [a0, a1, a2, a3]; rfl), fun h => absurd rfl h⟩)
  refine kloop 2000 (fun j W => q + j ≤ tp.length ∧ (∀ i, i < j → isL (bs tp (q + i)) = true) ∧ W 1 4 = ((q + j : Nat) : Int) ∧ (∀ b i, ¬ (b = 1 ∧ i = 4) → W b i = V b i)) (fun j W => kGo xs Lx (d + 2) 83 2 [some (.ref 1), some (kI (j : Int))] [] W _) (fun W ⟨q1, q2, q3, q4⟩ => ?_) (fun j W hj ⟨q1, q2, q3, q4⟩ ih => ?_) 0 V (Nat.zero_le _) ⟨hq, fun i hi => by omega, h4, fun _ _ _ => rfl⟩
  · exact b83_2 ⟨by omega, fun _ => fin W 2000 (runN_eq q1 q2 (fun h => by omega)) q1 q3 q4, fun h => by omega⟩
  · have wT : kTc W tp := hT.fr (fun b i hb => q4 _ _ (by omega))
    obtain ⟨c1, c2⟩ := kcby_bs wT hl (i := q + j) (by omega)
    refine b83_2 ⟨by omega, fun h => by omega, fun _ => ?_⟩
    rw [q3, c1]
    have br := bs_r tp (q + j)
    refine ⟨c2, by omega, by unfold klet; split <;> omega, fun e => fin W j (runN_eq q1 q2 (fun _ => ?_)) q1 q3 q4, fun ne => ih _ ⟨?_, fun i hi => ?_, by rw [up_at]; omega, fun b i hb => by rw [up_ne (by omega)]; exact q4 b i hb⟩⟩
    · cases z : isL (bs tp (q + j)) with
      | false => rfl
      | true => exact absurd e (isL_1.mp z)
    · by_cases z : q + j < tp.length
      · omega
      · have : bs tp (q + j) = -1 := by unfold bs; rw [if_neg z]
        rw [this] at ne
        exact absurd (by decide) ne
    · by_cases z : i = j
      · subst z; exact isL_1.mpr ne
      · exact q2 i (by omega)
end TOK

/-! small rows on lists read by place, on the view, on calls -/
theorem up_at (V : km_V) (a i : Nat) (x : Int) : up V a i x a i = x := if_pos ⟨rfl, rfl⟩
theorem up_ne {V : km_V} {a i b j : Nat} {x : Int} (h : ¬ (b = a ∧ j = i)) : up V a i x b j = V b j := if_neg h
theorem gd_lt {α : Type} {l : List α} {i : Nat} {z : α} (h : i < l.length) : l.getD i z = l[i] := by
  simp [List.getD, h]
theorem gd_ge {α : Type} {l : List α} {i : Nat} {z : α} (h : l.length ≤ i) : l.getD i z = z := by
  simp [List.getD, h]
theorem gd_appl {α : Type} {l m : List α} {i : Nat} {z : α} (h : i < l.length) : (l ++ m).getD i z = l.getD i z := by
  simp [List.getD, List.getElem?_append_left h]
theorem gd_appr {α : Type} {l m : List α} {i : Nat} {z : α} (h : l.length ≤ i) : (l ++ m).getD i z = m.getD (i - l.length) z := by
  simp [List.getD, List.getElem?_append_right h]
theorem gd_cons0 {α : Type} {l : List α} {a z : α} : (a :: l).getD 0 z = a := rfl
theorem gd_cons {α : Type} {l : List α} {a z : α} {i : Nat} : (a :: l).getD (i + 1) z = l.getD i z := rfl
theorem gd_take {α : Type} {l : List α} {i n : Nat} {z : α} (h : i < n) : (l.take n).getD i z = l.getD i z := by
  simp [List.getD, List.getElem?_take, h]
theorem gd_drop {α : Type} {l : List α} {i n : Nat} {z : α} : (l.drop n).getD i z = l.getD (n + i) z := by
  simp [List.getD, List.getElem?_drop]
theorem gd_map {α β : Type} {l : List α} {f : α → β} {i : Nat} {z : α} {y : β} (h : i < l.length) : (l.map f).getD i y = f (l.getD i z) := by
  simp [List.getD, h]
theorem gd_rmap {β : Type} {f : Nat → β} {i n : Nat} {y : β} (h : i < n) : ((List.range n).map f).getD i y = f i := by
  simp [List.getD, h]
theorem gd_mem {α : Type} {l : List α} {i : Nat} {z : α} (h : i < l.length) : l.getD i z ∈ l := by
  rw [gd_lt h]; exact List.getElem_mem h
theorem gd_ext {α : Type} {l m : List α} (z : α) (h1 : l.length = m.length) (h2 : ∀ i, i < l.length → l.getD i z = m.getD i z) : l = m := by
  apply List.ext_getElem h1
  intro i h3 h4
  have := h2 i h3
  rwa [gd_lt h3, gd_lt h4] at this
theorem take_gd {α : Type} {l : List α} {n : Nat} (z : α) (h : n < l.length) : l.take (n + 1) = l.take n ++ [l.getD n z] := by
  rw [gd_lt h, List.take_succ_eq_append_getElem h]
theorem gd_set {α : Type} {l : List α} {i j : Nat} {a z : α} (h : i < l.length) : (l.set i a).getD j z = if j = i then a else l.getD j z := by
  by_cases hj : j = i
  · subst hj
    rw [if_pos rfl, gd_lt (by rwa [List.length_set]), List.getElem_set_self]
  · rw [if_neg hj]
    simp [List.getD, List.getElem?_set_ne (Ne.symm hj)]
theorem tn (n : Nat) : Int.toNat (n : Int) = n := rfl
theorem tn1 (n : Nat) : Int.toNat ((n : Int) + 1) = n + 1 := rfl
/-! rows: rings of passes (2 times the crossing, 1 more if over), signs -/
abbrev Rw : Type := List (List Nat) × List Int
def rwP (R : Rw) : List Nat := R.1.flatten
def rwF (R : Rw) (i : Nat) : Nat := (R.1.take i).flatten.length
def rwR (R : Rw) (i : Nat) : List Nat := R.1.getD i []
def rwL (R : Rw) (i : Nat) : Nat := (rwR R i).length
def rwn (R : Rw) : Nat := R.2.length
def rwOk (R : Rw) : Prop := R.1.length ≤ 4 ∧ rwn R ≤ 8 ∧ (rwP R).Perm (List.range (2 * rwn R)) ∧ ∀ s ∈ R.2, s = 1 ∨ s = -1
theorem rwOk.len {R : Rw} (h : rwOk R) : (rwP R).length = 2 * rwn R := by
  rw [h.2.2.1.length_eq, List.length_range]
theorem rwOk.lt {R : Rw} (h : rwOk R) (p : Nat) (hp : p < 2 * rwn R) : (rwP R).getD p 0 < 2 * rwn R := by
  have h1 : (rwP R).getD p 0 ∈ rwP R := gd_mem (by rw [h.len]; exact hp)
  have h2 := (h.2.2.1.mem_iff).mp h1
  exact List.mem_range.mp h2
theorem rwOk.sg {R : Rw} (h : rwOk R) (c : Nat) (hc : c < rwn R) : R.2.getD c 0 = 1 ∨ R.2.getD c 0 = -1 := h.2.2.2 _ (gd_mem hc)
theorem rwOk.inj {R : Rw} (h : rwOk R) {p q : Nat} (hp : p < 2 * rwn R) (hq : q < 2 * rwn R) (e : (rwP R).getD p 0 = (rwP R).getD q 0) : p = q := by
  have hn : (rwP R).Nodup := (h.2.2.1.nodup_iff).mpr List.nodup_range
  rw [gd_lt (by rw [h.len]; exact hp), gd_lt (by rw [h.len]; exact hq)] at e
  have hp' : p < (rwP R).length := by rw [h.len]; exact hp
  have hq' : q < (rwP R).length := by rw [h.len]; exact hq
  have hw := List.pairwise_iff_getElem.mp hn
  by_cases h1 : p < q
  · exact absurd e (hw p q hp' hq' h1)
  · by_cases h2 : q < p
    · exact absurd e.symm (hw q p hq' hp' h2)
    · omega
theorem rwOk.sur {R : Rw} (h : rwOk R) {x : Nat} (hx : x < 2 * rwn R) : ∃ p, p < 2 * rwn R ∧ (rwP R).getD p 0 = x := by
  have h1 : x ∈ rwP R := (h.2.2.1.mem_iff).mpr (List.mem_range.mpr hx)
  obtain ⟨p, hp, e⟩ := List.getElem_of_mem h1
  exact ⟨p, by rw [← h.len]; exact hp, by rw [gd_lt hp, e]⟩
theorem rwF_zero (R : Rw) : rwF R 0 = 0 := rfl
theorem rwF_succ {R : Rw} {i : Nat} (h : i < R.1.length) : rwF R (i + 1) = rwF R i + rwL R i := by
  unfold rwF rwL rwR
  rw [take_gd [] h]
  simp
theorem rwF_all (R : Rw) : rwF R R.1.length = (rwP R).length := by
  unfold rwF rwP
  rw [List.take_length]
theorem rwF_le {R : Rw} {i j : Nat} (h : i ≤ j) (hj : j ≤ R.1.length) : rwF R i ≤ rwF R j := by
  induction j with
  | zero => have : i = 0 := by omega
            subst this; exact Nat.le_refl _
  | succ j ih =>
    by_cases e : i = j + 1
    · subst e; exact Nat.le_refl _
    · have := ih (by omega) (by omega)
      rw [rwF_succ (by omega)]
      omega
theorem rwF_end {R : Rw} {i : Nat} (h : i < R.1.length) : rwF R i + rwL R i ≤ (rwP R).length := by
  rw [← rwF_succ h, ← rwF_all]
  exact rwF_le (by omega) (Nat.le_refl _)
theorem rwP_at {R : Rw} {i j : Nat} (h : i < R.1.length) (hj : j < rwL R i) : (rwP R).getD (rwF R i + j) 0 = (rwR R i).getD j 0 := by
  unfold rwP rwF
  have e : R.1.flatten = (R.1.take i).flatten ++ ((R.1.getD i []) ++ (R.1.drop (i + 1)).flatten) := by
    rw [← List.flatten_cons, ← List.flatten_append]
    congr 1
    rw [gd_lt h, ← List.drop_eq_getElem_cons h, List.take_append_drop]
  rw [e, gd_appr (by omega), Nat.add_sub_cancel_left]
  exact gd_appl hj
/-- every place lies in a ring -/
theorem rw_split {R : Rw} {p : Nat} (h : p < (rwP R).length) : ∃ i j, i < R.1.length ∧ j < rwL R i ∧ p = rwF R i + j := by
  have key : ∀ k, k ≤ R.1.length → p < rwF R k → ∃ i j, i < R.1.length ∧ j < rwL R i ∧ p = rwF R i + j := by
    intro k
    induction k with
    | zero => intro _ h1; rw [rwF_zero] at h1; omega
    | succ k ih =>
      intro hk h1
      by_cases h2 : p < rwF R k
      · exact ih (by omega) h2
      · rw [rwF_succ (by omega)] at h1
        exact ⟨k, p - rwF R k, by omega, by omega, by omega⟩
  exact key R.1.length (Nat.le_refl _) (by rw [rwF_all]; exact h)
theorem rw_uni {R : Rw} {i j i' j' : Nat} (hi : i < R.1.length) (hj : j < rwL R i) (hi' : i' < R.1.length) (hj' : j' < rwL R i') (e : rwF R i + j = rwF R i' + j') : i = i' ∧ j = j' := by
  have key : ∀ a b, a < b → b ≤ R.1.length → rwF R a + rwL R a ≤ rwF R b := by
    intro a b h1 h2
    rw [← rwF_succ (by omega)]
    exact rwF_le (by omega) h2
  by_cases h1 : i < i'
  · have := key i i' h1 (by omega); omega
  · by_cases h2 : i' < i
    · have := key i' i h2 (by omega); omega
    · have : i = i' := by omega
      subst this
      omega
/-- the cells of the class that hold rows -/
def kRC (V : km_V) (r : Nat) (R : Rw) : Prop := V r 0 = (R.1.length : Int) ∧ V r 1 = (rwn R : Int) ∧ (∀ i, i ≤ R.1.length → V (r + 1) i = (rwF R i : Int)) ∧ (∀ p, p < (rwP R).length → V (r + 2) p = ((rwP R).getD p 0 : Int)) ∧ (∀ c, c < rwn R → V (r + 3) c = R.2.getD c 0)
/-- the places of the model that hold rows -/
def kRf (f : Nat → Int) (R : Rw) : Prop := f 0 = (R.1.length : Int) ∧ f 1 = (rwn R : Int) ∧ (∀ i, i < R.1.length → f (2 + i) = (rwL R i : Int)) ∧ (∀ i j, i < R.1.length → j < rwL R i → f (6 + 16 * i + j) = ((rwR R i).getD j 0 : Int)) ∧ (∀ c, c < rwn R → f (70 + c) = R.2.getD c 0)
theorem kRC.fr {V W : km_V} {r : Nat} {R : Rw} (h : kRC V r R) (hf : ∀ a j, r ≤ a ∧ a ≤ r + 3 → W a j = V a j) : kRC W r R := by
  obtain ⟨h1, h2, h3, h4, h5⟩ := h
  refine ⟨?_, ?_, fun i hi => ?_, fun i hi => ?_, fun i hi => ?_⟩
  · rw [hf r 0 (by omega)]; exact h1
  · rw [hf r 1 (by omega)]; exact h2
  · rw [hf (r + 1) i (by omega)]; exact h3 i hi
  · rw [hf (r + 2) i (by omega)]; exact h4 i hi
  · rw [hf (r + 3) i (by omega)]; exact h5 i hi
theorem rwL_le {R : Rw} (h : rwOk R) {i : Nat} (hi : i < R.1.length) : rwL R i ≤ 16 := by
  have h1 := rwF_end hi
  have h2 := h.len
  have h3 := h.2.1
  omega
theorem kRf.fr {f g : Nat → Int} {R : Rw} (ok : rwOk R) (h : kRf f R) (hf : ∀ j, j < 78 → g j = f j) : kRf g R := by
  obtain ⟨h1, h2, h3, h4, h5⟩ := h
  have o1 := ok.1
  have o2 := ok.2.1
  refine ⟨?_, ?_, fun i hi => ?_, fun i j hi hj => ?_, fun i hi => ?_⟩
  · rw [hf 0 (by omega)]; exact h1
  · rw [hf 1 (by omega)]; exact h2
  · rw [hf (2 + i) (by omega)]; exact h3 i hi
  · have hl := rwL_le ok hi
    rw [hf (6 + 16 * i + j) (by omega)]; exact h4 i j hi hj
  · rw [hf (70 + i) (by omega)]; exact h5 i hi
theorem tn_2 (c : Nat) : Int.toNat (2 + (c : Int)) = 2 + c := rfl
theorem tn_70 (c : Nat) : Int.toNat (70 + (c : Int)) = 70 + c := rfl
theorem tn_71 (c : Nat) : Int.toNat (70 + (c : Int) + 1) = 70 + c + 1 := rfl
theorem tn_6 (i j : Nat) : Int.toNat (6 + 16 * (i : Int) + (j : Int)) = 6 + 16 * i + j := rfl
theorem tn_add (i j : Nat) : Int.toNat ((i : Int) + (j : Int)) = i + j := rfl
theorem tn0 : Int.toNat 0 = 0 := rfl
theorem tnn1 : Int.toNat 1 = 1 := rfl
/-- a loop over a counter -/
theorem kloop (N : Nat) (I : Nat → km_V → Prop) (G : Nat → km_V → Prop) (done : ∀ W, I N W → G N W) (step : ∀ c W, c < N → I c W → (∀ W', I (c + 1) W' → G (c + 1) W') → G c W) : ∀ c W, c ≤ N → I c W → G c W := by
  have key : ∀ k c W, c + k = N → I c W → G c W := by
    intro k
    induction k with
    | zero => intro c W h hI; have : c = N := by omega
              subst this; exact done W hI
    | succ k ih => intro c W h hI; exact step c W (by omega) hI (fun W' h' => ih (c + 1) W' (by omega) h')
  intro c W h hI
  exact key (N - c) c W (by omega) hI
/-! where a pass lies, the next one, the one ahead -/
def rwAt : List (List Nat) → Nat → Nat × Nat
  | [], p => (0, p)
  | l :: t, p => if p < l.length then (0, p) else ((rwAt t (p - l.length)).1 + 1, (rwAt t (p - l.length)).2)
theorem rwAt_eq : ∀ (rs : List (List Nat)) (i j : Nat), i < rs.length → j < (rs.getD i []).length → rwAt rs ((rs.take i).flatten.length + j) = (i, j) := by
  intro rs
  induction rs with
  | nil => intro i j h _; exact absurd h (by simp)
  | cons l t ih =>
    intro i j h hj
    cases i with
    | zero =>
      rw [gd_cons0] at hj
      show rwAt (l :: t) (0 + j) = _
      rw [Nat.zero_add]
      unfold rwAt
      rw [if_pos hj]
    | succ i =>
      rw [gd_cons] at hj
      have h1 : i < t.length := by simpa using h
      have e : ((l :: t).take (i + 1)).flatten.length + j = l.length + ((t.take i).flatten.length + j) := by simp [Nat.add_assoc]
      rw [e]
      unfold rwAt
      rw [if_neg (by omega), Nat.add_sub_cancel_left, ih i j h1 hj]
def rwG (R : Rw) (p : Nat) : Nat := (rwAt R.1 p).1
def rwNx (R : Rw) (p : Nat) : Nat := p - (rwAt R.1 p).2 + (if (rwAt R.1 p).2 + 1 < rwL R (rwAt R.1 p).1 then (rwAt R.1 p).2 + 1 else 0)
def rwAh (R : Rw) (p : Nat) : Nat := p - (rwAt R.1 p).2 + (if (rwAt R.1 p).2 = 0 then rwL R (rwAt R.1 p).1 - 1 else (rwAt R.1 p).2 - 1)
theorem rwAt_F {R : Rw} {i j : Nat} (h : i < R.1.length) (hj : j < rwL R i) : rwAt R.1 (rwF R i + j) = (i, j) := rwAt_eq R.1 i j h hj
theorem rwG_F {R : Rw} {i j : Nat} (h : i < R.1.length) (hj : j < rwL R i) : rwG R (rwF R i + j) = i := by
  unfold rwG; rw [rwAt_F h hj]
theorem rwNx_F {R : Rw} {i j : Nat} (h : i < R.1.length) (hj : j < rwL R i) : rwNx R (rwF R i + j) = rwF R i + (if j + 1 < rwL R i then j + 1 else 0) := by
  unfold rwNx; rw [rwAt_F h hj]; dsimp only; rw [Nat.add_sub_cancel]
theorem rwAh_F {R : Rw} {i j : Nat} (h : i < R.1.length) (hj : j < rwL R i) : rwAh R (rwF R i + j) = rwF R i + (if j = 0 then rwL R i - 1 else j - 1) := by
  unfold rwAh; rw [rwAt_F h hj]; dsimp only; rw [Nat.add_sub_cancel]
theorem rwG_lt {R : Rw} {p : Nat} (h : p < (rwP R).length) : rwG R p < R.1.length := by
  obtain ⟨i, j, hi, hj, rfl⟩ := rw_split h
  rw [rwG_F hi hj]; exact hi
theorem rwNx_lt {R : Rw} {p : Nat} (h : p < (rwP R).length) : rwNx R p < (rwP R).length := by
  obtain ⟨i, j, hi, hj, rfl⟩ := rw_split h
  have := rwF_end hi
  rw [rwNx_F hi hj]
  split <;> omega
theorem rwAh_lt {R : Rw} {p : Nat} (h : p < (rwP R).length) : rwAh R p < (rwP R).length := by
  obtain ⟨i, j, hi, hj, rfl⟩ := rw_split h
  have := rwF_end hi
  rw [rwAh_F hi hj]
  split <;> omega
theorem rwNx_Ah {R : Rw} {p : Nat} (h : p < (rwP R).length) : rwNx R (rwAh R p) = p := by
  obtain ⟨i, j, hi, hj, rfl⟩ := rw_split h
  rw [rwAh_F hi hj]
  by_cases h0 : j = 0
  · rw [if_pos h0, rwNx_F hi (by omega), if_neg (by omega)]; omega
  · rw [if_neg h0, rwNx_F hi (by omega), if_pos (by omega)]; omega
theorem rwAh_Nx {R : Rw} {p : Nat} (h : p < (rwP R).length) : rwAh R (rwNx R p) = p := by
  obtain ⟨i, j, hi, hj, rfl⟩ := rw_split h
  rw [rwNx_F hi hj]
  by_cases h0 : j + 1 < rwL R i
  · rw [if_pos h0, rwAh_F hi h0, if_neg (by omega)]; omega
  · rw [if_neg h0, rwAh_F hi (by omega), if_pos rfl]; omega
theorem rwNx_G {R : Rw} {p : Nat} (h : p < (rwP R).length) : rwG R (rwNx R p) = rwG R p := by
  obtain ⟨i, j, hi, hj, rfl⟩ := rw_split h
  rw [rwNx_F hi hj, rwG_F hi hj]
  split
  · rename_i h0; exact rwG_F hi h0
  · exact rwG_F hi (by omega)

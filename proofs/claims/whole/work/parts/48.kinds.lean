/-! kinds of faces; a drawing -/
def rwCb (R : Rw) (w : Nat) : Nat := rwRe R w / 4
def rwOv (R : Rw) (e : Nat) : Nat := (rwP R).getD e 0 % 2 + (rwP R).getD (rwNx R e) 0 % 2
def rwXs (R : Rw) (l : List Nat) : Nat := l.foldl (fun m w => m ||| 2 ^ rwCb R w) 0
def rwLs (R : Rw) (l : List Nat) : Nat := l.foldl (fun m w => m ||| 2 ^ rwOv R (w / 2)) 0
def rwBc (x : Nat) : Nat := ((List.range 8).map (fun i => x / 2 ^ i % 2)).sum
def rwKind (R : Rw) (l : List Nat) : Nat := if l.length = 1 then 1 else if 3 < l.length ∨ rwBc (rwXs R l) ≠ l.length then 0 else if l.length = 2 then (if rwLs R l = 5 then 2 else 0) else (if rwLs R l = 7 then 3 else 0)
theorem kbit_nat (x : Nat) : kbit (x : Int) = (rwBc x : Int) := rfl
def rwK (R : Rw) (f : Nat) : Nat := rwKind R (rwR (rwV R) f)
def rwKm (R : Rw) (k : Nat) : Nat := (List.range (rwFc R).length).countP (fun f => rwK R f == k)
def rwFk (R : Rw) (k : Nat) : Option Nat := (List.range (rwFc R).length).find? (fun f => rwK R f == k)
def rwGoF (R : Rw) : Option Nat := match rwFk R 1 with
  | some f => some f
  | none => rwFk R 2
def oInt : Option Nat → Int
  | some f => (f : Int)
  | none => -1
theorem rwCb_lt {R : Rw} (ok : rwOk R) {w : Nat} (hw : w < 2 * (rwP R).length) : rwCb R w < rwn R := by
  have := rwRe_lt ok hw
  have := ok.len
  unfold rwCb
  omega
theorem rwOv_lt (R : Rw) (e : Nat) : rwOv R e ≤ 2 := by unfold rwOv; omega
theorem for_lt {f : Nat → Nat} {n : Nat} : ∀ (l : List Nat) (m : Nat), m < 2 ^ n → (∀ w, w ∈ l → f w < n) → l.foldl (fun m w => m ||| 2 ^ f w) m < 2 ^ n := by
  intro l
  induction l with
  | nil => intro m h _; exact h
  | cons a t ih =>
    intro m h h2
    rw [List.foldl_cons]
    exact ih _ (bor_lt h (h2 a List.mem_cons_self)) (fun w hw => h2 w (List.mem_cons_of_mem _ hw))
theorem rwXs_take {R : Rw} {l : List Nat} {j : Nat} (hj : j < l.length) : rwXs R (l.take (j + 1)) = rwXs R (l.take j) ||| 2 ^ rwCb R (l.getD j 0) := by
  unfold rwXs
  rw [take_gd 0 hj, List.foldl_append]
  rfl
theorem rwLs_take {R : Rw} {l : List Nat} {j : Nat} (hj : j < l.length) : rwLs R (l.take (j + 1)) = rwLs R (l.take j) ||| 2 ^ rwOv R (l.getD j 0 / 2) := by
  unfold rwLs
  rw [take_gd 0 hj, List.foldl_append]
  rfl
theorem rwXs_lt {R : Rw} (ok : rwOk R) {f : Nat} (hf : f < (rwFc R).length) (j : Nat) : rwXs R ((rwR (rwV R) f).take j) < 256 := by
  have o2 := ok.2.1
  refine for_lt (n := 8) _ 0 (by decide) (fun w hw => ?_)
  have h1 : w ∈ (rwFc R).flatten := List.mem_flatten.mpr ⟨_, gd_mem hf, List.mem_of_mem_take hw⟩
  have := rwCb_lt ok ((rwFc_nd ok).2 w h1)
  omega
theorem rwLs_lt (R : Rw) (l : List Nat) : rwLs R l < 8 := by
  refine for_lt (n := 3) _ 0 (by decide) (fun w hw => ?_)
  have := rwOv_lt R (w / 2)
  omega
theorem one_pow (n : Nat) : Int.toNat (1 * ((2 ^ n : Nat) : Int)) = 2 ^ n := by rw [Int.one_mul]; rfl
theorem one_pow0 (n : Nat) : 0 ≤ 1 * ((2 ^ n : Nat) : Int) := by rw [Int.one_mul]; exact Int.natCast_nonneg _
def kDK (V : km_V) (t : Nat) (R : Rw) : Prop := ∀ f, f < (rwFc R).length → V (t + 10) f = (rwK R f : Int)
def kDr (V : km_V) (t : Nat) (R : Rw) : Prop := kDE V t R ∧ kDF V t R ∧ kDK V t R
theorem kDF.fr {V W : km_V} {t : Nat} {R : Rw} (h : kDF V t R) (h0 : W t 7 = V t 7) (hf : ∀ a j, t + 8 ≤ a ∧ a ≤ t + 9 → W a j = V a j) : kDF W t R := by
  obtain ⟨h1, h2, h3⟩ := h
  refine ⟨by rw [h0]; exact h1, fun f hf' => ?_, fun i hi => ?_⟩
  · rw [hf _ _ (by omega)]; exact h2 f hf'
  · rw [hf _ _ (by omega)]; exact h3 i hi
theorem kDr.fr {V W : km_V} {t : Nat} {R : Rw} (h : kDr V t R) (hf : ∀ a j, t ≤ a ∧ a ≤ t + 10 → W a j = V a j) : kDr W t R :=
  ⟨h.1.fr (fun a j ha => hf a j (by omega)), h.2.1.fr (hf _ _ (by omega)) (fun a j ha => hf a j (by omega)), fun f hf' => by rw [hf _ _ (by omega)]; exact h.2.2 f hf'⟩
section KIA
variable {xs : Nat → Int32} {Lx d : Nat} {V : km_V} {t r : Nat} {R : Rw}
theorem sp_crossingsAt {f : Nat} {K : Int → km_V → Prop} (ht : km_sh[t]? = some (2, 11)) (ok : rwOk R) (hE : kDE V t R) (hF : kDF V t R) (hf : f < (rwFc R).length) (k : K (rwXs R (rwR (rwV R) f) : Int) V) : kCI xs Lx (d + 0) 28 4 [.ref t, kI f] V K := by
  obtain ⟨h1, h2, h3⟩ := hF
  have o2 := ok.2.1
  have o3 := ok.len
  have l1 := rwFc_len R
  have l2 := rwV_len ok
  have e3 := rwF_succ (R := rwV R) hf
  have e4 := rwF_end (R := rwV R) hf
  have a1 := h2 f (by omega)
  have a2 := h2 (f + 1) (by omega)
  refine b28_0 ht ⟨by omega, fun z hz => ?_⟩
  rw [tn, a1] at hz
  subst hz
  refine kloop0 (rwL (rwV R) f) (fun j => kGo xs Lx (d + 0) 28 9 [some (.ref t), some (kI f), some (kI (rwXs R ((rwR (rwV R) f).take j) : Int)), some (kI ((rwF (rwV R) f + j : Nat) : Int))] [] V _) ?_ (fun j hj ih => ?_) 0 (Nat.zero_le _)
  · refine b28_9 ht ⟨by omega, by omega, by rw [tn1, a2]; omega, fun _ => ⟨_, rfl, ?_⟩, fun h => by rw [tn1, a2] at h; omega⟩
    unfold rwL
    rw [List.take_length]
    exact k
  · have b1 := h3 (rwF (rwV R) f + j) (by omega)
    rw [rwP_at hf hj] at b1
    have b2 := rwV_lt ok hf hj
    have b3 := hE.2.2.2 _ b2
    have b4 := rwCb_lt ok b2
    have b5 := rwRe_lt ok b2
    have b6 := rwXs_lt ok hf j
    have e1 : Int.toNat ((rwRe R ((rwR (rwV R) f).getD j 0) : Int) / 4) = rwCb R ((rwR (rwV R) f).getD j 0) := rfl
    rw [rwXs_take hj] at ih
    refine b28_9 ht ⟨by omega, by omega, by rw [tn1, a2]; omega, fun h => by rw [tn1, a2] at h; omega, fun h => ?_⟩
    simp only [tn, b1, b3, e1, one_pow]
    refine ⟨by omega, by omega, by omega, by unfold rwCb at b4; omega, by omega, one_pow0 _, fun z hz => ?_⟩
    subst hz
    exact ih
theorem sp_judged {f : Nat} {K : Int → km_V → Prop} (ht : km_sh[t]? = some (2, 11)) (hr : km_sh[r]? = some (5, 5)) (hR : kRC V r R) (ok : rwOk R) (hE : kDE V t R) (hF : kDF V t R) (hf : f < (rwFc R).length) (k : K (rwK R f : Int) V) : kCI xs Lx (d + 1) 26 7 [.ref t, .ref r, kI f] V K := by
  obtain ⟨h1, h2, h3⟩ := id hF
  have o2 := ok.2.1
  have o3 := ok.len
  have l1 := rwFc_len R
  have l2 := rwV_len ok
  have e3 := rwF_succ (R := rwV R) hf
  have e4 := rwF_end (R := rwV R) hf
  have a1 := h2 f (by omega)
  have a2 := h2 (f + 1) (by omega)
  have kk : rwK R f = if rwL (rwV R) f = 1 then 1 else if 3 < rwL (rwV R) f ∨ rwBc (rwXs R (rwR (rwV R) f)) ≠ rwL (rwV R) f then 0 else if rwL (rwV R) f = 2 then (if rwLs R (rwR (rwV R) f) = 5 then 2 else 0) else (if rwLs R (rwR (rwV R) f) = 7 then 3 else 0) := rfl
  have bx : rwXs R (rwR (rwV R) f) < 256 := by
    have := rwXs_lt ok hf (rwR (rwV R) f).length
    rwa [List.take_length] at this
  have bb : rwBc (rwXs R (rwR (rwV R) f)) ≤ 8 := (by decide +kernel : ∀ x, x < 256 → rwBc x ≤ 8) _ bx
  refine b26_0 ht hr ⟨by omega, by omega, fun z hz => ?_⟩
  rw [tn1, tn, a1, a2] at hz
  have hz : z = (rwL (rwV R) f : Int) := by omega
  subst hz
  refine ⟨by omega, fun h => ⟨fun h2 => ⟨_, rfl, ?_⟩, fun h2 => ?_⟩, fun h => ⟨_, rfl, ?_⟩⟩
  · rw [if_neg (by omega), if_pos (Or.inl (by omega))] at kk
    rw [kk] at k; exact k
  · refine sp_crossingsAt ht ok hE hF hf ?_
    rw [kbit_nat]
    refine ⟨by omega, by omega, fun h3' => ⟨by omega, fun z3 hz3 => ?_⟩, fun h3' => ⟨_, rfl, ?_⟩⟩
    · rw [tn, a1] at hz3
      subst hz3
      refine kloop0 (rwL (rwV R) f) (fun j => kGo xs Lx (d + 1) 26 43 [some (.ref t), some (.ref r), some (kI f), some (kI (rwL (rwV R) f : Int)), some (kI (rwLs R ((rwR (rwV R) f).take j) : Int)), some (kI ((rwF (rwV R) f + j : Nat) : Int)), none] [] V _) ?_ (fun j hj ih => ?_) 0 (Nat.zero_le _)
      · have bl := rwLs_lt R (rwR (rwV R) f)
        have et : rwLs R ((rwR (rwV R) f).take (rwL (rwV R) f)) = rwLs R (rwR (rwV R) f) := by unfold rwL; rw [List.take_length]
        rw [et]
        rw [if_neg (by omega), if_neg (by omega)] at kk
        refine b26_43 ht hr ⟨by omega, by omega, by rw [tn1, a2]; omega, fun _ => ⟨by omega, fun h5 => ⟨by omega, fun h6 => ⟨_, rfl, ?_⟩, fun h6 => ⟨_, rfl, ?_⟩⟩, fun h5 => ⟨by omega, fun h6 => ⟨_, rfl, ?_⟩, fun h6 => ⟨_, rfl, ?_⟩⟩⟩, fun h => by rw [tn1, a2] at h; omega⟩
        · rw [if_neg (by omega), if_neg (by omega)] at kk; rw [kk] at k; exact k
        · rw [if_neg (by omega), if_pos (by omega)] at kk; rw [kk] at k; exact k
        · rw [if_pos (by omega), if_neg (by omega)] at kk; rw [kk] at k; exact k
        · rw [if_pos (by omega), if_pos (by omega)] at kk; rw [kk] at k; exact k
      · have b1 := h3 (rwF (rwV R) f + j) (by omega)
        rw [rwP_at hf hj] at b1
        have b2 := rwV_lt ok hf hj
        have b3 : (rwR (rwV R) f).getD j 0 / 2 < (rwP R).length := by omega
        have b4 := (hE.1 _ b3).1
        have b5 := rwNx_lt b3
        have b6 := hR.2.2.2.1 _ b3
        have b7 := hR.2.2.2.1 _ b5
        have b8 := rwLs_lt R ((rwR (rwV R) f).take j)
        have b9 := rwOv_lt R ((rwR (rwV R) f).getD j 0 / 2)
        rw [rwLs_take hj] at ih
        refine b26_43 ht hr ⟨by omega, by omega, by rw [tn1, a2]; omega, fun h => by rw [tn1, a2] at h; omega, fun h => ?_⟩
        simp only [tn, b1]
        refine ⟨by omega, by omega, fun z hz => ?_⟩
        have hz : z = (((rwR (rwV R) f).getD j 0 / 2 : Nat) : Int) := hz
        subst hz
        simp only [tn, b4, b6, b7]
        have ev : Int.toNat ((((rwP R).getD ((rwR (rwV R) f).getD j 0 / 2) 0 : Nat) : Int) % 2 + (((rwP R).getD (rwNx R ((rwR (rwV R) f).getD j 0 / 2)) 0 : Nat) : Int) % 2) = rwOv R ((rwR (rwV R) f).getD j 0 / 2) := rfl
        simp only [ev, one_pow]
        refine ⟨by omega, by omega, by omega, by omega, one_pow0 _, fun z hz => ?_⟩
        subst hz
        exact ih
    · rw [if_neg (by omega), if_pos (Or.inr (by omega))] at kk
      rw [kk] at k; exact k
  · rw [if_pos (by omega)] at kk
    rw [kk] at k; exact k
theorem sp_facesOfKind {q : Nat} {K : Int → km_V → Prop} (ht : km_sh[t]? = some (2, 11)) (ok : rwOk R) (hq : q < 4) (hD : kDr V t R) (k : K (rwKm R q : Int) V) : kCI xs Lx (d + 0) 30 4 [.ref t, kI q] V K := by
  have h1 := hD.2.1.1
  have h2 := hD.2.2
  have o2 := ok.2.1
  have o3 := ok.len
  have l1 := rwFc_len R
  have kl : ∀ f, rwK R f ≤ 3 := fun f => by unfold rwK rwKind; (repeat' split) <;> omega
  refine b30_0 ht ?_
  refine kloop0 (rwFc R).length (fun c => kGo xs Lx (d + 0) 30 4 [some (.ref t), some (kI q), some (kI (((List.range c).countP (fun f => rwK R f == q) : Nat) : Int)), some (kI (c : Int))] [] V _) ?_ (fun c hc ih => ?_) 0 (Nat.zero_le _)
  · exact b30_4 ht ⟨by omega, by omega, fun _ => ⟨_, rfl, k⟩, fun h => by omega⟩
  · have e5 : (List.range (c + 1)).countP (fun f => rwK R f == q) = (List.range c).countP (fun f => rwK R f == q) + (if rwK R c = q then 1 else 0) := by
      rw [List.range_succ, List.countP_append]
      simp [List.countP_cons]
    rw [e5] at ih
    have k1 := h2 c hc
    have k2 := kl c
    refine b30_4 ht ⟨by omega, by omega, fun h => by omega, fun h => ⟨by omega, by rw [tn, k1]; omega, by omega, fun h => ?_, fun h => ?_⟩⟩
    · rw [tn, k1] at h
      rw [if_neg (by omega)] at ih
      exact ih
    · rw [tn, k1] at h
      rw [if_pos (by omega)] at ih
      exact ih
end KIA
theorem rwK_le (R : Rw) (f : Nat) : rwK R f ≤ 3 := by unfold rwK rwKind; (repeat' split) <;> omega
/-- the first of a kind among the first c -/
theorem find_range {p : Nat → Bool} {n c : Nat} (hc : c < n) (h1 : p c = true) (h2 : ∀ i, i < c → p i = false) : (List.range n).find? p = some c := by
  cases h : (List.range n).find? p with
  | none => exact absurd h1 (List.find?_eq_none.mp h c (List.mem_range.mpr hc))
  | some q =>
    have h3 := List.find?_some h
    by_cases e : q < c
    · rw [h2 q e] at h3; cases h3
    · by_cases e2 : c < q
      · obtain ⟨-, as, bs, e3, e4⟩ := List.find?_eq_some_iff_append.mp h
        have e5 : as.length = q := by
          have hl : as.length < n := by
            have := congrArg List.length e3
            rw [List.length_range, List.length_append, List.length_cons] at this
            omega
          have q1 : (List.range n).getD as.length 0 = as.length := by rw [gd_lt (by rw [List.length_range]; exact hl), List.getElem_range]
          have q2 : (as ++ q :: bs).getD as.length 0 = q := by rw [gd_appr (Nat.le_refl _), Nat.sub_self]; rfl
          rw [← q1, e3, q2]
        have h6 : c ∈ as := by
          have q3 : (List.range n).getD c 0 = as.getD c 0 := by rw [e3, gd_appl (by omega)]
          rw [gd_lt (by rw [List.length_range]; exact hc), List.getElem_range] at q3
          rw [q3]
          exact gd_mem (by omega)
        have := e4 c h6
        rw [h1] at this
        cases this
      · have : q = c := by omega
        rw [this]
theorem find_range_none {p : Nat → Bool} {n : Nat} (h : ∀ i, i < n → p i = false) : (List.range n).find? p = none := by
  rw [List.find?_eq_none]
  intro x hx
  rw [h x (List.mem_range.mp hx)]
  exact Bool.false_ne_true
section KIB
variable {xs : Nat → Int32} {Lx d : Nat} {V : km_V} {t r : Nat} {R : Rw}
theorem sp_firstToGo {K : Int → km_V → Prop} (ht : km_sh[t]? = some (2, 11)) (ok : rwOk R) (hD : kDr V t R) (k : K (oInt (rwGoF R)) V) : kCI xs Lx (d + 0) 31 3 [.ref t] V K := by
  have h1 := hD.2.1.1
  have h2 := hD.2.2
  have o2 := ok.2.1
  have o3 := ok.len
  have l1 := rwFc_len R
  refine b31_0 ht ?_
  suffices H : ∀ c, c ≤ (rwFc R).length → ∀ x : Int, (∀ i, i < c → rwK R i ≠ 1) → ((x = -1 ∧ ∀ i, i < c → rwK R i ≠ 2) ∨ (∃ g : Nat, x = (g : Int) ∧ g < c ∧ rwK R g = 2 ∧ ∀ i, i < g → rwK R i ≠ 2)) → kGo xs Lx (d + 0) 31 4 [some (.ref t), some (kI x), some (kI (c : Int))] [] V (fun r V' => ∃ x, r = some (kI x) ∧ K x V') from
    H 0 (Nat.zero_le _) (-1) (fun i hi => by omega) (Or.inl ⟨rfl, fun i hi => by omega⟩)
  refine kloop0 (rwFc R).length _ ?_ (fun c hc ih => ?_)
  · intro x hn hx
    refine b31_4 ht ⟨by omega, by omega, fun _ => ⟨_, rfl, ?_⟩, fun h => by omega⟩
    have e1 : rwFk R 1 = none := find_range_none (fun i hi => beq_eq_false_iff_ne.mpr (hn i hi))
    have e2 : oInt (rwGoF R) = x := by
      unfold rwGoF
      rw [e1]
      rcases hx with ⟨rfl, hx⟩ | ⟨g, rfl, g1, g2, g3⟩
      · rw [show rwFk R 2 = none from find_range_none (fun i hi => beq_eq_false_iff_ne.mpr (hx i hi))]; rfl
      · rw [show rwFk R 2 = some g from find_range g1 (beq_iff_eq.mpr g2) (fun i hi => beq_eq_false_iff_ne.mpr (g3 i hi))]; rfl
    rw [← e2]
    exact k
  · intro x hn hx
    have k1 := h2 c hc
    have k2 := rwK_le R c
    have hxr : kR x := by
      rcases hx with ⟨rfl, _⟩ | ⟨g, rfl, g1, _⟩ <;> omega
    refine b31_4 ht ⟨by omega, by omega, fun h => by omega, fun h => ?_⟩
    simp only [tn, k1]
    refine ⟨by omega, by omega, fun h3 => ⟨fun h4 => ?_, fun h4 => ⟨hxr, fun h5 => ?_, fun h5 => ?_⟩⟩, fun h3 => ⟨_, rfl, ?_⟩⟩
    · refine ih x (fun i hi => ?_) ?_
      · by_cases e : i = c
        · subst e; omega
        · exact hn i (by omega)
      · rcases hx with ⟨rfl, hx⟩ | ⟨g, rfl, g1, g2, g3⟩
        · refine Or.inl ⟨rfl, fun i hi => ?_⟩
          by_cases e : i = c
          · subst e; omega
          · exact hx i (by omega)
        · exact Or.inr ⟨g, rfl, by omega, g2, g3⟩
    · refine ih x (fun i hi => ?_) ?_
      · by_cases e : i = c
        · subst e; omega
        · exact hn i (by omega)
      · rcases hx with ⟨rfl, hx⟩ | ⟨g, rfl, g1, g2, g3⟩
        · exact absurd rfl h5
        · exact Or.inr ⟨g, rfl, by omega, g2, g3⟩
    · refine ih (c : Int) (fun i hi => ?_) ?_
      · by_cases e : i = c
        · subst e; omega
        · exact hn i (by omega)
      · rcases hx with ⟨rfl, hx⟩ | ⟨g, rfl, g1, g2, g3⟩
        · exact Or.inr ⟨c, rfl, by omega, by omega, fun i hi => hx i hi⟩
        · omega
    · have e1 : rwFk R 1 = some c := find_range hc (beq_iff_eq.mpr (by omega)) (fun i hi => beq_eq_false_iff_ne.mpr (hn i hi))
      have e2 : oInt (rwGoF R) = (c : Int) := by unfold rwGoF; rw [e1]; rfl
      rw [← e2]
      exact k
theorem sp_trace {K : km_V → Prop} (ht : km_sh[t]? = some (2, 11)) (hr : km_sh[r]? = some (5, 5)) (ap : r + 3 < t ∨ t + 10 < r) (hR : kRC V r R) (ok : rwOk R) (k : ∀ W, kDr W t R → (∀ a j, ¬ (t ≤ a ∧ a ≤ t + 10) → W a j = V a j) → K W) : kCV xs Lx (d + 2) 21 3 [.ref t, .ref r] V K := by
  have o2 := ok.2.1
  have o3 := ok.len
  have l1 := rwFc_len R
  refine b21_0 ht hr (sp_joinPasses ht hr ap hR ok (fun W1 j1 f1 => ?_))
  have hR1 : kRC W1 r R := hR.fr (fun a j ha => f1 a j (by omega))
  refine sp_joinEnds ht hr ap hR1 ok j1 (fun W2 j2 f2 => ?_)
  have hR2 : kRC W2 r R := hR1.fr (fun a j ha => f2 a j (by omega))
  have e1 : 2 * (2 * W2 r 1) = ((2 * (rwP R).length : Nat) : Int) := by rw [hR2.2.1]; omega
  rw [e1]
  refine sp_walkFaces ht ok j2 (fun W3 j3 f3 => ?_)
  have hR3 : kRC W3 r R := hR2.fr (fun a j ha => f3 a j (by omega))
  have hE3 : kDE W3 t R := j2.fr (fun a j ha => f3 a j (by omega))
  have fr3 : ∀ a j, ¬ (t ≤ a ∧ a ≤ t + 10) → W3 a j = V a j := fun a j ha => by rw [f3 a j (by omega), f2 a j (by omega), f1 a j (by omega)]
  refine kloop (rwFc R).length (fun c W => kRC W r R ∧ kDE W t R ∧ kDF W t R ∧ (∀ f, f < c → W (t + 10) f = (rwK R f : Int)) ∧ (∀ a j, ¬ (t ≤ a ∧ a ≤ t + 10) → W a j = V a j))
    (fun c W => kGo xs Lx (d + 2) 21 22 [some (.ref t), some (.ref r), some (kI (c : Int))] [] W _) (fun W ⟨g1, g2, g3, g4, g5⟩ => ?_) (fun c W hc ⟨g1, g2, g3, g4, g5⟩ ih => ?_) 0 W3 (Nat.zero_le _) ⟨hR3, hE3, j3, fun f hf => by omega, fr3⟩
  · have e7 := g3.1
    exact b21_22 ht hr ⟨by omega, by omega, fun _ => ⟨rfl, k W ⟨g2, g3, g4⟩ g5⟩, fun h => by omega⟩
  · have e7 := g3.1
    refine b21_22 ht hr ⟨by omega, by omega, fun h => by omega, fun h => ?_⟩
    refine sp_judged ht hr g1 ok g2 g3 hc ⟨by omega, ih _ ⟨g1.fr (fun a j ha => up_ne (by omega)), g2.fr (fun a j ha => up_ne (by omega)), g3.fr (up_ne (by omega)) (fun a j ha => up_ne (by omega)), fun f hf => ?_, fun a j ha => by rw [up_ne (by omega)]; exact g5 a j ha⟩⟩
    by_cases e : f = c
    · subst e; rw [tn, up_at]
    · rw [up_ne (by rw [tn]; omega)]; exact g4 f (by omega)
end KIB

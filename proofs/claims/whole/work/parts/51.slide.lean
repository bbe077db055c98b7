/-! slid; out; loosened -/
theorem rwPut_R {p x : Nat} {R : Rw} (hp : p < (rwP R).length) (i : Nat) : rwR (rwPut p x R) i = if i = (rwAt R.1 p).1 then (rwR R i).set (rwAt R.1 p).2 x else rwR R i := by
  obtain ⟨i', j, hi, hj, rfl⟩ := rw_split hp
  unfold rwPut
  rw [rwAt_F hi hj]
  dsimp only
  rw [rwR_set hi]
  by_cases e : i = i'
  · subst e; rw [if_pos rfl]
  · rw [if_neg e, if_neg e]
def rwW (R : Rw) (p : Nat) : Nat := 6 + 16 * (rwAt R.1 p).1 + (rwAt R.1 p).2
theorem rwW_lt {R : Rw} (ok : rwOk R) {p : Nat} (hp : p < (rwP R).length) : rwW R p < 70 := by
  obtain ⟨i, j, hi, hj, rfl⟩ := rw_split hp
  have := rwL_le ok hi
  have := ok.1
  unfold rwW
  rw [rwAt_F hi hj]
  dsimp only
  omega
theorem kRf_put {g : Nat → Int} {R : Rw} (ok : rwOk R) (h : kRf g R) {p : Nat} (x : Nat) (hp : p < (rwP R).length) : kRf (fun j => if j = rwW R p then (x : Int) else g j) (rwPut p x R) := by
  obtain ⟨h1, h2, h3, h4, h5⟩ := h
  have hw := rwW_lt ok hp
  have hx : rwW R p ≠ 0 ∧ 6 ≤ rwW R p := by unfold rwW; omega
  have o1 := ok.1
  refine ⟨?_, ?_, fun i hi => ?_, fun i j hi hj => ?_, fun c hc => ?_⟩ <;> dsimp only
  · rw [if_neg (by omega), rwPut_len]; exact h1
  · rw [if_neg (by omega)]; exact h2
  · rw [rwPut_len] at hi
    rw [if_neg (by omega), rwPut_L hp]; exact h3 i hi
  · rw [rwPut_len] at hi
    rw [rwPut_L hp] at hj
    rw [rwPut_R hp]
    have hl := rwL_le ok hi
    obtain ⟨i', j', hi', hj', rfl⟩ := rw_split hp
    have hl' := rwL_le ok hi'
    unfold rwW
    rw [rwAt_F hi' hj']
    dsimp only
    by_cases e : i = i'
    · subst e
      rw [if_pos rfl, gd_set hj']
      by_cases e2 : j = j'
      · subst e2; rw [if_pos rfl, if_pos rfl]
      · rw [if_neg (by omega), if_neg e2]; exact h4 i j hi hj
    · rw [if_neg (by omega), if_neg e]; exact h4 i j hi hj
  · rw [if_neg (by omega)]; exact h5 c hc
theorem rwSwap_L {p q : Nat} {R : Rw} (hp : p < (rwP R).length) (hq : q < (rwP R).length) (i : Nat) : rwL (rwSwap p q R) i = rwL R i := by
  unfold rwSwap
  rw [rwPut_L (by rw [rwPut_Pl hp]; exact hq), rwPut_L hp]
theorem rwSwap_Pl {p q : Nat} {R : Rw} (hp : p < (rwP R).length) (hq : q < (rwP R).length) : (rwP (rwSwap p q R)).length = (rwP R).length := by
  rw [rwSwap_P hp hq, List.length_set, List.length_set]
theorem rwSwap_At {p q : Nat} {R : Rw} (hp : p < (rwP R).length) (hq : q < (rwP R).length) {i : Nat} (hi : i < (rwP R).length) : rwAt (rwSwap p q R).1 i = rwAt R.1 i := by
  unfold rwSwap
  rw [rwPut_At (by rw [rwPut_Pl hp]; exact hq) _ (by rw [rwPut_Pl hp]; exact hi), rwPut_At hp _ hi]
theorem kRf_swap {g f : Nat → Int} {R : Rw} (ok : rwOk R) (h : kRf g R) {p q : Nat} (hp : p < (rwP R).length) (hq : q < (rwP R).length) (hf : ∀ j, f j = if j = rwW R q then (((rwP R).getD p 0 : Nat) : Int) else if j = rwW R p then (((rwP R).getD q 0 : Nat) : Int) else g j) : kRf f (rwSwap p q R) := by
  have h1 := kRf_put ok h ((rwP R).getD q 0) hp
  have ok2 := rwSwap_ok ok hp hq
  have hq2 : q < (rwP (rwPut p ((rwP R).getD q 0) R)).length := by rw [rwPut_Pl hp]; exact hq
  have e : rwW (rwPut p ((rwP R).getD q 0) R) q = rwW R q := by unfold rwW; rw [rwPut_At hp _ hq]
  -- the rows between need not be ok: their places are
  have key : ∀ (R' : Rw) (g' : Nat → Int), R'.1.length ≤ 4 → (∀ i, i < R'.1.length → rwL R' i ≤ 16) → kRf g' R' → ∀ (q x : Nat), q < (rwP R').length → kRf (fun j => if j = rwW R' q then (x : Int) else g' j) (rwPut q x R') := by
    intro R' g' o1 hl4 h q x hp
    obtain ⟨h1, h2, h3, h4, h5⟩ := h
    obtain ⟨i', j', hi', hj', rfl⟩ := rw_split hp
    have hl' := hl4 i' hi'
    have ew : rwW R' (rwF R' i' + j') = 6 + 16 * i' + j' := by unfold rwW; rw [rwAt_F hi' hj']
    refine ⟨?_, ?_, fun i hi => ?_, fun i j hi hj => ?_, fun c hc => ?_⟩ <;> dsimp only <;> rw [ew]
    · rw [if_neg (by omega), rwPut_len]; exact h1
    · rw [if_neg (by omega)]; exact h2
    · rw [rwPut_len] at hi
      rw [if_neg (by omega), rwPut_L hp]; exact h3 i hi
    · rw [rwPut_len] at hi
      rw [rwPut_L hp] at hj
      rw [rwPut_R hp, rwAt_F hi' hj']
      have hl := hl4 i hi
      dsimp only
      by_cases e : i = i'
      · subst e
        rw [if_pos rfl, gd_set hj']
        by_cases e2 : j = j'
        · subst e2; rw [if_pos rfl, if_pos rfl]
        · rw [if_neg (by omega), if_neg e2]; exact h4 i j hi hj
      · rw [if_neg (by omega), if_neg e]; exact h4 i j hi hj
    · rw [if_neg (by omega)]; exact h5 c hc
  have h2 := key _ _ (by rw [rwPut_len]; exact ok.1) (fun i hi => by rw [rwPut_L hp]; rw [rwPut_len] at hi; exact rwL_le ok hi) h1 q ((rwP R).getD p 0) hq2
  rw [e] at h2
  exact h2.fr ok2 (fun j _ => hf j)
def rwExs (R0 : Rw) (l : List Nat) (R : Rw) : Rw := l.foldl (fun R w => rwSwap (w / 2) (rwNx R0 (w / 2)) R) R
def rwSlide (R : Rw) (f : Nat) : Rw := rwExs R (rwR (rwV R) f) R
theorem rwExs_ok {R0 : Rw} : ∀ (l : List Nat) (R : Rw), rwOk R → (rwP R).length = (rwP R0).length → (∀ w, w ∈ l → w < 2 * (rwP R0).length) → rwOk (rwExs R0 l R) ∧ (rwP (rwExs R0 l R)).length = (rwP R0).length ∧ rwn (rwExs R0 l R) = rwn R := by
  intro l
  induction l with
  | nil => intro R ok h _; exact ⟨ok, h, rfl⟩
  | cons a t ih =>
    intro R ok h hl
    have h1 : a / 2 < (rwP R0).length := by have := hl a List.mem_cons_self; omega
    have h2 := rwNx_lt h1
    rw [← h] at h1 h2
    exact ih _ (rwSwap_ok ok h1 h2) (by rw [rwSwap_Pl h1 h2]; exact h) (fun w hw => hl w (List.mem_cons_of_mem _ hw))
theorem rwV_mem {R : Rw} (ok : rwOk R) {f : Nat} (hf : f < (rwFc R).length) {w : Nat} (hw : w ∈ rwR (rwV R) f) : w < 2 * (rwP R).length :=
  (rwFc_nd ok).2 w (List.mem_flatten.mpr ⟨_, gd_mem hf, hw⟩)
theorem rwSlide_ok {R : Rw} (ok : rwOk R) {f : Nat} (hf : f < (rwFc R).length) : rwOk (rwSlide R f) ∧ rwn (rwSlide R f) = rwn R := by
  have := rwExs_ok (rwR (rwV R) f) R ok rfl (fun w hw => rwV_mem ok hf hw)
  exact ⟨this.1, this.2.2⟩
theorem rwExs_take {R0 R : Rw} {l : List Nat} {j : Nat} (hj : j < l.length) : rwExs R0 (l.take (j + 1)) R = rwSwap (l.getD j 0 / 2) (rwNx R0 (l.getD j 0 / 2)) (rwExs R0 (l.take j) R) := by
  unfold rwExs
  rw [take_gd 0 hj, List.foldl_append]
  rfl
section SLA
variable {xs : Nat → Int32} {Lx d : Nat} {V : km_V} {t r a : Nat} {R : Rw}
theorem sp_exchange {f : Nat} {K : km_V → Prop} (hr : km_sh[r]? = some (5, 5)) (ht : km_sh[t]? = some (2, 11)) (ap : r + 3 < t ∨ t + 10 < r) (hR : kRC V r R) (ok : rwOk R) (hD : kDr V t R) (hf : f < (rwFc R).length) (k : ∀ W, kRC W r (rwSlide R f) → (∀ a j, a ≠ r + 2 → W a j = V a j) → K W) : kCV xs Lx (d + 1) 68 5 [.ref r, .ref t, kI f] V K := by
  have o2 := ok.2.1
  have o3 := ok.len
  have l1 := rwFc_len R
  have l2 := rwV_len ok
  have e3 := rwF_succ (R := rwV R) hf
  have e4 := rwF_end (R := rwV R) hf
  obtain ⟨d1, d2, d3⟩ := id hD
  have a1 := d2.2.1 f (by omega)
  have a2 := d2.2.1 (f + 1) (by omega)
  refine b68_0 hr ht ⟨by omega, fun z hz => ?_⟩
  rw [tn, a1] at hz
  subst hz
  refine kloop (rwL (rwV R) f) (fun j W => kRC W r (rwExs R ((rwR (rwV R) f).take j) R) ∧ (∀ a j, a ≠ r + 2 → W a j = V a j))
    (fun j W => kGo xs Lx (d + 1) 68 7 [some (.ref r), some (.ref t), some (kI f), some (kI ((rwF (rwV R) f + j : Nat) : Int)), none] [] W _) (fun W ⟨g1, g2⟩ => ?_) (fun j W hj ⟨g1, g2⟩ ih => ?_) 0 V (Nat.zero_le _) ⟨hR, fun _ _ _ => rfl⟩
  · have b2 : W (t + 9) (f + 1) = _ := (g2 _ _ (by omega)).trans a2
    refine b68_7 hr ht ⟨by omega, by omega, by rw [tn1, b2]; omega, fun _ => ⟨rfl, k W ?_ g2⟩, fun h => by rw [tn1, b2] at h; omega⟩
    unfold rwL at g1
    rw [List.take_length] at g1
    exact g1
  · have b2 : W (t + 9) (f + 1) = _ := (g2 _ _ (by omega)).trans a2
    have b3 : W (t + 8) (rwF (rwV R) f + j) = _ := (g2 _ _ (by omega)).trans (d2.2.2 (rwF (rwV R) f + j) (by omega))
    rw [rwP_at hf hj] at b3
    have b4 := rwV_lt ok hf hj
    have b5 : (rwR (rwV R) f).getD j 0 / 2 < (rwP R).length := by omega
    have b6 : W (t + 1) ((rwR (rwV R) f).getD j 0 / 2) = _ := (g2 _ _ (by omega)).trans (d1.1 _ b5).1
    have b7 := rwNx_lt b5
    obtain ⟨k1, k2, k3⟩ := rwExs_ok (R0 := R) ((rwR (rwV R) f).take j) R ok rfl (fun w hw => rwV_mem ok hf (List.mem_of_mem_take hw))
    rw [rwExs_take hj] at ih
    refine b68_7 hr ht ⟨by omega, by omega, by rw [tn1, b2]; omega, fun h => by rw [tn1, b2] at h; omega, fun h => ?_⟩
    simp only [tn, b3]
    refine ⟨by omega, by omega, fun z hz => ?_⟩
    have hz : z = (((rwR (rwV R) f).getD j 0 / 2 : Nat) : Int) := hz
    subst hz
    simp only [tn, b6]
    refine ⟨by omega, fun z2 hz2 => ⟨by omega, ?_⟩⟩
    subst hz2
    rw [← k2] at b5 b7
    -- the two stores are the swap's
    obtain ⟨h1, h2, h3, h4, h5⟩ := g1
    refine ih _ ⟨⟨?_, ?_, fun i hi => ?_, fun i hi => ?_, fun i hi => ?_⟩, fun b j hb => by rw [up_ne (by omega), up_ne (by omega)]; exact g2 b j hb⟩
    · rw [up_ne (by omega), up_ne (by omega), rwSwap_len]; exact h1
    · rw [up_ne (by omega), up_ne (by omega)]; exact h2
    · rw [rwSwap_len] at hi
      rw [up_ne (by omega), up_ne (by omega), rwSwap_F b5 b7 i hi]; exact h3 i hi
    · rw [rwSwap_P b5 b7] at hi ⊢
      rw [List.length_set, List.length_set] at hi
      rw [gd_set (by rw [List.length_set]; exact b7), gd_set b5]
      by_cases e1 : i = rwNx R ((rwR (rwV R) f).getD j 0 / 2)
      · subst e1; rw [up_at, if_pos rfl]; exact h4 _ b5
      · rw [up_ne (by omega), if_neg e1]
        by_cases e2 : i = (rwR (rwV R) f).getD j 0 / 2
        · subst e2; rw [up_at, if_pos rfl]; exact h4 _ b7
        · rw [up_ne (by omega), if_neg e2]; exact h4 i hi
    · rw [up_ne (by omega), up_ne (by omega)]; exact h5 i hi
theorem sp_whereOf {p : Nat} {K : Int → km_V → Prop} (ha : km_sh[a]? = some (11, 78)) (hR : kRf (V a) R) (ok : rwOk R) (hp : p < (rwP R).length) (k : K (rwW R p : Int) V) : kCI xs Lx (d + 0) 172 5 [.ref 299, .ref a, kI p] V K := by
  have o1 := ok.1
  obtain ⟨i, j, hi, hj, rfl⟩ := rw_split hp
  have h3 := hR.2.2.1
  refine b172_0 ha ?_
  refine kloop0 i (fun c => kGo xs Lx (d + 0) 172 5 [none, some (.ref a), none, some (kI (((rwF R i + j) - rwF R c : Nat) : Int)), some (kI (c : Int))] [] V _) ?_ (fun c hc ih => ?_) 0 (Nat.zero_le _)
  · have e1 := h3 i hi
    have hl := rwL_le ok hi
    have e2 : (rwF R i + j) - rwF R i = j := by omega
    rw [e2]
    refine b172_5 ha ⟨by omega, by omega, by rw [tn_2, e1]; omega, fun h => ⟨_, rfl, ?_⟩, fun h => by rw [tn_2, e1] at h; omega⟩
    have e : rwW R (rwF R i + j) = 6 + 16 * i + j := by unfold rwW; rw [rwAt_F hi hj]
    rw [e] at k
    exact k
  · have e1 := h3 c (by omega)
    have hl := rwL_le ok (show c < R.1.length by omega)
    have e2 := rwF_succ (R := R) (show c < R.1.length by omega)
    have e3 := rwF_le (R := R) (show c + 1 ≤ i by omega) (by omega)
    have e4 := rwF_end hi
    have e5 := ok.len
    have e6 := ok.2.1
    refine b172_5 ha ⟨by omega, by omega, by rw [tn_2, e1]; omega, fun h => by rw [tn_2, e1] at h; omega, fun h z hz => ?_⟩
    rw [tn_2, e1] at hz
    have hz : z = (((rwF R i + j) - rwF R (c + 1) : Nat) : Int) := by omega
    subst hz
    exact ih
theorem sp_exchanges {p q : Nat} {K : km_V → Prop} (ha : km_sh[a]? = some (11, 78)) (ha2 : a ≠ 315) (hR : kRf (V a) R) (ok : rwOk R) (hp : p < (rwP R).length) (hq : q < (rwP R).length) (h315 : V 315 p = (q : Int)) (k : ∀ W, kRf (W a) (rwSwap p q R) → (∀ b j, b ≠ a → W b j = V b j) → K W) : kCV xs Lx (d + 1) 174 6 [.ref 299, .ref a, kI p] V K := by
  have o2 := ok.2.1
  have o3 := ok.len
  have w1 := rwW_lt ok hp
  have w2 := rwW_lt ok hq
  have rd : ∀ x, x < (rwP R).length → V a (rwW R x) = ((rwP R).getD x 0 : Int) := by
    intro x hx
    obtain ⟨i, j, hi, hj, rfl⟩ := rw_split hx
    have e : rwW R (rwF R i + j) = 6 + 16 * i + j := by unfold rwW; rw [rwAt_F hi hj]
    rw [e, rwP_at hi hj]
    exact hR.2.2.2.1 i j hi hj
  refine b174_0 ha (sp_whereOf ha hR ok hp ⟨by omega, ?_⟩)
  rw [tn, h315]
  refine sp_whereOf ha hR ok hq ⟨by omega, fun z hz => ?_⟩
  rw [tn, rd p hp] at hz
  subst hz
  simp only [tn, rd q hq]
  refine ⟨by omega, True.intro, k _ (kRf_swap ok hR hp hq (fun j => ?_)) (fun b j hb => by rw [up_ne (by omega), up_ne (by omega)])⟩
  by_cases e1 : j = rwW R q
  · subst e1; rw [up_at, if_pos rfl]
  · rw [up_ne (by omega), if_neg e1]
    by_cases e2 : j = rwW R p
    · subst e2; rw [up_at, if_pos rfl]
    · rw [up_ne (by omega), if_neg e2]
theorem sp_slides {f : Nat} {K : km_V → Prop} (ha : km_sh[a]? = some (11, 78)) (ha2 : ¬ (313 ≤ a ∧ a ≤ 321)) (hR : kRf (V a) R) (ok : rwOk R) (hM : kMF V R) (hf : f < (rwFc R).length) (hK : rwK R f = 3) (k : ∀ W, kRf (W a) (rwSlide R f) → (∀ b j, b ≠ a → W b j = V b j) → K W) : kCV xs Lx (d + 2) 173 7 [.ref 299, .ref a, kI f] V K := by
  have o2 := ok.2.1
  have o3 := ok.len
  have l1 := rwFc_len R
  have hl : rwL (rwV R) f = 3 := by
    have hp := rwV_pos ok hf
    unfold rwK rwKind at hK
    unfold rwL at hp ⊢
    by_cases c1 : (rwR (rwV R) f).length = 1
    · rw [if_pos c1] at hK; omega
    · rw [if_neg c1] at hK
      by_cases c2 : 3 < (rwR (rwV R) f).length ∨ rwBc (rwXs R (rwR (rwV R) f)) ≠ (rwR (rwV R) f).length
      · rw [if_pos c2] at hK; omega
      · rw [if_neg c2] at hK
        by_cases c3 : (rwR (rwV R) f).length = 2
        · rw [if_pos c3] at hK; split at hK <;> omega
        · omega
  obtain ⟨hE, h1, h2⟩ := id hM
  obtain ⟨q1, q2⟩ := h2 f hf
  have b0 := rwV_lt ok hf (i := 0) (by omega)
  have b1 := rwV_lt ok hf (i := 0 + 1) (by omega)
  have b2 := rwV_lt ok hf (i := 1 + 1) (by omega)
  obtain ⟨t1, t2⟩ := kturn_eq hR ok hE b0
  obtain ⟨t3, t4⟩ := kturn_eq hR ok hE b1
  rw [← rwV_at hf (by omega)] at t1
  rw [← rwV_at hf (by omega)] at t3
  have t3 : kturn V a (((rwR (rwV R) f).getD (0 + 1) 0 : Nat) : Int) = (((rwR (rwV R) f).getD (1 + 1) 0 : Nat) : Int) := t3
  have eS : rwSlide R f = rwSwap ((rwR (rwV R) f).getD (1 + 1) 0 / 2) (rwNx R ((rwR (rwV R) f).getD (1 + 1) 0 / 2)) (rwSwap ((rwR (rwV R) f).getD (0 + 1) 0 / 2) (rwNx R ((rwR (rwV R) f).getD (0 + 1) 0 / 2)) (rwSwap ((rwR (rwV R) f).getD 0 0 / 2) (rwNx R ((rwR (rwV R) f).getD 0 0 / 2)) R)) := congrArg (fun l => rwExs R l R) (list3 (l := rwR (rwV R) f) hl)
  have e0 : (rwR (rwV R) f).getD 0 0 / 2 < (rwP R).length := by omega
  have e1 : (rwR (rwV R) f).getD (0 + 1) 0 / 2 < (rwP R).length := by omega
  have e2 : (rwR (rwV R) f).getD (1 + 1) 0 / 2 < (rwP R).length := by omega
  have n0 := rwNx_lt e0
  have n1 := rwNx_lt e1
  have n2 := rwNx_lt e2
  refine b173_0 ha ⟨by omega, fun z1 hz1 => ?_⟩
  rw [tn, q1] at hz1
  subst hz1
  rw [t1]
  refine ⟨by omega, t2, by omega, fun z2 hz2 => ⟨t4, ?_⟩⟩
  rw [t3]
  refine ⟨by omega, fun z3 hz3 => ?_⟩
  have hz2 : z2 = (((rwR (rwV R) f).getD (0 + 1) 0 / 2 : Nat) : Int) := hz2
  have hz3 : z3 = (((rwR (rwV R) f).getD (1 + 1) 0 / 2 : Nat) : Int) := hz3
  subst hz2 hz3
  have f1 : (((rwR (rwV R) f).getD 0 0 : Nat) : Int) / 2 = (((rwR (rwV R) f).getD 0 0 / 2 : Nat) : Int) := rfl
  rw [f1]
  refine sp_exchanges ha (by omega) hR ok e0 n0 (hE.2.1 _ e0).2.2.1 (fun W1 j1 g1 => ?_)
  have ok1 := rwSwap_ok ok e0 n0
  have p1 := rwSwap_Pl e0 n0
  refine sp_exchanges ha (by omega) j1 ok1 (by rw [p1]; exact e1) (by rw [p1]; exact n1) ((g1 _ _ (by omega)).trans (hE.2.1 _ e1).2.2.1) (fun W2 j2 g2 => ?_)
  have ok2 := rwSwap_ok ok1 (by rw [p1]; exact e1) (by rw [p1]; exact n1)
  have p2 := rwSwap_Pl (R := rwSwap ((rwR (rwV R) f).getD 0 0 / 2) (rwNx R ((rwR (rwV R) f).getD 0 0 / 2)) R) (by rw [p1]; exact e1) (by rw [p1]; exact n1)
  rw [p1] at p2
  refine sp_exchanges ha (by omega) j2 ok2 (by rw [p2]; exact e2) (by rw [p2]; exact n2) ((g2 _ _ (by omega)).trans ((g1 _ _ (by omega)).trans (hE.2.1 _ e2).2.2.1)) (fun W3 j3 g3 => ⟨rfl, k W3 ?_ (fun b j hb => by rw [g3 b j hb, g2 b j hb, g1 b j hb])⟩)
  rw [eS]
  exact j3
end SLA

/-! the bracket: powers, sums over states -/
def po : Nat → Int → Int
  | 0, e => if e = 0 then 1 else 0
  | k + 1, e => - po k (e - 2) - po k (e + 2)
def cb : Nat → Nat → Int
  | 0, 0 => 1
  | 0, _ + 1 => 0
  | k + 1, 0 => - cb k 0
  | k + 1, j + 1 => - cb k (j + 1) - cb k j
theorem po_supp : ∀ (k : Nat) (y : Int), (2 * (k : Int) < y ∨ y < -(2 * (k : Int)) ∨ (y - 2 * (k : Int)) % 4 ≠ 0) → po k y = 0 := by
  intro k
  induction k with
  | zero => intro y h; unfold po; rw [if_neg (by omega)]
  | succ k ih =>
    intro y h
    unfold po
    rw [ih (y - 2) (by omega), ih (y + 2) (by omega)]
    rfl
theorem po_cb : ∀ (k j : Nat), po k (2 * (k : Int) - 4 * (j : Int)) = cb k j := by
  intro k
  induction k with
  | zero =>
    intro j
    unfold po
    cases j with
    | zero => rfl
    | succ j => rw [if_neg (by omega)]; rfl
  | succ k ih =>
    intro j
    unfold po
    cases j with
    | zero =>
      rw [po_supp k (2 * ((k + 1 : Nat) : Int) - 4 * ((0 : Nat) : Int) + 2) (by omega), show 2 * ((k + 1 : Nat) : Int) - 4 * ((0 : Nat) : Int) - 2 = 2 * (k : Int) - 4 * ((0 : Nat) : Int) by omega, ih 0]
      show - cb k 0 - 0 = - cb k 0
      omega
    | succ j =>
      rw [show 2 * ((k + 1 : Nat) : Int) - 4 * ((j + 1 : Nat) : Int) - 2 = 2 * (k : Int) - 4 * ((j + 1 : Nat) : Int) by omega, show 2 * ((k + 1 : Nat) : Int) - 4 * ((j + 1 : Nat) : Int) + 2 = 2 * (k : Int) - 4 * (j : Int) by omega, ih, ih]
      rfl
theorem cb_rec : ∀ k, k < 12 → ∀ j, j < 12 → cb k j * ((k : Int) - (j : Int)) = cb k (j + 1) * ((j : Int) + 1) := by decide +kernel
theorem cb_b : ∀ k, k < 12 → ∀ j, j < 13 → -500 ≤ cb k j ∧ cb k j ≤ 500 := by decide +kernel
def rsum (f : Nat → Int) (n : Nat) : Int := ((List.range n).map f).sum
theorem rsum_succ (f : Nat → Int) (n : Nat) : rsum f (n + 1) = rsum f n + f n := by
  unfold rsum
  rw [List.range_succ, List.map_append, List.sum_append]
  simp
theorem rsum_congr {f g : Nat → Int} {n : Nat} (h : ∀ i, i < n → f i = g i) : rsum f n = rsum g n := by
  induction n with
  | zero => rfl
  | succ n ih => rw [rsum_succ, rsum_succ, ih (fun i hi => h i (by omega)), h n (by omega)]
theorem rsum_add (f g : Nat → Int) (n : Nat) : rsum (fun i => f i + g i) n = rsum f n + rsum g n := by
  induction n with
  | zero => rfl
  | succ n ih => rw [rsum_succ, rsum_succ, rsum_succ, ih]; omega
theorem rsum_zero (n : Nat) : rsum (fun _ => 0) n = 0 := by
  induction n with
  | zero => rfl
  | succ n ih => rw [rsum_succ, ih]; rfl
theorem rsum_single {f : Nat → Int} {n a : Nat} (ha : a < n) (h : ∀ i, i < n → i ≠ a → f i = 0) : rsum f n = f a := by
  induction n with
  | zero => omega
  | succ n ih =>
    rw [rsum_succ]
    by_cases e : n = a
    · subst e
      have : rsum f n = rsum (fun _ => 0) n := rsum_congr (fun i hi => h i (by omega) (by omega))
      rw [this, rsum_zero]; omega
    · rw [ih (by omega) (fun i hi => h i (by omega)), h n (by omega) e]; omega
theorem bc_le : ∀ n, n < 9 → ∀ s, s < 256 → s < 2 ^ n → rwBc s ≤ n := by decide +kernel
/-- loops are not more than crossings and rings -/
def rwP2 (R : Rw) (m : Nat) : List (Nat × Nat) := (List.range m).map (fun c => (rwEd R (4 * c), rwEd R (4 * c + 2)))
theorem uf_less {N : Nat} : ∀ (ps : List (Nat × Nat)) (s : (Nat → Nat) × Nat), s.2 ≤ (ps.foldl ufStep s).2 + ps.length := by
  intro ps
  induction ps with
  | nil => intro s; exact Nat.le_add_right _ _
  | cons p t ih =>
    intro s
    have h := ih (ufStep s p)
    have h2 : s.2 ≤ (ufStep s p).2 + 1 := by
      unfold ufStep
      split
      · omega
      · dsimp only; omega
    rw [List.foldl_cons, List.length_cons]
    omega
theorem nodup_sub : ∀ (l m : List Nat), l.Nodup → (∀ x, x ∈ l → x ∈ m) → l.length ≤ m.length := by
  intro l
  induction l with
  | nil => intro m _ _; exact Nat.zero_le _
  | cons a t ih =>
    intro m hn h
    have h1 := List.nodup_cons.mp hn
    have ha := h a List.mem_cons_self
    have := ih (m.erase a) h1.2 (fun x hx => by
      have hx2 := h x (List.mem_cons_of_mem _ hx)
      exact (List.mem_erase_of_ne (fun (e : x = a) => h1.1 (by rw [← e]; exact hx))).mpr hx2)
    rw [List.length_erase_of_mem ha] at this
    have pos : 0 < m.length := List.length_pos_of_mem ha
    rw [List.length_cons]
    omega
theorem countP_inj {N : Nat} {f : Nat → Nat} {p : Nat → Bool} {m : Nat} {q : Nat → Bool} (h1 : ∀ k, k < N → p k = true → f k < m ∧ q (f k) = true) (h2 : ∀ j k, j < N → k < N → p j = true → p k = true → f j = f k → j = k) : (List.range N).countP p ≤ (List.range m).countP q := by
  rw [List.countP_eq_length_filter, List.countP_eq_length_filter, ← List.length_map (f := f)]
  have nd : (((List.range N).filter p).map f).Nodup := by
    refine List.pairwise_map.mpr ?_
    refine List.Pairwise.imp_of_mem ?_ (List.Pairwise.filter p List.nodup_range)
    intro a b ha hb hne e
    have ha := List.mem_filter.mp ha
    have hb := List.mem_filter.mp hb
    exact hne (h2 a b (List.mem_range.mp ha.1) (List.mem_range.mp hb.1) ha.2 hb.2 e)
  exact nodup_sub _ _ nd (fun x hx => by
    obtain ⟨k, hk, rfl⟩ := List.mem_map.mp hx
    have hk := List.mem_filter.mp hk
    have := h1 k (List.mem_range.mp hk.1) hk.2
    exact List.mem_filter.mpr ⟨List.mem_range.mpr this.1, this.2⟩)
theorem rwLoops_b {R : Rw} (ok : rwOk R) (hne : 0 < R.1.length) (s : Nat) : 1 ≤ rwLoops R s ∧ rwLoops R s ≤ 12 := by
  have o1 := ok.1
  have o2 := ok.2.1
  have l := ok.len
  have lo : rwLo R ≤ R.1.length := by
    unfold rwLo
    exact List.countP_le_length
  constructor
  · unfold rwLoops
    by_cases h : rwn R = 0
    · have : rwLo R = R.1.length := by
        unfold rwLo
        rw [List.countP_eq_length]
        intro a ha
        have h2 : (rwP R).length = 0 := by omega
        have h3 : a = [] := by
          cases a with
          | nil => rfl
          | cons b t =>
            have : b ∈ rwP R := List.mem_flatten.mpr ⟨_, ha, List.mem_cons_self⟩
            have := List.length_pos_of_mem this
            omega
        rw [h3]; rfl
      omega
    · have := ufOk_pos (rwUf_ok ok s (Nat.le_refl _)) (x := 0) (by omega)
      show 1 ≤ (rwUf R s).2 + rwLo R
      have h2 : 1 ≤ (rwUf R s).2 := this
      omega
  · -- all ends of a crossing joined: no more labels than rings with passes
    have mem : ∀ p, p ∈ rwP2 R (rwn R) → ∃ c, c < rwn R ∧ p = (rwEd R (4 * c), rwEd R (4 * c + 2)) := by
      intro p hp
      obtain ⟨c, hc, rfl⟩ := List.mem_map.mp hp
      exact ⟨c, List.mem_range.mp hc, rfl⟩
    have hl : ∀ p, p ∈ rwP2 R (rwn R) → p.1 < (rwP R).length ∧ p.2 < (rwP R).length := by
      intro p hp
      obtain ⟨c, hc, rfl⟩ := mem p hp
      exact ⟨rwEd_lt ok (by omega), rwEd_lt ok (by omega)⟩
    have u0 := rwUf_ok ok s (Nat.le_refl (rwn R))
    have u1 := ufRun_ok (rwP2 R (rwn R)) _ u0 hl
    have le := uf_less (N := (rwP R).length) (rwP2 R (rwn R)) (ufRun (rwP R).length (rwPs R s (rwn R)))
    have e2 : (rwP2 R (rwn R)).length = rwn R := by unfold rwP2; rw [List.length_map, List.length_range]
    rw [e2] at le
    have cnt := u1.2
    generalize hS : (rwP2 R (rwn R)).foldl ufStep (ufRun (rwP R).length (rwPs R s (rwn R))) = S at *
    -- the ends of one crossing have one label
    have one : ∀ x, x < 2 * (rwP R).length → S.1 (rwEd R x) = S.1 (rwEd R (4 * (x / 4))) := by
      have pr : ∀ c, c < rwn R → S.1 (rwEd R (4 * c)) = S.1 (rwEd R (4 * c + 2)) := by
        intro c hc
        have := ufRun_pair (rwP2 R (rwn R)) (ufRun (rwP R).length (rwPs R s (rwn R))) (rwEd R (4 * c), rwEd R (4 * c + 2)) (List.mem_map.mpr ⟨c, List.mem_range.mpr hc, rfl⟩)
        rw [hS] at this
        exact this
      have en : ∀ x, x < 2 * (rwP R).length → S.1 (rwEd R x) = S.1 (rwEd R (rwMt s x)) := by
        intro x hx
        have := ufRun_mono (rwP2 R (rwn R)) (ufRun (rwP R).length (rwPs R s (rwn R))) (rwUf_end ok s hx)
        rw [hS] at this
        exact this
      intro x hx
      have mt := rwMt_c s x
      have base : ∀ y, y < 2 * (rwP R).length → (y % 4 = 0 ∨ y % 4 = 2) → S.1 (rwEd R y) = S.1 (rwEd R (4 * (y / 4))) := by
        intro y hy h
        rcases h with h | h
        · rw [show 4 * (y / 4) = y by omega]
        · rw [pr (y / 4) (by omega), show 4 * (y / 4) + 2 = y by omega]
      by_cases h : x % 4 = 0 ∨ x % 4 = 2
      · exact base x hx h
      · have h2 : rwMt s x % 4 = 0 ∨ rwMt s x % 4 = 2 := by
          unfold rwMt
          split
          · omega
          · split <;> omega
        rw [en x hx, base _ (rwMt_lt ok s hx) h2, mt.1]
    -- an edge and the next one
    have nx : ∀ p, p < (rwP R).length → S.1 (rwAh R p) = S.1 p := by
      intro p hp
      have e1 : rwEd R (rwI R p) = rwAh R p := by unfold rwEd; rw [rwLv_I ok hp]; omega
      have e2 : rwEd R (rwO R p) = p := by unfold rwEd; rw [rwLv_O ok hp]; omega
      have c := rwE_c R p
      have q1 := one _ (rwI_lt ok hp)
      have q2 := one _ (rwO_lt ok hp)
      have q3 : rwI R p / 4 = rwO R p / 4 := by unfold rwI rwO; omega
      rw [e1] at q1
      rw [e2] at q2
      rw [q1, q2, q3]
    have ring : ∀ i, i < R.1.length → ∀ j, j < rwL R i → S.1 (rwF R i + j) = S.1 (rwF R i) := by
      intro i hi j
      induction j with
      | zero => intro _; rfl
      | succ j ih =>
        intro hj
        have e4 := rwF_end hi
        rw [← ih (by omega), ← nx (rwF R i + (j + 1)) (by omega), rwAh_F hi hj, if_neg (by omega)]
        rfl
    have few : S.2 ≤ (List.range R.1.length).countP (fun i => rwL R i != 0) := by
      rw [cnt]
      refine countP_inj (f := rwG R) (fun k hk _ => ?_) (fun j k hj hk hj2 hk2 he => ?_)
      · refine ⟨rwG_lt hk, ?_⟩
        obtain ⟨i, j, hi, hj, rfl⟩ := rw_split hk
        rw [rwG_F hi hj]
        exact bne_iff_ne.mpr (by omega)
      · have hj2 := beq_iff_eq.mp hj2
        have hk2 := beq_iff_eq.mp hk2
        obtain ⟨i, a, hi, ha, rfl⟩ := rw_split hj
        obtain ⟨i', b, hi', hb, rfl⟩ := rw_split hk
        rw [rwG_F hi ha, rwG_F hi' hb] at he
        subst he
        have r1 := ring i hi a ha
        have r2 := ring i hi b hb
        omega
    have tot : (List.range R.1.length).countP (fun i => rwL R i != 0) + rwLo R ≤ R.1.length := by
      have e : rwLo R = (List.range R.1.length).countP (fun i => rwL R i == 0) := by
        have key : ∀ m, m ≤ R.1.length → (R.1.take m).countP (fun l => l.length == 0) = (List.range m).countP (fun i => rwL R i == 0) := by
          intro m
          induction m with
          | zero => intro _; rfl
          | succ m ih =>
            intro hm
            rw [take_gd [] (by omega), List.countP_append, List.range_succ, List.countP_append, ih (by omega)]
            rfl
        have := key R.1.length (Nat.le_refl _)
        rw [List.take_length] at this
        exact this
      have key : ∀ m, (List.range m).countP (fun i => rwL R i != 0) + (List.range m).countP (fun i => rwL R i == 0) = m := by
        intro m
        induction m with
        | zero => rfl
        | succ m ih =>
          rw [List.range_succ, List.countP_append, List.countP_append, List.countP_cons, List.countP_nil, List.countP_cons, List.countP_nil]
          by_cases h : rwL R m = 0
          · have h1 : (rwL R m != 0) = false := by rw [h]; rfl
            have h2 : (rwL R m == 0) = true := by rw [h]; rfl
            rw [h1, h2]; simp; omega
          · have h1 : (rwL R m != 0) = true := bne_iff_ne.mpr h
            have h2 : (rwL R m == 0) = false := beq_eq_false_iff_ne.mpr h
            rw [h1, h2]; simp; omega
      rw [e]
      have := key R.1.length
      omega
    have hh : (rwUf R s).2 ≤ S.2 + rwn R := le
    unfold rwLoops
    omega
def rwBr (R : Rw) (x : Int) : Int := if R.1.length = 0 then 0 else rsum (fun s => po (rwLoops R s - 1) (x - ((rwn R : Int) - 2 * (rwBc s : Int)))) (2 ^ rwn R)
theorem pow_256 {n : Nat} (h : n ≤ 8) : 2 ^ n ≤ 256 := Nat.pow_le_pow_right (n := 2) (by omega) h
theorem rwBr_supp {R : Rw} (ok : rwOk R) {x : Int} (h : 30 < x ∨ x < -30) : rwBr R x = 0 := by
  have o2 := ok.2.1
  unfold rwBr
  by_cases hr : R.1.length = 0
  · rw [if_pos hr]
  · rw [if_neg hr]
    have p := pow_256 o2
    rw [← rsum_zero (2 ^ rwn R)]
    refine rsum_congr (fun s hs => ?_)
    have b1 := bc_le (rwn R) (by omega) s (by omega) hs
    have b2 := rwLoops_b ok (by omega) s
    exact po_supp _ _ (by omega)
/-! the class's sums -/
def tlT (R : Rw) (m sec l : Nat) : Nat := (List.range m).countP (fun s => rwBc s == sec && rwLoops R s == l)
theorem tlT_succ (R : Rw) (m sec l : Nat) : tlT R (m + 1) sec l = tlT R m sec l + (if rwBc m = sec ∧ rwLoops R m = l then 1 else 0) := by
  unfold tlT
  rw [List.range_succ, List.countP_append, List.countP_cons, List.countP_nil, Nat.zero_add]
  congr 1
  by_cases h : rwBc m = sec ∧ rwLoops R m = l
  · rw [if_pos h, if_pos (by rw [Bool.and_eq_true]; exact ⟨beq_iff_eq.mpr h.1, beq_iff_eq.mpr h.2⟩)]
  · rw [if_neg h, if_neg (by rw [Bool.and_eq_true]; exact fun z => h ⟨beq_iff_eq.mp z.1, beq_iff_eq.mp z.2⟩)]
theorem tlT_le (R : Rw) (m sec l : Nat) : tlT R m sec l ≤ m := by
  unfold tlT
  have := List.countP_le_length (p := fun s => rwBc s == sec && rwLoops R s == l) (l := List.range m)
  rwa [List.length_range] at this
/-- what the first sec rows of the tally and L columns of the next one sum up to -/
def tlS (R : Rw) (x : Int) (m sec L : Nat) : Int := rsum (fun a => rsum (fun l => (tlT R m a (l + 1) : Int) * po l (x - ((rwn R : Int) - 2 * (a : Int)))) 12) sec + rsum (fun l => (tlT R m sec (l + 1) : Int) * po l (x - ((rwn R : Int) - 2 * (sec : Int)))) L
theorem tlS_all {R : Rw} (ok : rwOk R) (hne : 0 < R.1.length) (x : Int) : ∀ m, m ≤ 2 ^ rwn R → rsum (fun a => rsum (fun l => (tlT R m a (l + 1) : Int) * po l (x - ((rwn R : Int) - 2 * (a : Int)))) 12) (rwn R + 1) = rsum (fun s => po (rwLoops R s - 1) (x - ((rwn R : Int) - 2 * (rwBc s : Int)))) m := by
  have o2 := ok.2.1
  have p := pow_256 o2
  intro m
  induction m with
  | zero =>
    intro _
    refine (rsum_congr (g := fun _ => 0) (fun a _ => ?_)).trans (rsum_zero _)
    refine (rsum_congr (g := fun _ => 0) (fun l _ => ?_)).trans (rsum_zero _)
    show ((0 : Nat) : Int) * _ = 0
    exact Int.zero_mul _
  | succ m ih =>
    intro hm
    rw [rsum_succ (fun s => po (rwLoops R s - 1) (x - ((rwn R : Int) - 2 * (rwBc s : Int)))) m, ← ih (by omega)]
    have b1 := bc_le (rwn R) (by omega) m (by omega) (by omega)
    have b2 := rwLoops_b ok hne m
    have e1 : ∀ a l, (tlT R (m + 1) a (l + 1) : Int) * po l (x - ((rwn R : Int) - 2 * (a : Int))) = (tlT R m a (l + 1) : Int) * po l (x - ((rwn R : Int) - 2 * (a : Int))) + (if rwBc m = a ∧ rwLoops R m = l + 1 then po l (x - ((rwn R : Int) - 2 * (a : Int))) else 0) := by
      intro a l
      rw [tlT_succ]
      by_cases h : rwBc m = a ∧ rwLoops R m = l + 1
      · rw [if_pos h, if_pos h, Int.natCast_add, Int.add_mul]; simp
      · rw [if_neg h, if_neg h]; simp
    have e2 : ∀ a, rsum (fun l => (tlT R (m + 1) a (l + 1) : Int) * po l (x - ((rwn R : Int) - 2 * (a : Int)))) 12 = rsum (fun l => (tlT R m a (l + 1) : Int) * po l (x - ((rwn R : Int) - 2 * (a : Int)))) 12 + (if rwBc m = a then po (rwLoops R m - 1) (x - ((rwn R : Int) - 2 * (a : Int))) else 0) := by
      intro a
      rw [rsum_congr (fun l _ => e1 a l), rsum_add]
      congr 1
      by_cases h : rwBc m = a
      · rw [if_pos h, rsum_single (a := rwLoops R m - 1) (by omega) (fun l _ hl => by rw [if_neg (by omega)]), if_pos ⟨h, by omega⟩]
      · rw [if_neg h]
        exact (rsum_congr (g := fun _ => 0) (fun l _ => if_neg (fun z => h z.1))).trans (rsum_zero _)
    rw [rsum_congr (fun a _ => e2 a), rsum_add]
    congr 1
    rw [rsum_single (a := rwBc m) (by omega) (fun a _ ha => by rw [if_neg (fun z => ha z.symm)]), if_pos rfl]
def kBr (V : km_V) (t : Nat) (R : Rw) : Prop := (∀ x : Int, -60 ≤ x ∧ x ≤ 60 → V (t + 1) (Int.toNat (60 + x)) = rwBr R x) ∧ V t 2 = rwWr R
theorem kBr.fr {V W : km_V} {t : Nat} {R : Rw} (h : kBr V t R) (h0 : W t 2 = V t 2) (hf : ∀ j, W (t + 1) j = V (t + 1) j) : kBr W t R :=
  ⟨fun x hx => by rw [hf]; exact h.1 x hx, by rw [h0]; exact h.2⟩
section BRA
variable {xs : Nat → Int32} {Lx d : Nat} {V : km_V} {t u r : Nat} {R : Rw}
theorem sp_addPower {many p : Nat} {e : Int} {K : km_V → Prop} (hu : km_sh[u]? = some (1, 3)) (hm : many ≤ 256) (he : -8 ≤ e ∧ e ≤ 8) (hp : p < 12) (k : ∀ W, (∀ x : Int, -60 ≤ x ∧ x ≤ 60 → W (u + 1) (Int.toNat (60 + x)) = V (u + 1) (Int.toNat (60 + x)) + (many : Int) * po p (x - e)) → (∀ b j, b ≠ u + 1 → W b j = V b j) → K W) : kCV xs Lx (d + 0) 15 7 [.ref u, kI many, kI e, kI p] V K := by
  -- the loop, from the sign of the first term on
  have go : ∀ t0 : Int, t0 = (many : Int) * cb p 0 → kGo xs Lx (d + 0) 15 17 [some (.ref u), none, some (kI e), some (kI p), some (kI t0), some (kI 0), none] [] V (fun r V' => r = none ∧ K V') := by
    intro t0 ht0
    subst ht0
    refine kloop (p + 1) (fun j W => (∀ x : Int, -60 ≤ x ∧ x ≤ 60 → W (u + 1) (Int.toNat (60 + x)) = V (u + 1) (Int.toNat (60 + x)) + (if (2 * (p : Int) - (x - e)) % 4 = 0 ∧ 0 ≤ 2 * (p : Int) - (x - e) ∧ 2 * (p : Int) - (x - e) < 4 * (j : Int) then (many : Int) * po p (x - e) else 0)) ∧ (∀ b j, b ≠ u + 1 → W b j = V b j)) (fun j W => kGo xs Lx (d + 0) 15 17 [some (.ref u), none, some (kI e), some (kI p), some (kI ((many : Int) * cb p j)), some (kI (j : Int)), none] [] W _) (fun W ⟨g1, g2⟩ => ?_) (fun j W hj ⟨g1, g2⟩ ih => ?_) 0 V (Nat.zero_le _) ⟨fun x hx => by rw [if_neg (by omega)]; omega, fun _ _ _ => rfl⟩
    · refine b15_17 hu ⟨by omega, by omega, fun _ => ⟨rfl, k W (fun x hx => ?_) g2⟩, fun h => by omega⟩
      rw [g1 x hx]
      by_cases c : (2 * (p : Int) - (x - e)) % 4 = 0 ∧ 0 ≤ 2 * (p : Int) - (x - e) ∧ 2 * (p : Int) - (x - e) < 4 * ((p + 1 : Nat) : Int)
      · rw [if_pos c]
      · rw [if_neg c, po_supp p (x - e) (by omega)]; omega
    · have cr := cb_rec p hp j (by omega)
      have cbb := cb_b p hp j (by omega)
      have tb : -200000 ≤ (many : Int) * cb p j ∧ (many : Int) * cb p j ≤ 200000 := by
        have h1 := Int.mul_le_mul_of_nonneg_left cbb.1 (show (0 : Int) ≤ many by omega)
        have h2 := Int.mul_le_mul_of_nonneg_left cbb.2 (show (0 : Int) ≤ many by omega)
        omega
      have e1 : (many : Int) * cb p j * ((p : Int) - (j : Int)) = (many : Int) * cb p (j + 1) * ((j : Int) + 1) := by
        rw [Int.mul_assoc, cr, ← Int.mul_assoc]
      have e2 : Int.tdiv ((many : Int) * cb p j * ((p : Int) - (j : Int))) ((j : Int) + 1) = (many : Int) * cb p (j + 1) := by
        rw [e1, Int.mul_tdiv_cancel _ (by omega)]
      have tr : kR ((many : Int) * cb p j * ((p : Int) - (j : Int))) := by
        have h1 := Int.mul_le_mul_of_nonneg_right tb.1 (show (0 : Int) ≤ (p : Int) - (j : Int) by omega)
        have h2 := Int.mul_le_mul_of_nonneg_right tb.2 (show (0 : Int) ≤ (p : Int) - (j : Int) by omega)
        omega
      refine b15_17 hu ⟨by omega, by omega, fun h => by omega, fun h z hz => ?_⟩
      subst hz
      refine ⟨by omega, fun h6 => by omega, fun h6 => ⟨fun h7 => by omega, fun h7 => ⟨by omega, tr, by omega, fun z4 hz4 => ?_⟩⟩⟩
      rw [e2] at hz4
      subst hz4
      refine ih _ ⟨fun x hx => ?_, fun b j' hb => by rw [up_ne (by omega)]; exact g2 b j' hb⟩
      have n1 : Int.toNat (60 + e + 2 * (p : Int) - 4 * (j : Int)) = Int.toNat (60 + (e + 2 * (p : Int) - 4 * (j : Int))) := by congr 1; omega
      rw [n1]
      by_cases c : x = e + 2 * (p : Int) - 4 * (j : Int)
      · subst c
        have q := g1 (e + 2 * (p : Int) - 4 * (j : Int)) (by omega)
        rw [up_at, q, if_neg (by omega), if_pos (by omega), show e + 2 * (p : Int) - 4 * (j : Int) - e = 2 * (p : Int) - 4 * (j : Int) by omega, po_cb]
        omega
      · rw [up_ne (by omega), g1 x hx]
        by_cases c2 : (2 * (p : Int) - (x - e)) % 4 = 0 ∧ 0 ≤ 2 * (p : Int) - (x - e) ∧ 2 * (p : Int) - (x - e) < 4 * (j : Int)
        · rw [if_pos c2, if_pos (by omega)]
        · rw [if_neg c2, if_neg (by omega)]
  have tm : Int.tmod (p : Int) 2 = (p : Int) % 2 := Int.tmod_eq_emod_of_nonneg (by omega)
  have c0 : ∀ p, p < 12 → cb p 0 = if p % 2 = 0 then 1 else -1 := by decide +kernel
  refine b15_0 hu ?_
  rw [tm]
  refine ⟨by omega, by omega, fun h => go _ ?_, fun h => go _ ?_⟩
  · rw [c0 p hp, if_neg (by omega)]; omega
  · rw [c0 p hp, if_pos (by omega)]; omega
theorem sp_tallyStates {K : km_V → Prop} (hu : km_sh[u]? = some (1, 3)) (ht : km_sh[t]? = some (2, 11)) (hr : km_sh[r]? = some (5, 5)) (apr : r + 3 < u + 2 ∨ u + 2 < r) (apt : t + 10 < u + 2 ∨ u + 2 < t) (hR : kRC V r R) (ok : rwOk R) (hE : kDE V t R) (hne : 0 < R.1.length) (k : ∀ W, (∀ sec l, sec ≤ 8 → l ≤ 12 → W (u + 2) (sec * 13 + l) = (tlT R (2 ^ rwn R) sec l : Int)) → (∀ b j, b ≠ u + 2 → W b j = V b j) → K W) : kCV xs Lx (d + 2) 14 5 [.ref u, .ref r, .ref t] V K := by
  have o2 := ok.2.1
  have pw := pow_256 o2
  have p1 : 1 ≤ 2 ^ rwn R := Nat.one_le_two_pow
  refine b14_0 hu hr ht ?_
  refine kloop 117 (fun m W => (∀ j, j < m → W (u + 2) j = 0) ∧ (∀ b j, b ≠ u + 2 → W b j = V b j)) (fun m W => kGo xs Lx (d + 2) 14 2 [some (.ref u), some (.ref r), some (.ref t), some (kI (m : Int)), none] [] W _) (fun W ⟨g1, g2⟩ => ?_) (fun m W hm ⟨g1, g2⟩ ih => ?_) 0 V (Nat.zero_le _) ⟨fun j hj => by omega, fun _ _ _ => rfl⟩
  · refine b14_2 hu hr ht ⟨by omega, fun _ => ?_, fun h => by omega⟩
    refine kloop (2 ^ rwn R) (fun m W => (∀ sec l, sec ≤ 8 → l ≤ 12 → W (u + 2) (sec * 13 + l) = (tlT R m sec l : Int)) ∧ (∀ b j, b ≠ u + 2 → W b j = V b j)) (fun m W => kGo xs Lx (d + 2) 14 26 [some (.ref u), some (.ref r), some (.ref t), some (kI (m : Int)), none] [] W _) (fun W ⟨g1, g2⟩ => ?_) (fun m W hm ⟨g1, g2⟩ ih => ?_) 0 W (Nat.zero_le _) ⟨fun sec l h1 h2 => g1 _ (by omega), g2⟩
    · have e1 : W r 1 = _ := (g2 _ _ (by omega)).trans hR.2.1
      refine b14_26 hu hr ht ?_
      rw [e1]
      simp only [tn]
      rw [Int.one_mul]
      exact ⟨by omega, by omega, by omega, fun _ => ⟨True.intro, k W g1 g2⟩, fun h => by omega⟩
    · have e1 : W r 1 = _ := (g2 _ _ (by omega)).trans hR.2.1
      have b1 := bc_le (rwn R) (by omega) m (by omega) (by omega)
      have b2 := rwLoops_b ok hne m
      have hRW : kRC W r R := hR.fr (fun a j ha => g2 a j (by omega))
      have hEW : kDE W t R := hE.fr (fun a j ha => g2 a j (by omega))
      refine b14_26 hu hr ht ?_
      rw [e1]
      simp only [tn]
      rw [Int.one_mul]
      refine ⟨by omega, by omega, by omega, fun h => by omega, fun h => ?_⟩
      refine sp_loopsOf ht hr hRW ok hEW (by omega) ⟨by omega, fun h6 => by omega, fun h6 => ?_⟩
      have kb := kbit_nat m
      have en : Int.toNat ((rwBc m : Int) * 13 + (rwLoops R m : Int)) = rwBc m * 13 + rwLoops R m := by omega
      rw [kb, en, g1 (rwBc m) (rwLoops R m) (by omega) (by omega)]
      refine ⟨by omega, by omega, ih _ ⟨fun sec l h1 h2 => ?_, fun b j hb => by rw [up_ne (by omega)]; exact g2 b j hb⟩⟩
      rw [tlT_succ]
      by_cases c : rwBc m = sec ∧ rwLoops R m = l
      · obtain ⟨rfl, rfl⟩ := c
        rw [up_at, if_pos ⟨rfl, rfl⟩]; omega
      · rw [up_ne (by omega), g1 sec l h1 h2, if_neg c]; omega
  · refine b14_2 hu hr ht ⟨by omega, fun h => by omega, fun h => ⟨by omega, ih _ ⟨fun j hj => ?_, fun b j hb => by rw [up_ne (by omega)]; exact g2 b j hb⟩⟩⟩
    by_cases e : j = m
    · subst e; rw [tn, up_at]
    · rw [up_ne (by rw [tn]; omega)]; exact g1 j (by omega)
theorem rwWr_b {R : Rw} (ok : rwOk R) : -8 ≤ rwWr R ∧ rwWr R ≤ 8 := by
  have o2 := ok.2.1
  have key : ∀ m, m ≤ rwn R → -(m : Int) ≤ (R.2.take m).sum ∧ (R.2.take m).sum ≤ (m : Int) := by
    intro m
    induction m with
    | zero => intro _; exact ⟨Int.le_refl _, Int.le_refl _⟩
    | succ m ih =>
      intro hm
      have h := ih (by omega)
      have s := ok.sg m (by omega)
      rw [take_gd 0 (by exact hm), List.sum_append]
      simp only [List.sum_cons, List.sum_nil]
      omega
  have := key (rwn R) (Nat.le_refl _)
  unfold rwn at this
  rw [List.take_length] at this
  unfold rwWr
  unfold rwn at o2
  omega
theorem sp_addUp {K : km_V → Prop} (hu : km_sh[u]? = some (1, 3)) (ht : km_sh[t]? = some (2, 11)) (hr : km_sh[r]? = some (5, 5)) (apr : r + 3 < u ∨ u + 2 < r) (apt : t + 10 < u ∨ u + 2 < t) (hR : kRC V r R) (ok : rwOk R) (hE : kDE V t R) (k : ∀ W, kBr W u R → (∀ b j, ¬ (u ≤ b ∧ b ≤ u + 2) → W b j = V b j) → K W) : kCV xs Lx (d + 3) 13 6 [.ref u, .ref r, .ref t] V K := by
  have o1 := ok.1
  have o2 := ok.2.1
  have pw := pow_256 o2
  refine b13_0 hu hr ht ?_
  refine kloop 121 (fun m W => (∀ j, j < m → W (u + 1) j = 0) ∧ (∀ b j, b ≠ u + 1 → W b j = V b j)) (fun m W => kGo xs Lx (d + 3) 13 2 [some (.ref u), some (.ref r), some (.ref t), some (kI (m : Int)), none, none] [] W _) (fun W ⟨g1, g2⟩ => ?_) (fun m W hm ⟨g1, g2⟩ ih => ?_) 0 V (Nat.zero_le _) ⟨fun j hj => by omega, fun _ _ _ => rfl⟩
  · have hRW : kRC W r R := hR.fr (fun a j ha => g2 a j (by omega))
    have hEW : kDE W t R := hE.fr (fun a j ha => g2 a j (by omega))
    refine b13_2 hu hr ht ⟨by omega, fun _ => ?_, fun h => by omega⟩
    refine sp_writhe hr hRW ok ?_
    have e0 : up W u 2 (rwWr R) r 0 = (R.1.length : Int) := by rw [up_ne (by omega)]; exact hRW.1
    rw [e0]
    refine ⟨by omega, fun h6 => ?_, fun h6 => ⟨rfl, k _ ⟨fun x hx => ?_, up_at _ _ _ _⟩ (fun b j hb => by rw [up_ne (by omega)]; exact g2 b j (by omega))⟩⟩
    · have hne : 0 < R.1.length := by omega
      have hR2 : kRC (up W u 2 (rwWr R)) r R := hRW.fr (fun a j ha => up_ne (by omega))
      have hE2 : kDE (up W u 2 (rwWr R)) t R := hEW.fr (fun a j ha => up_ne (by omega))
      refine sp_tallyStates hu ht hr (by omega) (by omega) hR2 ok hE2 hne (fun W1 m1 f1 => ?_)
      refine kloop (rwn R + 1) (fun sec W2 => (∀ x : Int, -60 ≤ x ∧ x ≤ 60 → W2 (u + 1) (Int.toNat (60 + x)) = tlS R x (2 ^ rwn R) sec 0) ∧ (∀ b j, b ≠ u + 1 → W2 b j = W1 b j)) (fun sec W2 => kGo xs Lx (d + 3) 13 48 [some (.ref u), some (.ref r), none, some (kI (sec : Int)), none, none] [] W2 _) (fun W2 ⟨h1, h2⟩ => ?_) (fun sec W2 hsec ⟨h1, h2⟩ ih => ?_) 0 W1 (Nat.zero_le _) ⟨fun x hx => ?_, fun _ _ _ => rfl⟩
      · have e1 : W2 r 1 = (rwn R : Int) := by rw [h2 _ _ (by omega), f1 _ _ (by omega)]; exact hR2.2.1
        refine b13_48 hu hr ⟨by omega, by omega, fun _ => ⟨rfl, k W2 ⟨fun x hx => ?_, ?_⟩ (fun b j hb => ?_)⟩, fun h => by omega⟩
        · rw [h1 x hx]
          unfold rwBr
          rw [if_neg (by omega), ← tlS_all ok hne x (2 ^ rwn R) (Nat.le_refl _)]
          show _ + 0 = _
          exact Int.add_zero _
        · rw [h2 _ _ (by omega), f1 _ _ (by omega), up_at]
        · rw [h2 _ _ (by omega), f1 _ _ (by omega), up_ne (by omega)]; exact g2 b j (by omega)
      · have e1 : W2 r 1 = (rwn R : Int) := by rw [h2 _ _ (by omega), f1 _ _ (by omega)]; exact hR2.2.1
        refine b13_48 hu hr ⟨by omega, by omega, fun h => by omega, fun h => ?_⟩
        refine kloop 13 (fun l W3 => 1 ≤ l ∧ (∀ x : Int, -60 ≤ x ∧ x ≤ 60 → W3 (u + 1) (Int.toNat (60 + x)) = tlS R x (2 ^ rwn R) sec (l - 1)) ∧ (∀ b j, b ≠ u + 1 → W3 b j = W1 b j)) (fun l W3 => kGo xs Lx (d + 3) 13 59 [some (.ref u), some (.ref r), none, some (kI (sec : Int)), some (kI (l : Int)), none] [] W3 _) (fun W3 ⟨hl, q1, q2⟩ => ?_) (fun l W3 hl ⟨hl1, q1, q2⟩ ih2 => ?_) 1 W2 (by omega) ⟨Nat.le_refl _, h1, h2⟩
        · refine b13_59 hu hr ⟨by omega, fun _ => ih W3 ⟨fun x hx => ?_, q2⟩, fun h => by omega⟩
          rw [q1 x hx]
          have rs := rsum_succ (fun a => rsum (fun l => (tlT R (2 ^ rwn R) a (l + 1) : Int) * po l (x - ((rwn R : Int) - 2 * (a : Int)))) 12) sec
          unfold tlS
          rw [rs]
          exact (Int.add_zero _).symm
        · have en : Int.toNat ((sec : Int) * 13 + (l : Int)) = sec * 13 + l := by omega
          have e3 : W3 (u + 2) (sec * 13 + l) = (tlT R (2 ^ rwn R) sec l : Int) := by rw [q2 _ _ (by omega)]; exact m1 sec l (by omega) (by omega)
          have e4 : W3 r 1 = (rwn R : Int) := by rw [q2 _ _ (by omega), f1 _ _ (by omega)]; exact hR2.2.1
          have tl := tlT_le R (2 ^ rwn R) sec l
          have nx : ∀ x, tlS R x (2 ^ rwn R) sec (l + 1 - 1) = tlS R x (2 ^ rwn R) sec (l - 1) + (tlT R (2 ^ rwn R) sec l : Int) * po (l - 1) (x - ((rwn R : Int) - 2 * (sec : Int))) := by
            intro x
            unfold tlS
            rw [show l + 1 - 1 = (l - 1) + 1 by omega, rsum_succ, show l - 1 + 1 = l by omega]
            omega
          refine b13_59 hu hr ⟨by omega, fun h => by omega, fun h => ⟨by omega, fun z hz => ?_⟩⟩
          rw [en, e3] at hz
          subst hz
          refine ⟨by omega, fun h7 => ih2 W3 ⟨by omega, fun x hx => ?_, q2⟩, fun h7 => ?_⟩
          · rw [q1 x hx, nx, show (tlT R (2 ^ rwn R) sec l : Int) = 0 by omega]; omega
          · rw [e4, show (l : Int) - 1 = ((l - 1 : Nat) : Int) by omega]
            refine sp_addPower hu (by omega) (by omega) (by omega) (fun W4 j4 f4 => ih2 W4 ⟨by omega, fun x hx => ?_, fun b j hb => by rw [f4 b j hb]; exact q2 b j hb⟩)
            rw [j4 x hx, q1 x hx, nx]
      · rw [f1 _ _ (by omega), up_ne (by omega), g1 _ (by omega)]
        rfl
    · rw [up_ne (by omega), g1 _ (by omega)]
      unfold rwBr
      rw [if_pos (by omega)]
  · refine b13_2 hu hr ht ⟨by omega, fun h => by omega, fun h => ⟨by omega, ih _ ⟨fun j hj => ?_, fun b j hb => by rw [up_ne (by omega)]; exact g2 b j hb⟩⟩⟩
    by_cases e : j = m
    · subst e; rw [tn, up_at]
    · rw [up_ne (by rw [tn]; omega)]; exact g1 j (by omega)
end BRA

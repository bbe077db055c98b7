/-! the rows that rings tell -/
def rix : List Int → Int → Nat
  | [], _ => 0
  | u :: t, v => if u = v then 0 else rix t v + 1
theorem rix_mem : ∀ {U : List Int} {v : Int}, v ∈ U → rix U v < U.length ∧ U.getD (rix U v) 0 = v := by
  intro U
  induction U with
  | nil => intro v h; exact absurd h (by simp)
  | cons u t ih =>
    intro v h
    unfold rix
    by_cases e : u = v
    · rw [if_pos e]; exact ⟨by simp, e⟩
    · rw [if_neg e]
      have h' : v ∈ t := by
        rcases List.mem_cons.mp h with q | q
        · exact absurd q.symm e
        · exact q
      obtain ⟨a, b⟩ := ih h'
      exact ⟨by rw [List.length_cons]; omega, b⟩
theorem rix_at {U : List Int} (nd : U.Nodup) {c : Nat} (h : c < U.length) {v : Int} (e : U.getD c 0 = v) : rix U v = c := by
  have m : v ∈ U := by rw [← e]; exact gd_mem h
  obtain ⟨a, b⟩ := rix_mem m
  exact nd_inj nd a h (by rw [b, e])
def rdX (K W : Nat → Int) (U : List Int) (j : Nat) : Nat := 2 * rix U (W j) + (rdOv K j).toNat
def rdR (K W : Nat → Int) (U : List Int) : Nat → List (List Nat)
  | 0 => []
  | k + 1 => if K k = 2 then rdR K W U k ++ [[]] else if K k = 6 then (rdR K W U k).set ((rdR K W U k).length - 1) ((rdR K W U k).getD ((rdR K W U k).length - 1) [] ++ [rdX K W U k]) else rdR K W U k
def rdRw (K W : Nat → Int) (T : Nat) : Rw := (rdR K W (rdU K W T) T, (rdU K W T).map (fun v => if rdSg K ((rcc W (rdT K T) (rdT K T).length v).getD 0 0) = 1 then 1 else -1))
section RDX
variable {K W : Nat → Int} {L : List Nat} {U : List Int}
theorem rdX_div (j : Nat) : rdX K W U j / 2 = rix U (W j) ∧ (rdX K W U j % 2 : Int) = rdOv K j := by
  unfold rdX
  rcases rdOv_r K j with h | h <;> rw [h]
  · exact ⟨by rw [tn0]; omega, by rw [tn0]; omega⟩
  · exact ⟨by rw [tnn1]; omega, by rw [tnn1]; omega⟩
theorem rdX_lt {j : Nat} (h : W j ∈ U) : rdX K W U j < 2 * U.length := by
  have a := (rix_mem h).1
  have b := (rdX_div (K := K) (W := W) (U := U) j).1
  omega
/-- how often a value has been met: never, once, or twice in ways that fit -/
theorem rcc_three : ∀ i, i ≤ L.length → (∀ j, j < i → rfb K W L j = 0) → ∀ v, rcc W L i v = [] ∨ (∃ a, rcc W L i v = [a]) ∨ (∃ a b, rcc W L i v = [a, b] ∧ rdOv K a ≠ rdOv K b ∧ rdSg K a = rdSg K b) := by
  intro i
  induction i with
  | zero => intro _ _ v; exact Or.inl rfl
  | succ i ih =>
    intro hi h v
    have a := ih (by omega) (fun j hj => h j (by omega)) v
    rw [rcc_succ (by omega)]
    by_cases e : W (L.getD i 0) = v
    · rw [if_pos e]
      have hf := h i (by omega)
      unfold rfb at hf
      rw [e] at hf
      by_cases z : 99 < v
      · rw [if_pos z] at hf; omega
      · rw [if_neg z] at hf
        by_cases y : rcc W L i v = [] ∨ ((rcc W L i v).length = 1 ∧ rdOv K ((rcc W L i v).getD 0 0) ≠ rdOv K (L.getD i 0) ∧ rdSg K ((rcc W L i v).getD 0 0) = rdSg K (L.getD i 0))
        · rcases y with y | ⟨y1, y2, y3⟩
          · rw [y]; exact Or.inr (Or.inl ⟨_, rfl⟩)
          · rcases a with a | ⟨x, a⟩ | ⟨x, x', a, _⟩
            · rw [a] at y1; exact absurd y1 (by decide)
            · rw [a] at y2 y3 ⊢
              exact Or.inr (Or.inr ⟨x, L.getD i 0, rfl, y2, y3⟩)
            · rw [a] at y1; exact absurd (show 2 = 1 from y1) (by decide)
        · rw [if_neg y] at hf; omega
    · rw [if_neg e]; exact a
theorem rcc_in {i j : Nat} (hj : j < i) (hi : i ≤ L.length) : L.getD j 0 ∈ rcc W L i (W (L.getD j 0)) := by
  unfold rcc
  refine List.mem_filter.mpr ⟨?_, by simp⟩
  have : L.getD j 0 = (L.take i).getD j 0 := (gd_take hj).symm
  rw [this]
  exact gd_mem (by rw [List.length_take]; omega)
theorem rdX_inj {i : Nat} (hi : i ≤ L.length) (h : ∀ j, j < i → rfb K W L j = 0) (hU : ∀ j, j < L.length → W (L.getD j 0) ∈ U) : ∀ j j', j < j' → j' < i → rdX K W U (L.getD j 0) ≠ rdX K W U (L.getD j' 0) := by
  intro j j' h1 h2 e
  have a1 := rdX_div (K := K) (W := W) (U := U) (L.getD j 0)
  have a2 := rdX_div (K := K) (W := W) (U := U) (L.getD j' 0)
  rw [e] at a1
  have ew : W (L.getD j 0) = W (L.getD j' 0) := by
    have b1 := (rix_mem (hU j (by omega))).2
    have b2 := (rix_mem (hU j' (by omega))).2
    rw [← b1, ← b2, ← a1.1, ← a2.1]
  have eo : rdOv K (L.getD j 0) = rdOv K (L.getD j' 0) := by rw [← a1.2, ← a2.2]
  have t := rcc_three (K := K) (W := W) (L := L) (j' + 1) (by omega) (fun x hx => h x (by omega)) (W (L.getD j' 0))
  rw [rcc_succ (by omega), if_pos rfl] at t
  have m := rcc_in (W := W) (L := L) h1 (by omega)
  rw [ew] at m
  rcases t with t | ⟨a, t⟩ | ⟨a, b, t, t2, _⟩
  · exact absurd (congrArg List.length t) (by simp)
  · have l := congrArg List.length t
    rw [List.length_append, List.length_singleton, List.length_singleton] at l
    rw [List.eq_nil_of_length_eq_zero (show (rcc W L j' (W (L.getD j' 0))).length = 0 by omega)] at m
    exact absurd m (by simp)
  · have l := congrArg List.length t
    rw [List.length_append, List.length_singleton] at l
    have l2 : ([a, b] : List Nat).length = 2 := rfl
    rw [l2] at l
    have l1 : (rcc W L j' (W (L.getD j' 0))).length = 1 := by omega
    match hq : rcc W L j' (W (L.getD j' 0)), l1 with
    | [x], _ =>
      rw [hq] at m t
      have mx := List.mem_singleton.mp m
      have t' : [x, L.getD j' 0] = [a, b] := t
      have ea : x = a := by injection t'
      have eb : L.getD j' 0 = b := by
        injection t' with _ t''
        injection t''
      rw [← ea, ← eb, ← mx] at t2
      exact t2 eo
theorem rdX_nd {i : Nat} (hi : i ≤ L.length) (h : ∀ j, j < i → rfb K W L j = 0) (hU : ∀ j, j < L.length → W (L.getD j 0) ∈ U) : ((L.take i).map (rdX K W U)).Nodup := by
  refine List.pairwise_iff_getElem.mpr (fun j j' h1 h2 h3 => ?_)
  rw [List.length_map, List.length_take] at h1 h2
  rw [List.getElem_map, List.getElem_map, List.getElem_take, List.getElem_take]
  have := rdX_inj hi h hU j j' h3 (by omega)
  rw [gd_lt (by omega), gd_lt (by omega)] at this
  exact this
theorem rdX_le {i : Nat} (hi : i ≤ L.length) (h : ∀ j, j < i → rfb K W L j = 0) (hU : ∀ j, j < L.length → W (L.getD j 0) ∈ U) : i ≤ 2 * U.length := by
  have a := nodup_le (2 * U.length) _ (rdX_nd hi h hU) (fun x hx => by
    obtain ⟨y, hy, rfl⟩ := List.mem_map.mp hx
    obtain ⟨j, hj, e⟩ := List.getElem_of_mem hy
    rw [List.length_take] at hj
    rw [List.getElem_take] at e
    have := hU j (by omega)
    rw [gd_lt (by omega), e] at this
    exact rdX_lt this)
  rw [List.length_map, List.length_take] at a
  omega
theorem rdX_perm (h : ∀ j, j < L.length → rfb K W L j = 0) (hn : ∀ j, j < L.length → (rcc W L L.length (W (L.getD j 0))).length ≠ 1) (hU : ∀ j, j < L.length → W (L.getD j 0) ∈ U) (nd : U.Nodup) (hL : ∀ u, u ∈ U → ∃ j, j < L.length ∧ W (L.getD j 0) = u) : (L.map (rdX K W U)).Perm (List.range (2 * U.length)) := by
  have nd2 := rdX_nd (K := K) (Nat.le_refl _) h hU
  rw [List.take_length] at nd2
  refine (List.perm_iff_count).mpr (fun x => ?_)
  rw [nd2.count, List.nodup_range.count]
  have iff : x ∈ L.map (rdX K W U) ↔ x ∈ List.range (2 * U.length) := by
    rw [List.mem_range, List.mem_map]
    constructor
    · rintro ⟨y, hy, rfl⟩
      obtain ⟨j, hj, e⟩ := List.getElem_of_mem hy
      have := hU j hj
      rw [gd_lt hj, e] at this
      exact rdX_lt this
    · intro hx
      have hc : x / 2 < U.length := by omega
      obtain ⟨j, hj, ej⟩ := hL _ (gd_mem (z := 0) hc)
      have one : ∀ y, y ∈ rcc W L L.length (U.getD (x / 2) 0) → (rdOv K y).toNat = x % 2 → ∃ a, a ∈ L ∧ rdX K W U a = x := by
        intro y hy ho
        obtain ⟨m1, j', _, m3, m4⟩ := rcc_mem hy
        refine ⟨y, by rw [← m4]; exact gd_mem m3, ?_⟩
        unfold rdX
        rw [m1, rix_at nd hc rfl, ho]
        omega
      have t := rcc_three (K := K) (W := W) (L := L) L.length (Nat.le_refl _) h (U.getD (x / 2) 0)
      have m := rcc_in (W := W) (L := L) hj (Nat.le_refl _)
      have n1 := hn j hj
      rw [ej] at m n1
      rcases t with t | ⟨a, t⟩ | ⟨a, b, t, t2, _⟩
      · rw [t] at m; exact absurd m (by simp)
      · rw [t] at n1; exact absurd rfl n1
      · have ra := rdOv_r K a
        have rb := rdOv_r K b
        by_cases z : (rdOv K a).toNat = x % 2
        · exact one a (by rw [t]; simp) z
        · exact one b (by rw [t]; simp) (by omega)
  by_cases q : x ∈ L.map (rdX K W U)
  · rw [if_pos q, if_pos (iff.mp q)]
  · rw [if_neg q, if_neg (fun z => q (iff.mpr z))]
end RDX
theorem fl_last {rs : List (List Nat)} {x : Nat} (h : rs ≠ []) : (rs.set (rs.length - 1) (rs.getD (rs.length - 1) [] ++ [x])).flatten = rs.flatten ++ [x] := by
  have hl : 0 < rs.length := List.length_pos_iff.mpr h
  have e : rs = rs.dropLast ++ [rs.getD (rs.length - 1) []] := by
    rw [gd_lt (by omega), ← List.getLast_eq_getElem h, List.dropLast_concat_getLast h]
  have l : rs.dropLast.length = rs.length - 1 := by rw [List.length_dropLast]
  have s : rs.set (rs.length - 1) (rs.getD (rs.length - 1) [] ++ [x]) = rs.dropLast ++ [rs.getD (rs.length - 1) [] ++ [x]] := by
    refine gd_ext [] (by rw [List.length_set, List.length_append, l, List.length_singleton]; omega) (fun i hi => ?_)
    rw [List.length_set] at hi
    rw [gd_set (by omega)]
    by_cases q : i = rs.length - 1
    · rw [if_pos q, gd_appr (by omega), l, q, Nat.sub_self]; rfl
    · rw [if_neg q, gd_appl (by omega)]
      have := congrArg (fun z : List (List Nat) => z.getD i []) e
      have this : rs.getD i [] = (rs.dropLast ++ [rs.getD (rs.length - 1) []]).getD i [] := this
      rw [gd_appl (by omega)] at this
      exact this
  rw [s, List.flatten_append]
  have e2 := congrArg List.flatten e
  rw [List.flatten_append] at e2
  rw [e2, List.append_assoc]
  simp
section RDR
variable {K W : Nat → Int} {U : List Int}
theorem rdR_len : ∀ k, (rdR K W U k).length = (rdF K k).length := by
  intro k
  induction k with
  | zero => rfl
  | succ k ih =>
    show (if K k = 2 then rdR K W U k ++ [[]] else if K k = 6 then (rdR K W U k).set ((rdR K W U k).length - 1) ((rdR K W U k).getD ((rdR K W U k).length - 1) [] ++ [rdX K W U k]) else rdR K W U k).length = (if K k = 2 then rdF K k ++ [(rdT K k).length] else rdF K k).length
    by_cases a : K k = 2
    · rw [if_pos a, if_pos a, List.length_append, List.length_append, ih]; rfl
    · rw [if_neg a, if_neg a]
      split
      · rw [List.length_set, ih]
      · exact ih
theorem rdF_mono : ∀ k, 1 ≤ k → K 0 = 2 → 1 ≤ (rdF K k).length := by
  intro k
  induction k with
  | zero => intro h; omega
  | succ k ih =>
    intro _ h0
    show 1 ≤ (if K k = 2 then rdF K k ++ [(rdT K k).length] else rdF K k).length
    by_cases z : k = 0
    · subst z; rw [if_pos h0]; simp
    · have := ih (by omega) h0
      split
      · rw [List.length_append]; omega
      · exact this
theorem rdS_ring {t : Nat} (h : ∀ j, j < t → rdPass K W j) (h0 : K 0 = 2) : rdS K t ≤ 4 := by
  by_cases z : t = 0
  · subst z; exact (by decide : (0 : Int) ≤ 4)
  · have w := rdWell_all t h
    have b := w.b (by omega)
    omega
theorem rdR_flat : ∀ k, (∀ j, j < k → rdPass K W j) → K 0 = 2 → (rdR K W U k).flatten = (rdT K k).map (rdX K W U) := by
  intro k
  induction k with
  | zero => intro _ _; rfl
  | succ k ih =>
    intro h h0
    have a := ih (fun j hj => h j (by omega)) h0
    have s4 := rdS_ring (fun j hj => h j (show j < k + 1 by omega)) h0 (t := k)
    show (if K k = 2 then rdR K W U k ++ [[]] else if K k = 6 then (rdR K W U k).set ((rdR K W U k).length - 1) ((rdR K W U k).getD ((rdR K W U k).length - 1) [] ++ [rdX K W U k]) else rdR K W U k).flatten = (if K k = 6 ∧ rdS K k ≠ 5 then rdT K k ++ [k] else rdT K k).map (rdX K W U)
    by_cases e : K k = 2
    · rw [if_pos e, if_neg (by omega), List.flatten_append, a]; simp
    · rw [if_neg e]
      by_cases e6 : K k = 6
      · have hk : 1 ≤ k := by
          apply Decidable.byContradiction
          intro n
          rw [show k = 0 by omega] at e6
          omega
        have ne : rdR K W U k ≠ [] := by
          intro q
          have l := rdR_len (K := K) (W := W) (U := U) k
          rw [q] at l
          have := rdF_mono k hk h0
          rw [← l] at this
          exact absurd this (by decide)
        rw [if_pos e6, if_pos ⟨e6, by omega⟩, fl_last ne, a, List.map_append]; rfl
      · rw [if_neg e6, if_neg (by omega)]; exact a
theorem rdR_take : ∀ k, (∀ j, j < k → rdPass K W j) → K 0 = 2 → ∀ r, r < (rdF K k).length → ((rdR K W U k).take r).flatten.length = (rdF K k).getD r 0 := by
  intro k
  induction k with
  | zero => intro _ _ r hr; exact absurd hr (Nat.not_lt_zero _)
  | succ k ih =>
    intro h h0 r hr
    have a := ih (fun j hj => h j (by omega)) h0
    have l := rdR_len (K := K) (W := W) (U := U) k
    have fl := rdR_flat (U := U) k (fun j hj => h j (by omega)) h0
    have eR : rdR K W U (k + 1) = if K k = 2 then rdR K W U k ++ [[]] else if K k = 6 then (rdR K W U k).set ((rdR K W U k).length - 1) ((rdR K W U k).getD ((rdR K W U k).length - 1) [] ++ [rdX K W U k]) else rdR K W U k := rfl
    have eF : rdF K (k + 1) = if K k = 2 then rdF K k ++ [(rdT K k).length] else rdF K k := rfl
    rw [eF] at hr
    rw [eR, eF]
    by_cases e : K k = 2
    · rw [if_pos e] at hr
      rw [if_pos e, if_pos e]
      rw [List.length_append, List.length_singleton] at hr
      by_cases q : r = (rdF K k).length
      · subst q
        rw [gd_appr (Nat.le_refl _), Nat.sub_self, gd_cons0, ← l, List.take_left', fl, List.length_map]
        rfl
      · rw [gd_appl (by omega), ← a r (by omega), List.take_append_of_le_length (by omega)]
    · rw [if_neg e] at hr
      rw [if_neg e, if_neg e]
      by_cases e6 : K k = 6
      · rw [if_pos e6, List.take_set_of_le (by omega)]
        exact a r hr
      · rw [if_neg e6]; exact a r hr
end RDR

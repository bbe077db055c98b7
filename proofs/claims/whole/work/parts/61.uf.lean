/-! labels joined; loops walked: as many -/
def ufJ (lab : Nat → Nat) (x y : Nat) : Nat → Nat := fun k => if lab k = lab x then lab y else lab k
def ufStep (s : (Nat → Nat) × Nat) (p : Nat × Nat) : (Nat → Nat) × Nat := if s.1 p.1 = s.1 p.2 then s else (ufJ s.1 p.1 p.2, s.2 - 1)
def ufRun (N : Nat) (ps : List (Nat × Nat)) : (Nat → Nat) × Nat := ps.foldl ufStep (fun k => k, N)
def ufOk (N : Nat) (s : (Nat → Nat) × Nat) : Prop := (∀ k, k < N → s.1 k < N ∧ s.1 (s.1 k) = s.1 k) ∧ s.2 = (List.range N).countP (fun k => s.1 k == k)
theorem countP_diff {p q : Nat → Bool} {a : Nat} (h1 : p a = false) (h2 : q a = true) (h3 : ∀ k, k ≠ a → p k = q k) : ∀ N, (a < N → (List.range N).countP p + 1 = (List.range N).countP q) ∧ (N ≤ a → (List.range N).countP p = (List.range N).countP q) := by
  intro N
  induction N with
  | zero => exact ⟨fun h => absurd h (Nat.not_lt_zero _), fun _ => rfl⟩
  | succ N ih =>
    rw [List.range_succ, List.countP_append, List.countP_append]
    have e1 : [N].countP p = if p N then 1 else 0 := by rw [List.countP_cons, List.countP_nil, Nat.zero_add]
    have e2 : [N].countP q = if q N then 1 else 0 := by rw [List.countP_cons, List.countP_nil, Nat.zero_add]
    rw [e1, e2]
    by_cases e : N = a
    · subst e
      rw [h1, h2]
      have := ih.2 (Nat.le_refl _)
      refine ⟨fun _ => by rw [this]; rfl, fun h => by omega⟩
    · rw [h3 N e]
      refine ⟨fun h => ?_, fun h => ?_⟩
      · have := ih.1 (by omega); omega
      · have := ih.2 (by omega); omega
theorem ufStep_ok {N : Nat} {s : (Nat → Nat) × Nat} {p : Nat × Nat} (h : ufOk N s) (hx : p.1 < N) (hy : p.2 < N) : ufOk N (ufStep s p) := by
  obtain ⟨h1, h2⟩ := h
  unfold ufStep
  by_cases e : s.1 p.1 = s.1 p.2
  · rw [if_pos e]; exact ⟨h1, h2⟩
  · rw [if_neg e]
    have a1 := h1 p.1 hx
    have b1 := h1 p.2 hy
    have jb : ∀ k, ufJ s.1 p.1 p.2 k = if s.1 k = s.1 p.1 then s.1 p.2 else s.1 k := fun _ => rfl
    refine ⟨fun k hk => ?_, ?_⟩
    · dsimp only
      have k1 := h1 k hk
      rw [jb k]
      by_cases e1 : s.1 k = s.1 p.1
      · rw [if_pos e1, jb, b1.2, if_neg (fun z => e z.symm)]; exact ⟨b1.1, rfl⟩
      · rw [if_neg e1, jb, k1.2, if_neg e1]; exact ⟨k1.1, rfl⟩
    · dsimp only
      rw [h2]
      have := (countP_diff (p := fun k => ufJ s.1 p.1 p.2 k == k) (q := fun k => s.1 k == k) (a := s.1 p.1) (by
        show (ufJ s.1 p.1 p.2 (s.1 p.1) == s.1 p.1) = false
        rw [jb, a1.2, if_pos rfl]
        exact beq_eq_false_iff_ne.mpr (fun z => e z.symm)) (beq_iff_eq.mpr a1.2) (fun k hk => by
        show (ufJ s.1 p.1 p.2 k == k) = (s.1 k == k)
        rw [jb]
        by_cases e1 : s.1 k = s.1 p.1
        · rw [if_pos e1, e1]
          have n1 : (s.1 p.2 == k) = false := by
            refine beq_eq_false_iff_ne.mpr (fun z => ?_)
            rw [← z, b1.2] at e1
            exact e e1.symm
          have n2 : (s.1 p.1 == k) = false := beq_eq_false_iff_ne.mpr (fun z => hk z.symm)
          rw [n1, n2]
        · rw [if_neg e1]) N).1 a1.1
      omega
theorem ufRun_ok {N : Nat} : ∀ (ps : List (Nat × Nat)) (s : (Nat → Nat) × Nat), ufOk N s → (∀ p, p ∈ ps → p.1 < N ∧ p.2 < N) → ufOk N (ps.foldl ufStep s) := by
  intro ps
  induction ps with
  | nil => intro s h _; exact h
  | cons p t ih =>
    intro s h hp
    have := hp p List.mem_cons_self
    exact ih _ (ufStep_ok h this.1 this.2) (fun q hq => hp q (List.mem_cons_of_mem _ hq))
theorem uf0_ok (N : Nat) : ufOk N (fun k => k, N) := by
  refine ⟨fun k hk => ⟨hk, rfl⟩, ?_⟩
  dsimp only
  have : (List.range N).countP (fun k => k == k) = (List.range N).length := by
    rw [List.countP_eq_length]
    intro a _
    exact beq_iff_eq.mpr rfl
  rw [this, List.length_range]
theorem ufStep_mono {s : (Nat → Nat) × Nat} {p : Nat × Nat} {j k : Nat} (h : s.1 j = s.1 k) : (ufStep s p).1 j = (ufStep s p).1 k := by
  unfold ufStep
  split
  · exact h
  · show ufJ s.1 p.1 p.2 j = ufJ s.1 p.1 p.2 k
    unfold ufJ
    rw [h]
theorem ufStep_pair (s : (Nat → Nat) × Nat) (p : Nat × Nat) : (ufStep s p).1 p.1 = (ufStep s p).1 p.2 := by
  unfold ufStep
  by_cases e : s.1 p.1 = s.1 p.2
  · rw [if_pos e]; exact e
  · rw [if_neg e]
    show ufJ s.1 p.1 p.2 p.1 = ufJ s.1 p.1 p.2 p.2
    unfold ufJ
    rw [if_pos rfl]
    split
    · rfl
    · rfl
theorem ufRun_mono {j k : Nat} : ∀ (ps : List (Nat × Nat)) (s : (Nat → Nat) × Nat), s.1 j = s.1 k → (ps.foldl ufStep s).1 j = (ps.foldl ufStep s).1 k := by
  intro ps
  induction ps with
  | nil => intro s h; exact h
  | cons p t ih => intro s h; exact ih _ (ufStep_mono h)
theorem ufRun_pair : ∀ (ps : List (Nat × Nat)) (s : (Nat → Nat) × Nat) (p : Nat × Nat), p ∈ ps → (ps.foldl ufStep s).1 p.1 = (ps.foldl ufStep s).1 p.2 := by
  intro ps
  induction ps with
  | nil => intro s p h; cases h
  | cons q t ih =>
    intro s p h
    rcases List.mem_cons.mp h with e | e
    · subst e; exact ufRun_mono t _ (ufStep_pair s p)
    · exact ih _ p e
/-- what is alike for joined pairs is alike for like labels -/
theorem ufRun_min {N : Nat} {f : Nat → Nat} : ∀ (ps : List (Nat × Nat)) (s : (Nat → Nat) × Nat), (∀ j k, j < N → k < N → s.1 j = s.1 k → f j = f k) → (∀ p, p ∈ ps → p.1 < N ∧ p.2 < N ∧ f p.1 = f p.2) → ∀ j k, j < N → k < N → (ps.foldl ufStep s).1 j = (ps.foldl ufStep s).1 k → f j = f k := by
  intro ps
  induction ps with
  | nil => intro s h _; exact h
  | cons p t ih =>
    intro s h hp
    obtain ⟨p1, p2, p3⟩ := hp p List.mem_cons_self
    refine ih _ (fun j k hj hk he => ?_) (fun q hq => hp q (List.mem_cons_of_mem _ hq))
    unfold ufStep at he
    by_cases e : s.1 p.1 = s.1 p.2
    · rw [if_pos e] at he; exact h j k hj hk he
    · rw [if_neg e] at he
      have he : (if s.1 j = s.1 p.1 then s.1 p.2 else s.1 j) = (if s.1 k = s.1 p.1 then s.1 p.2 else s.1 k) := he
      by_cases e1 : s.1 j = s.1 p.1 <;> by_cases e2 : s.1 k = s.1 p.1
      · exact h j k hj hk (e1.trans e2.symm)
      · rw [if_pos e1, if_neg e2] at he
        rw [h j p.1 hj p1 e1, p3, h p.2 k p2 hk he]
      · rw [if_neg e1, if_pos e2] at he
        rw [h j p.2 hj p2 he, ← p3, h p.1 k p1 hk e2.symm]
      · rw [if_neg e1, if_neg e2] at he
        exact h j k hj hk he
theorem nodup_len {l m : List Nat} (h1 : l.Nodup) (h2 : m.Nodup) (h : ∀ x, x ∈ l ↔ x ∈ m) : l.length = m.length := by
  refine List.Perm.length_eq ((List.perm_iff_count).mpr (fun a => ?_))
  rw [h1.count, h2.count]
  by_cases e : a ∈ l
  · rw [if_pos e, if_pos ((h a).mp e)]
  · rw [if_neg e, if_neg (fun z => e ((h a).mpr z))]
/-- one of each label: as many as are left -/
theorem ufCount {N : Nat} {s : (Nat → Nat) × Nat} (h : ufOk N s) {st : List Nat} (h1 : ∀ x, x ∈ st → x < N) (h2 : (st.map s.1).Nodup) (h3 : ∀ k, k < N → ∃ x, x ∈ st ∧ s.1 k = s.1 x) : st.length = s.2 := by
  rw [h.2, List.countP_eq_length_filter, ← List.length_map (f := s.1)]
  refine nodup_len h2 (List.Pairwise.filter _ List.nodup_range) (fun v => ?_)
  rw [List.mem_map, List.mem_filter, List.mem_range]
  constructor
  · rintro ⟨x, hx, rfl⟩
    have := h.1 x (h1 x hx)
    exact ⟨this.1, beq_iff_eq.mpr this.2⟩
  · rintro ⟨hv, he⟩
    obtain ⟨x, hx, hxe⟩ := h3 v hv
    exact ⟨x, hx, by rw [← hxe]; exact beq_iff_eq.mp he⟩
/-! loops walked -/
def lpW (sg : Nat → Nat) : Nat → List Nat → Nat → List Nat
  | 0, _, _ => []
  | f + 1, seen, w => if w / 2 ∈ seen then [] else (w / 2) :: lpW sg f (seen ++ [w / 2]) (sg w)
def lpF (sg : Nat → Nat) (N : Nat) : Nat → List Nat × List Nat
  | 0 => ([], [])
  | k + 1 => if k ∈ (lpF sg N k).1 then lpF sg N k else ((lpF sg N k).1 ++ lpW sg (N - (lpF sg N k).1.length) (lpF sg N k).1 (2 * k), (lpF sg N k).2 ++ [k])
def itn (sg : Nat → Nat) : Nat → Nat → Nat
  | 0, w => w
  | i + 1, w => sg (itn sg i w)
theorem map_range_at {f : Nat → Nat} {m i j : Nat} (h : ((List.range m).map f).Nodup) (hi : i < m) (hj : j < m) (hij : i ≠ j) : f i ≠ f j := by
  have hp := List.pairwise_map.mp h
  have hw := List.pairwise_iff_getElem.mp hp
  by_cases c : i < j
  · have := hw i j (by rw [List.length_range]; exact hi) (by rw [List.length_range]; exact hj) c
    rwa [List.getElem_range, List.getElem_range] at this
  · have := hw j i (by rw [List.length_range]; exact hj) (by rw [List.length_range]; exact hi) (by omega)
    rw [List.getElem_range, List.getElem_range] at this
    exact this.symm
theorem nodup_app1 {l : List Nat} {a : Nat} (h : l.Nodup) (ha : a ∉ l) : (l ++ [a]).Nodup := by
  rw [List.nodup_append]
  refine ⟨h, (List.nodup_cons.mpr ⟨List.not_mem_nil, List.nodup_nil⟩), fun x hx b hb => ?_⟩
  rw [List.mem_singleton.mp hb]
  intro e
  subst e
  exact ha hx
theorem lpW_it {sg : Nat → Nat} {N w0 : Nat} {G : List Nat} (hs : ∀ w, w < 2 * N → sg w < 2 * N) (hw0 : w0 < 2 * N) : ∀ (f i : Nat), f + (G.length + i) = N → (G ++ (List.range i).map (fun j => itn sg j w0 / 2)).Nodup → (∀ x, x ∈ G ++ (List.range i).map (fun j => itn sg j w0 / 2) → x < N) → itn sg i w0 < 2 * N → ∃ m, i ≤ m ∧ (List.range i).map (fun j => itn sg j w0 / 2) ++ lpW sg f (G ++ (List.range i).map (fun j => itn sg j w0 / 2)) (itn sg i w0) = (List.range m).map (fun j => itn sg j w0 / 2) ∧ (G ++ (List.range m).map (fun j => itn sg j w0 / 2)).Nodup ∧ (∀ x, x ∈ G ++ (List.range m).map (fun j => itn sg j w0 / 2) → x < N) ∧ itn sg m w0 < 2 * N ∧ itn sg m w0 / 2 ∈ G ++ (List.range m).map (fun j => itn sg j w0 / 2) := by
  intro f
  induction f with
  | zero =>
    intro i hi hn hl hw
    refine ⟨i, Nat.le_refl _, by unfold lpW; rw [List.append_nil], hn, hl, hw, ?_⟩
    refine nodup_full hn hl (by rw [List.length_append, List.length_map, List.length_range]; omega) (by omega)
  | succ f ih =>
    intro i hi hn hl hw
    unfold lpW
    by_cases hm : itn sg i w0 / 2 ∈ G ++ (List.range i).map (fun j => itn sg j w0 / 2)
    · rw [if_pos hm]
      exact ⟨i, Nat.le_refl _, by rw [List.append_nil], hn, hl, hw, hm⟩
    · rw [if_neg hm]
      have e1 : (List.range (i + 1)).map (fun j => itn sg j w0 / 2) = (List.range i).map (fun j => itn sg j w0 / 2) ++ [itn sg i w0 / 2] := by
        rw [List.range_succ, List.map_append]; rfl
      have h1 := ih (i + 1) (by omega) (by rw [e1, ← List.append_assoc]; exact nodup_app1 hn hm) (fun x hx => by
        rw [e1, ← List.append_assoc] at hx
        rcases List.mem_append.mp hx with e | e
        · exact hl x e
        · rw [List.mem_singleton.mp e]; omega) (hs _ hw)
      obtain ⟨m, q1, q2, q3, q4, q5, q6⟩ := h1
      refine ⟨m, by omega, ?_, q3, q4, q5, q6⟩
      rw [← q2, e1]
      simp only [List.append_assoc]
      rfl
theorem half_cases {a b : Nat} (h : a / 2 = b / 2) : a = b ∨ a = b ^^^ 1 := by
  have := xor1 b
  omega
section LPA
variable {sg lab : Nat → Nat} {N : Nat}
/-- a walk marks what has its label, nothing else -/
theorem lpW_class (hs : ∀ w, w < 2 * N → sg w < 2 * N) (hinv : ∀ w, w < 2 * N → sg (sg w ^^^ 1) = w ^^^ 1) (hne : ∀ w, w < 2 * N → sg w ≠ w ^^^ 1) (hlab : ∀ w, w < 2 * N → lab (w / 2) = lab (sg w / 2)) (hmin : ∀ f : Nat → Nat, (∀ w, w < 2 * N → f (w / 2) = f (sg w / 2)) → ∀ j k, j < N → k < N → lab j = lab k → f j = f k)
    {G : List Nat} {e : Nat} (he : e < N) (heG : e ∉ G) (hG : G.Nodup) (hGl : ∀ x, x ∈ G → x < N) (hc : ∀ j k, j < N → k < N → lab j = lab k → (j ∈ G ↔ k ∈ G)) :
    (G ++ lpW sg (N - G.length) G (2 * e)).Nodup ∧ (∀ x, x ∈ G ++ lpW sg (N - G.length) G (2 * e) → x < N) ∧ ∀ k, k < N → (k ∈ G ++ lpW sg (N - G.length) G (2 * e) ↔ (k ∈ G ∨ lab k = lab e)) := by
  have hx : ∀ w, w < 2 * N → w ^^^ 1 < 2 * N := fun w hw => by have := xor1 w; omega
  have hll := nodup_le N G hG hGl
  obtain ⟨m, -, h1, h2, h3, h4, h5⟩ := lpW_it (sg := sg) (N := N) (w0 := 2 * e) (G := G) hs (by omega) (N - G.length) 0 (by omega) (by rw [List.range_zero, List.map_nil, List.append_nil]; exact hG) (by rw [List.range_zero, List.map_nil, List.append_nil]; exact hGl) (by show 2 * e < 2 * N; omega)
  rw [List.range_zero, List.map_nil, List.append_nil, List.nil_append] at h1
  have h1 : lpW sg (N - G.length) G (2 * e) = (List.range m).map (fun j => itn sg j (2 * e) / 2) := h1
  rw [h1]
  have lt : ∀ i, itn sg i (2 * e) < 2 * N := by
    intro i
    induction i with
    | zero => show 2 * e < 2 * N; omega
    | succ i ih => exact hs _ ih
  have lb : ∀ i, lab (itn sg i (2 * e) / 2) = lab e := by
    intro i
    induction i with
    | zero => show lab (2 * e / 2) = _; rw [show 2 * e / 2 = e by omega]
    | succ i ih => show lab (sg (itn sg i (2 * e)) / 2) = _; rw [← hlab _ (lt i)]; exact ih
  have inj : ∀ w w', w < 2 * N → w' < 2 * N → sg w = sg w' → w = w' := by
    intro w w' hw hw' hh
    have q1 := hinv w hw
    have q2 := hinv w' hw'
    rw [hh] at q1
    have q3 : w ^^^ 1 = w' ^^^ 1 := by rw [← q1, q2]
    have x1 := xor1 w
    have x2 := xor1 w'
    rw [q3] at x1
    omega
  have dis : ∀ i j, i < m → j < m → i ≠ j → itn sg i (2 * e) / 2 ≠ itn sg j (2 * e) / 2 := by
    intro i j hi hj hij
    rw [List.nodup_append] at h2
    exact map_range_at (f := fun j => itn sg j (2 * e) / 2) h2.2.1 hi hj hij
  -- it comes back to its beginning
  have back : itn sg m (2 * e) = 2 * e ∧ 0 < m := by
    have hG0 : itn sg m (2 * e) / 2 ∉ G := fun z => heG ((hc _ _ (by have := lt m; omega) he (lb m)).mp z)
    rcases List.mem_append.mp h5 with z | z
    · exact absurd z hG0
    · obtain ⟨j, hj, hje⟩ := List.mem_map.mp z
      have hj := List.mem_range.mp hj
      refine ⟨?_, by omega⟩
      obtain ⟨m', rfl⟩ : ∃ m', m = m' + 1 := ⟨m - 1, by omega⟩
      rcases half_cases hje.symm with q | q
      · cases j with
        | zero => exact q
        | succ j =>
          have := inj _ _ (lt m') (lt j) q
          exact absurd (congrArg (· / 2) this) (dis m' j (by omega) (by omega) (by omega))
      · have q1 : sg (itn sg j (2 * e)) = itn sg m' (2 * e) ^^^ 1 := by
          have := hinv _ (lt m')
          rw [show sg (itn sg m' (2 * e)) = itn sg (m' + 1) (2 * e) from rfl, q] at this
          have x1 := xor1 (itn sg j (2 * e))
          have x2 := xor1 (itn sg j (2 * e) ^^^ 1)
          rw [show itn sg j (2 * e) ^^^ 1 ^^^ 1 = itn sg j (2 * e) by omega] at this
          exact this
        by_cases c : j = m'
        · subst c
          exact absurd q1 (hne _ (lt j))
        · have x1 := xor1 (itn sg m' (2 * e))
          have q2 : itn sg (j + 1) (2 * e) = itn sg m' (2 * e) ^^^ 1 := q1
          by_cases c2 : j + 1 = m'
          · subst c2; omega
          · exact absurd (by rw [q2]; exact x1.1) (dis (j + 1) m' (by omega) (by omega) c2)
  have mem : ∀ k, k ∈ (List.range m).map (fun j => itn sg j (2 * e) / 2) ↔ ∃ j, j < m ∧ itn sg j (2 * e) / 2 = k := by
    intro k
    rw [List.mem_map]
    constructor
    · rintro ⟨j, hj, q⟩; exact ⟨j, List.mem_range.mp hj, q⟩
    · rintro ⟨j, hj, q⟩; exact ⟨j, List.mem_range.mpr hj, q⟩
  -- its edges are closed under going on
  have step : ∀ w, w < 2 * N → w / 2 ∈ (List.range m).map (fun j => itn sg j (2 * e) / 2) → sg w / 2 ∈ (List.range m).map (fun j => itn sg j (2 * e) / 2) := by
    intro w hw hwm
    obtain ⟨j, hj, q⟩ := (mem _).mp hwm
    rcases half_cases q.symm with c | c
    · subst c
      by_cases c2 : j + 1 < m
      · exact (mem _).mpr ⟨j + 1, c2, rfl⟩
      · refine (mem _).mpr ⟨0, back.2, ?_⟩
        have : sg (itn sg j (2 * e)) = itn sg m (2 * e) := by rw [show m = j + 1 by omega]; rfl
        rw [this, back.1]; rfl
    · subst c
      -- against its way: to the one ahead
      have key : ∀ i, i < m → sg (itn sg (i + 1) (2 * e) ^^^ 1) = itn sg i (2 * e) ^^^ 1 := fun i _ => hinv _ (lt i)
      cases j with
      | zero =>
        obtain ⟨m', rfl⟩ : ∃ m', m = m' + 1 := ⟨m - 1, by omega⟩
        have := key m' (by omega)
        rw [back.1] at this
        show sg (2 * e ^^^ 1) / 2 ∈ _
        rw [this, (xor1 _).1]
        exact (mem _).mpr ⟨m', by omega, rfl⟩
      | succ j =>
        rw [key j (by omega), (xor1 _).1]
        exact (mem _).mpr ⟨j, by omega, rfl⟩
  have closed : ∀ w, w < 2 * N → (w / 2 ∈ (List.range m).map (fun j => itn sg j (2 * e) / 2) ↔ sg w / 2 ∈ (List.range m).map (fun j => itn sg j (2 * e) / 2)) := by
    intro w hw
    refine ⟨step w hw, fun h => ?_⟩
    have h6 := hs w hw
    have := step (sg w ^^^ 1) (hx _ h6) (by rw [(xor1 _).1]; exact h)
    rwa [hinv w hw, (xor1 _).1] at this
  refine ⟨h2, h3, fun k hk => ?_⟩
  rw [List.mem_append]
  constructor
  · rintro (z | z)
    · exact Or.inl z
    · obtain ⟨j, hj, q⟩ := (mem _).mp z
      right
      rw [← q]; exact lb j
  · rintro (z | z)
    · exact Or.inl z
    · right
      have := hmin (fun k => if k ∈ (List.range m).map (fun j => itn sg j (2 * e) / 2) then 1 else 0) (fun w hw => by
        show (if w / 2 ∈ (List.range m).map (fun j => itn sg j (2 * e) / 2) then 1 else 0) = (if sg w / 2 ∈ (List.range m).map (fun j => itn sg j (2 * e) / 2) then 1 else 0)
        by_cases c : w / 2 ∈ (List.range m).map (fun j => itn sg j (2 * e) / 2)
        · rw [if_pos c, if_pos ((closed w hw).mp c)]
        · rw [if_neg c, if_neg (fun z => c ((closed w hw).mpr z))]) k e hk he z
      have this : (if k ∈ (List.range m).map (fun j => itn sg j (2 * e) / 2) then 1 else 0) = (if e ∈ (List.range m).map (fun j => itn sg j (2 * e) / 2) then 1 else 0) := this
      have e0 : e ∈ (List.range m).map (fun j => itn sg j (2 * e) / 2) := (mem _).mpr ⟨0, back.2, by show 2 * e / 2 = e; omega⟩
      rw [if_pos e0] at this
      apply Classical.byContradiction
      intro c
      rw [if_neg c] at this
      omega
theorem lpF_count (hs : ∀ w, w < 2 * N → sg w < 2 * N) (hinv : ∀ w, w < 2 * N → sg (sg w ^^^ 1) = w ^^^ 1) (hne : ∀ w, w < 2 * N → sg w ≠ w ^^^ 1) (hlab : ∀ w, w < 2 * N → lab (w / 2) = lab (sg w / 2)) (hmin : ∀ f : Nat → Nat, (∀ w, w < 2 * N → f (w / 2) = f (sg w / 2)) → ∀ j k, j < N → k < N → lab j = lab k → f j = f k) :
    ∀ k, k ≤ N → (lpF sg N k).1.Nodup ∧ (∀ x, x ∈ (lpF sg N k).1 → x < N) ∧ (∀ x, x ∈ (lpF sg N k).2 → x < k) ∧ ((lpF sg N k).2.map lab).Nodup ∧ (∀ j, j < N → (j ∈ (lpF sg N k).1 ↔ ∃ x, x ∈ (lpF sg N k).2 ∧ lab j = lab x)) ∧ (∀ j, j < k → j ∈ (lpF sg N k).1) := by
  intro k
  induction k with
  | zero => intro _; exact ⟨List.nodup_nil, fun x hx => absurd hx List.not_mem_nil, fun x hx => absurd hx List.not_mem_nil, List.nodup_nil, fun j _ => ⟨fun z => absurd z List.not_mem_nil, fun ⟨x, z, _⟩ => absurd z List.not_mem_nil⟩, fun j hj => absurd hj (Nat.not_lt_zero _)⟩
  | succ k ih =>
    intro hk
    obtain ⟨h1, h2, h3, h4, h5, h6⟩ := ih (by omega)
    have hc : ∀ i j, i < N → j < N → lab i = lab j → (i ∈ (lpF sg N k).1 ↔ j ∈ (lpF sg N k).1) := by
      intro i j hi hj hh
      rw [h5 i hi, h5 j hj, hh]
    unfold lpF
    by_cases hm : k ∈ (lpF sg N k).1
    · rw [if_pos hm]
      refine ⟨h1, h2, fun x hx => by have := h3 x hx; omega, h4, h5, fun j hj => ?_⟩
      by_cases e : j = k
      · subst e; exact hm
      · exact h6 j (by omega)
    · rw [if_neg hm]
      obtain ⟨g1, g2, g3⟩ := lpW_class hs hinv hne hlab hmin (show k < N by omega) hm h1 h2 hc
      refine ⟨g1, g2, fun x hx => ?_, ?_, fun j hj => ?_, fun j hj => ?_⟩
      · rcases List.mem_append.mp hx with z | z
        · have := h3 x z; omega
        · rw [List.mem_singleton.mp z]; omega
      · dsimp only
        rw [List.map_append]
        refine nodup_app1 h4 (fun z => ?_)
        obtain ⟨x, hx, hxe⟩ := List.mem_map.mp z
        exact hm ((h5 k (by omega)).mpr ⟨x, hx, hxe.symm⟩)
      · rw [g3 j hj, h5 j hj]
        constructor
        · rintro (⟨x, hx, hxe⟩ | z)
          · exact ⟨x, List.mem_append_left _ hx, hxe⟩
          · exact ⟨k, List.mem_append_right _ (List.mem_singleton.mpr rfl), z⟩
        · rintro ⟨x, hx, hxe⟩
          rcases List.mem_append.mp hx with z | z
          · exact Or.inl ⟨x, z, hxe⟩
          · rw [List.mem_singleton.mp z] at hxe; exact Or.inr hxe
      · rw [g3 j (by omega)]
        by_cases e : j = k
        · subst e; exact Or.inr rfl
        · exact Or.inl (h6 j (by omega))
end LPA

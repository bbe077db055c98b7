/-! rings strung, in the class -/
section RDK
variable {K W : Nat → Int} {T : Nat}
theorem rdU_L : ∀ t, (∀ j, j < t → rdPass K W j) → ∀ u, u ∈ rdU K W t → ∃ j, j < (rdT K t).length ∧ W ((rdT K t).getD j 0) = u := by
  intro t
  induction t with
  | zero => intro _ u h; exact absurd h (by simp [rdU])
  | succ t ih =>
    intro h u hu
    have eT : rdT K (t + 1) = if K t = 6 ∧ rdS K t ≠ 5 then rdT K t ++ [t] else rdT K t := rfl
    have hu' : u ∈ (if K t = 6 ∧ rdS K t = 2 ∧ W t ∉ rdU K W t then rdU K W t ++ [W t] else rdU K W t) := hu
    have old : u ∈ rdU K W t → ∃ j, j < (rdT K (t + 1)).length ∧ W ((rdT K (t + 1)).getD j 0) = u := by
      intro q
      obtain ⟨j, a, b⟩ := ih (fun j hj => h j (by omega)) u q
      rw [eT]
      split
      · exact ⟨j, by rw [List.length_append]; omega, by rw [gd_appl a]; exact b⟩
      · exact ⟨j, a, b⟩
    split at hu'
    · rename_i hc
      rcases List.mem_append.mp hu' with q | q
      · exact old q
      · have e := List.mem_singleton.mp q
        rw [eT, if_pos ⟨hc.1, by omega⟩]
        exact ⟨(rdT K t).length, by rw [List.length_append, List.length_singleton]; omega, by rw [gd_appr (Nat.le_refl _), Nat.sub_self, gd_cons0, e]⟩
    · exact old hu'
/-- rings told to the end -/
def rgS (K W : Nat → Int) (T : Nat) : Prop := (∀ j, j < T → rdPass K W j) ∧ (T = 0 ∨ K 0 = 2) ∧ T ≤ 400 ∧ (rdS K T = 0 ∨ rdS K T = 4)
theorem rgS.len (h : rgS K W T) : (rdT K T).length ≤ 134 ∧ (rdF K T).length ≤ 4 ∧ (rdU K W T).length ≤ 8 := by
  have w := rdWell_all T h.1
  have a := w.l (by have := h.2.2.2; omega)
  have b := h.2.2.1
  exact ⟨by omega, w.f, w.u⟩
theorem rgS.k2 (h : rgS K W T) {j : Nat} (hj : j < (rdT K T).length) : K 0 = 2 := by
  rcases h.2.1 with z | z
  · subst z; exact absurd hj (Nat.not_lt_zero _)
  · exact z
theorem rgS.at (h : rgS K W T) {i : Nat} (hi : i < (rdT K T).length) : 1 ≤ (rdT K T).getD i 0 ∧ (rdT K T).getD i 0 < T ∧ K ((rdT K T).getD i 0) = 6 ∧ W ((rdT K T).getD i 0) ∈ rdU K W T := by
  obtain ⟨a, b, c, _, e⟩ := rdT_mem T h.1 _ (gd_mem hi)
  exact ⟨a, b, c, (e (h.k2 hi)).2.1⟩
theorem rgS.flat (h : rgS K W T) : (rdR K W (rdU K W T) T).flatten = (rdT K T).map (rdX K W (rdU K W T)) := by
  rcases h.2.1 with z | z
  · subst z; rfl
  · exact rdR_flat T h.1 z
theorem rgS.take (h : rgS K W T) {r : Nat} (hr : r < (rdF K T).length) : ((rdR K W (rdU K W T) T).take r).flatten.length = (rdF K T).getD r 0 := by
  rcases h.2.1 with z | z
  · subst z; exact absurd hr (Nat.not_lt_zero _)
  · exact rdR_take T h.1 z r hr
/-- rings whose meaning stands -/
def rgG (K W : Nat → Int) (T : Nat) : Prop := rgS K W T ∧ (∀ j, j < (rdT K T).length → rfb K W (rdT K T) j = 0) ∧ (∀ j, j < (rdT K T).length → (rcc W (rdT K T) (rdT K T).length (W ((rdT K T).getD j 0))).length ≠ 1)
theorem rgG.ok (h : rgG K W T) : rwOk (rdRw K W T) := by
  obtain ⟨s, h1, h2⟩ := h
  obtain ⟨l1, l2, l3⟩ := s.len
  refine ⟨?_, ?_, ?_, fun x hx => ?_⟩
  · show (rdR K W (rdU K W T) T).length ≤ 4
    rw [rdR_len]; exact l2
  · show ((rdU K W T).map _).length ≤ 8
    rw [List.length_map]; exact l3
  · show (rdR K W (rdU K W T) T).flatten.Perm (List.range (2 * ((rdU K W T).map _).length))
    rw [List.length_map, s.flat]
    exact rdX_perm h1 h2 (fun j hj => (s.at hj).2.2.2) (rdU_nodup T) (rdU_L T s.1)
  · obtain ⟨v, _, e⟩ := List.mem_map.mp hx
    split at e <;> omega
theorem rgG.sign (h : rgG K W T) {j : Nat} (hj : j < (rdT K T).length) : (rdRw K W T).2.getD (rix (rdU K W T) (W ((rdT K T).getD j 0))) 0 = if rdSg K ((rdT K T).getD j 0) = 1 then 1 else -1 := by
  obtain ⟨s, h1, h2⟩ := h
  obtain ⟨m1, m2⟩ := rix_mem (s.at hj).2.2.2
  have e : (rdRw K W T).2 = (rdU K W T).map (fun v => if rdSg K ((rcc W (rdT K T) (rdT K T).length v).getD 0 0) = 1 then 1 else -1) := rfl
  rw [e, gd_map (z := 0) m1, m2]
  have m := rcc_in (W := W) (L := rdT K T) hj (Nat.le_refl _)
  rcases rcc_three (K := K) (W := W) (L := rdT K T) _ (Nat.le_refl _) h1 (W ((rdT K T).getD j 0)) with t | ⟨a, t⟩ | ⟨a, b, t, _, t3⟩
  · rw [t] at m; exact absurd m (by simp)
  · rw [t] at m ⊢
    rw [List.mem_singleton.mp m]; rfl
  · rw [t] at m ⊢
    rcases List.mem_cons.mp m with q | q
    · rw [q]; rfl
    · rw [List.mem_singleton.mp q, ← t3]; rfl
end RDK
section STR
variable {xs : Nat → Int32} {Lx d : Nat} {V : km_V} {K W : Nat → Int} {P : Nat → Nat} {T r : Nat}
theorem sp_string {G : km_V → Prop} (hr : km_sh[r]? = some (5, 5)) (hr2 : 12 < r) (hg : rgG K W T) (hR : kRv V K W P (rdT K T) (rdU K W T)) (h3 : V 3 3 = ((rdF K T).length : Int)) (h4 : ∀ i, i < (rdF K T).length → V 4 i = ((rdF K T).getD i 0 : Int)) (k : ∀ X, kRC X r (rdRw K W T) → (∀ b j, ¬ (r ≤ b ∧ b ≤ r + 3 ∨ b = 4) → X b j = V b j) → G X) : kCV xs Lx (d + 0) 52 3 [.ref 3, .ref r] V G := by
  have hg' := hg
  obtain ⟨s, hf, hn⟩ := hg'
  obtain ⟨l1, l2, l3⟩ := s.len
  obtain ⟨r7, r6, rI⟩ := hR
  have l16 := rdX_le (K := K) (U := rdU K W T) (Nat.le_refl _) hf (fun j hj => (s.at hj).2.2.2)
  have lR := rdR_len (K := K) (W := W) (U := rdU K W T) T
  have e1 : (rdRw K W T).1 = rdR K W (rdU K W T) T := rfl
  have en : rwn (rdRw K W T) = (rdU K W T).length := by show ((rdU K W T).map _).length = _; rw [List.length_map]
  have eP : rwP (rdRw K W T) = (rdT K T).map (rdX K W (rdU K W T)) := s.flat
  have eF : ∀ i, i ≤ (rdF K T).length → (rwF (rdRw K W T) i : Int) = if i = (rdF K T).length then ((rdT K T).length : Int) else V 4 i := by
    intro i hi
    by_cases q : i = (rdF K T).length
    · rw [if_pos q, q, ← lR, ← e1, rwF_all, eP, List.length_map]
    · rw [if_neg q, h4 i (by omega), ← s.take (by omega)]
      rfl
  refine b52_0 hr ?_
  rw [up_ne (show ¬ (3 = r ∧ 6 = 0) by omega), up_ne (show ¬ (3 = r ∧ 3 = 1) by omega), up_ne (show ¬ (3 = r ∧ 3 = 0) by omega), up_ne (show ¬ (3 = r ∧ 7 = 1) by omega), up_ne (show ¬ (3 = r ∧ 7 = 0) by omega), h3, r6, r7, tn]
  refine ⟨⟨by omega, by omega⟩, ?_⟩
  refine kloop ((rdF K T).length + 1) (fun i X => X r 0 = ((rdF K T).length : Int) ∧ X r 1 = ((rdU K W T).length : Int) ∧ (∀ i', i' < i → X (r + 1) i' = (rwF (rdRw K W T) i' : Int)) ∧ (∀ i', i' ≤ (rdF K T).length → X 4 i' = (rwF (rdRw K W T) i' : Int)) ∧ (∀ b j, ¬ (r ≤ b ∧ b ≤ r + 3 ∨ b = 4) → X b j = V b j)) (fun i X => kGo xs Lx (d + 0) 52 31 [some (.ref 3), some (.ref r), some (kI (i : Int))] [] X (fun r V' => r = none ∧ G V')) (fun X hX => ?_) (fun i X hi hX ih => ?_) 0 _ (Nat.zero_le _) ⟨?_, ?_, fun i' h => absurd h (Nat.not_lt_zero _), fun i' hi' => ?_, fun b j hb => ?_⟩
  · obtain ⟨x1, x2, x3, x4, x5⟩ := hX
    refine b52_31 hr ?_
    rw [x5 3 3 (by omega), h3]
    refine ⟨by omega, by omega, fun _ => ?_, fun l => by omega⟩
    refine kloop (rdT K T).length (fun i X => X r 0 = ((rdF K T).length : Int) ∧ X r 1 = ((rdU K W T).length : Int) ∧ (∀ i', i' ≤ (rdF K T).length → X (r + 1) i' = (rwF (rdRw K W T) i' : Int)) ∧ (∀ p, p < i → X (r + 2) p = (rdX K W (rdU K W T) ((rdT K T).getD p 0) : Int)) ∧ (∀ p, p < i → X (r + 3) (rix (rdU K W T) (W ((rdT K T).getD p 0))) = (rdRw K W T).2.getD (rix (rdU K W T) (W ((rdT K T).getD p 0))) 0) ∧ (∀ b j, ¬ (r ≤ b ∧ b ≤ r + 3 ∨ b = 4) → X b j = V b j)) (fun i X => kGo xs Lx (d + 0) 52 59 [some (.ref 3), some (.ref r), some (kI (i : Int))] [] X (fun r V' => r = none ∧ G V')) (fun X hX => ?_) (fun i X hi hX ih => ?_) 0 X (Nat.zero_le _) ⟨x1, x2, fun i' h => x3 i' (by omega), fun p h => absurd h (Nat.not_lt_zero _), fun p h => absurd h (Nat.not_lt_zero _), x5⟩
    · obtain ⟨y1, y2, y3, y4, y5, y6⟩ := hX
      refine b52_59 hr ?_
      rw [y6 3 7 (by omega), r7]
      refine ⟨by omega, by omega, fun _ => ⟨rfl, k X ⟨?_, ?_, fun i hi => ?_, fun p hp => ?_, fun c hc => ?_⟩ y6⟩, fun l => by omega⟩
      · rw [e1, lR]; exact y1
      · rw [en]; exact y2
      · rw [e1, lR] at hi
        exact y3 i hi
      · rw [eP, List.length_map] at hp
        rw [eP, gd_map (z := 0) hp]
        exact y4 p hp
      · rw [en] at hc
        obtain ⟨j, hj, ej⟩ := rdU_L T s.1 _ (gd_mem (z := 0) hc)
        have := y5 j hj
        rw [rix_at (rdU_nodup T) hc ej.symm] at this
        exact this
    · obtain ⟨y1, y2, y3, y4, y5, y6⟩ := hX
      obtain ⟨s5, s6, s8, s9, c, hc, s7, sU⟩ := rI i hi
      have hc' : rix (rdU K W T) (W ((rdT K T).getD i 0)) = c := rix_at (rdU_nodup T) hc sU
      have sg := hg.sign hi
      rw [hc'] at sg
      have o := rdX_div (K := K) (W := W) (U := rdU K W T) ((rdT K T).getD i 0)
      rw [hc'] at o
      have rO := rdOv_r K ((rdT K T).getD i 0)
      have rS := rdSg_r K ((rdT K T).getD i 0)
      have z7 : X 7 i = (c : Int) := by rw [y6 7 i (by omega)]; exact s7
      have z8 : X 8 i = rdOv K ((rdT K T).getD i 0) := by rw [y6 8 i (by omega)]; exact s8
      have z9 : X 9 i = rdSg K ((rdT K T).getD i 0) := by rw [y6 9 i (by omega)]; exact s9
      have next : ∀ v sgn : Int, v = (rdX K W (rdU K W T) ((rdT K T).getD i 0) : Int) → sgn = (rdRw K W T).2.getD c 0 → kGo xs Lx (d + 0) 52 59 [some (.ref 3), some (.ref r), some (kI ((i + 1 : Nat) : Int))] [] (up (up X (r + 2) i v) (r + 3) c sgn) (fun r V' => r = none ∧ G V') := by
        intro v sgn hv hs
        refine ih _ ⟨?_, ?_, fun i' hi' => ?_, fun p hp => ?_, fun p hp => ?_, fun b j hb => ?_⟩
        · rw [up_ne (by omega), up_ne (by omega)]; exact y1
        · rw [up_ne (by omega), up_ne (by omega)]; exact y2
        · rw [up_ne (by omega), up_ne (by omega)]; exact y3 i' hi'
        · rw [up_ne (by omega)]
          by_cases q : p = i
          · subst q; rw [up_at]; exact hv
          · rw [up_ne (by omega)]; exact y4 p (by omega)
        · by_cases q : rix (rdU K W T) (W ((rdT K T).getD p 0)) = c
          · rw [q, up_at]; exact hs
          · rw [up_ne (by omega), up_ne (by omega)]
            by_cases q2 : p = i
            · subst q2; exact absurd hc' q
            · exact y5 p (by omega)
        · rw [up_ne (by omega), up_ne (by omega)]; exact y6 b j hb
      refine b52_59 hr ?_
      rw [y6 3 7 (by omega), r7, tn]
      have u9 : ∀ v, up X (r + 2) i v 9 i = X 9 i := fun v => up_ne (by omega)
      have u7 : ∀ v, up X (r + 2) i v 7 i = X 7 i := fun v => up_ne (by omega)
      simp only [u9, u7]
      rw [z7, z8, z9, tn]
      refine ⟨by omega, by omega, fun l => by omega, fun _ => ⟨fun l => by omega, fun _ => ⟨⟨by omega, by omega⟩, ⟨by omega, by omega⟩, fun o0 => ⟨⟨by omega, by omega⟩, ⟨by omega, by omega⟩, fun s0 => ⟨⟨by omega, by omega⟩, next _ _ (by omega) ?_⟩, fun s1 => ⟨⟨by omega, by omega⟩, next _ _ (by omega) ?_⟩⟩, fun o1 => ⟨⟨by omega, by omega⟩, ⟨by omega, by omega⟩, fun s0 => ⟨⟨by omega, by omega⟩, next _ _ (by omega) ?_⟩, fun s1 => ⟨⟨by omega, by omega⟩, next _ _ (by omega) ?_⟩⟩⟩⟩⟩
      · rw [sg, if_neg (by omega)]
      · rw [sg, if_pos (by omega)]
      · rw [sg, if_neg (by omega)]
      · rw [sg, if_pos (by omega)]
  · obtain ⟨x1, x2, x3, x4, x5⟩ := hX
    refine b52_31 hr ?_
    rw [x5 3 3 (by omega), h3, tn]
    refine ⟨by omega, by omega, fun l => by omega, fun _ => ⟨⟨by omega, by omega⟩, ih _ ⟨?_, ?_, fun i' hi' => ?_, fun i' hi' => ?_, fun b j hb => ?_⟩⟩⟩
    · rw [up_ne (by omega)]; exact x1
    · rw [up_ne (by omega)]; exact x2
    · by_cases q : i' = i
      · subst q; rw [up_at]; exact x4 i' (by omega)
      · rw [up_ne (by omega)]; exact x3 i' (by omega)
    · rw [up_ne (by omega)]; exact x4 i' hi'
    · rw [up_ne (by omega)]; exact x5 b j hb
  · rw [up_ne (by omega), up_ne (by omega), up_at]
  · rw [up_ne (by omega), up_at]
  · rw [eF i' hi']
    by_cases q : i' = (rdF K T).length
    · subst q; rw [if_pos rfl, up_at]
    · rw [if_neg q, up_ne (by omega), up_ne (by omega), up_ne (by omega)]
  · rw [up_ne (by omega), up_ne (by omega), up_ne (by omega)]
end STR

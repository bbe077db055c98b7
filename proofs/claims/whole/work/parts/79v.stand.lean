/-! what rings mean: the first fault -/
theorem nd_inj {α : Type} {l : List α} {z : α} (h : l.Nodup) {i j : Nat} (hi : i < l.length) (hj : j < l.length) (e : l.getD i z = l.getD j z) : i = j := by
  rw [gd_lt hi, gd_lt hj] at e
  have hw := List.pairwise_iff_getElem.mp h
  by_cases h1 : i < j
  · exact absurd e (hw i j hi hj h1)
  · by_cases h2 : j < i
    · exact absurd e.symm (hw j i hj hi h2)
    · omega
def rcc (W : Nat → Int) (L : List Nat) (i : Nat) (v : Int) : List Nat := (L.take i).filter (fun j => decide (W j = v))
def rfb (K W : Nat → Int) (L : List Nat) (i : Nat) : Int := if 99 < W (L.getD i 0) then 5 else if rcc W L i (W (L.getD i 0)) = [] ∨ ((rcc W L i (W (L.getD i 0))).length = 1 ∧ rdOv K ((rcc W L i (W (L.getD i 0))).getD 0 0) ≠ rdOv K (L.getD i 0) ∧ rdSg K ((rcc W L i (W (L.getD i 0))).getD 0 0) = rdSg K (L.getD i 0)) then 0 else 3
def rMean (K W : Nat → Int) (P : Nat → Nat) (L : List Nat) (f : Int) (p : Nat) : Prop := (∃ i, i < L.length ∧ (∀ j, j < i → rfb K W L j = 0) ∧ rfb K W L i ≠ 0 ∧ f = rfb K W L i ∧ p = P (L.getD i 0)) ∨ ((∀ j, j < L.length → rfb K W L j = 0) ∧ ∃ i, i < L.length ∧ (∀ j, j < i → (rcc W L L.length (W (L.getD j 0))).length ≠ 1) ∧ (rcc W L L.length (W (L.getD i 0))).length = 1 ∧ f = 4 ∧ p = P (L.getD i 0)) ∨ ((∀ j, j < L.length → rfb K W L j = 0) ∧ (∀ j, j < L.length → (rcc W L L.length (W (L.getD j 0))).length ≠ 1) ∧ f = 0 ∧ p = 0)
theorem rcc_succ {W : Nat → Int} {L : List Nat} {i : Nat} {v : Int} (h : i < L.length) : rcc W L (i + 1) v = if W (L.getD i 0) = v then rcc W L i v ++ [L.getD i 0] else rcc W L i v := by
  unfold rcc
  rw [take_gd 0 h, List.filter_append]
  by_cases q : W (L.getD i 0) = v
  · rw [if_pos q, List.filter_cons_of_pos (by simpa using q)]; rfl
  · rw [if_neg q, List.filter_cons_of_neg (by simpa using q)]; simp
theorem rcc_zero {W : Nat → Int} {L : List Nat} {v : Int} : rcc W L 0 v = [] := rfl
theorem rcc_len {W : Nat → Int} {L : List Nat} {i : Nat} {v : Int} : (rcc W L i v).length ≤ i := by
  unfold rcc
  exact Nat.le_trans (List.length_filter_le _ _) (by rw [List.length_take]; omega)
theorem rcc_mem {W : Nat → Int} {L : List Nat} {i : Nat} {v : Int} {x : Nat} (h : x ∈ rcc W L i v) : W x = v ∧ ∃ j, j < i ∧ j < L.length ∧ L.getD j 0 = x := by
  unfold rcc at h
  obtain ⟨a, b⟩ := List.mem_filter.mp h
  obtain ⟨j, hj, e⟩ := List.getElem_of_mem a
  rw [List.length_take] at hj
  rw [List.getElem_take] at e
  exact ⟨by simpa using b, j, by omega, by omega, by rw [gd_lt (by omega), e]⟩
theorem rfb_r {K W : Nat → Int} {L : List Nat} {i : Nat} : rfb K W L i = 0 ∨ rfb K W L i = 3 ∨ rfb K W L i = 5 := by
  unfold rfb; (repeat' split) <;> omega
theorem rMean_uni {K W : Nat → Int} {P : Nat → Nat} {L : List Nat} {f f' : Int} {p p' : Nat} (h : rMean K W P L f p) (h' : rMean K W P L f' p') : f = f' ∧ p = p' := by
  rcases h with ⟨i, a1, a2, a3, a4, a5⟩ | ⟨a0, i, a1, a2, a3, a4, a5⟩ | ⟨a0, a1, a4, a5⟩
  · rcases h' with ⟨i', b1, b2, b3, b4, b5⟩ | ⟨b0, _⟩ | ⟨b0, _⟩
    · have : i = i' := by
        apply Decidable.byContradiction
        intro n
        by_cases l : i < i'
        · exact a3 (b2 i l)
        · exact b3 (a2 i' (by omega))
      subst this
      exact ⟨by rw [a4, b4], by rw [a5, b5]⟩
    · exact absurd (b0 i a1) a3
    · exact absurd (b0 i a1) a3
  · rcases h' with ⟨i', b1, b2, b3, b4, b5⟩ | ⟨b0, i', b1, b2, b3, b4, b5⟩ | ⟨b0, b1, _⟩
    · exact absurd (a0 i' b1) b3
    · have : i = i' := by
        apply Decidable.byContradiction
        intro n
        by_cases l : i < i'
        · exact b2 i l a3
        · exact a2 i' (by omega) b3
      subst this
      exact ⟨by rw [a4, b4], by rw [a5, b5]⟩
    · exact absurd a3 (b1 i a1)
  · rcases h' with ⟨i', b1, b2, b3, b4, b5⟩ | ⟨b0, i', b1, b2, b3, b4, b5⟩ | ⟨b0, b1, b4, b5⟩
    · exact absurd (a0 i' b1) b3
    · exact absurd b3 (a1 i' b1)
    · exact ⟨by rw [a4, b4], by rw [a5, b5]⟩
theorem rdOv_r (K : Nat → Int) (j : Nat) : rdOv K j = 0 ∨ rdOv K j = 1 := by
  unfold rdOv; split <;> omega
theorem rdSg_r (K : Nat → Int) (j : Nat) : rdSg K j = 0 ∨ rdSg K j = 1 := by
  unfold rdSg; (repeat' split) <;> omega
/-- the reader's cells of rings told -/
def kRv (V : km_V) (K W : Nat → Int) (P : Nat → Nat) (L : List Nat) (U : List Int) : Prop := V 3 7 = (L.length : Int) ∧ V 3 6 = (U.length : Int) ∧ ∀ i, i < L.length → V 5 i = W (L.getD i 0) ∧ V 6 i = (P (L.getD i 0) : Int) ∧ V 8 i = rdOv K (L.getD i 0) ∧ V 9 i = rdSg K (L.getD i 0) ∧ ∃ c : Nat, c < U.length ∧ V 7 i = (c : Int) ∧ U.getD c 0 = W (L.getD i 0)
theorem kRv.fr {V X : km_V} {K W : Nat → Int} {P : Nat → Nat} {L : List Nat} {U : List Int} (h : kRv V K W P L U) (f : ∀ b j, ¬ (b = 3 ∧ j < 2) → 3 ≤ b ∧ b ≤ 10 → X b j = V b j) : kRv X K W P L U := by
  obtain ⟨h1, h2, h3⟩ := h
  refine ⟨by rw [f 3 7 (by omega) (by omega)]; exact h1, by rw [f 3 6 (by omega) (by omega)]; exact h2, fun i hi => ?_⟩
  rw [f 5 i (by omega) (by omega), f 6 i (by omega) (by omega), f 7 i (by omega) (by omega), f 8 i (by omega) (by omega), f 9 i (by omega) (by omega)]
  exact h3 i hi
section RST
variable {xs : Nat → Int32} {Lx d : Nat} {V : km_V} {K W : Nat → Int} {P : Nat → Nat} {L : List Nat} {U : List Int}
theorem sp_isPartner {a b : Nat} {m : Int} {G : Int → km_V → Prop} (hR : kRv V K W P L U) (ha : m = 1 → a < L.length) (hb : b < L.length) (hl : L.length ≤ 134) (hm : kR m) (va : m = 1 → True) (k : ∀ y : Int, (y = 1 ↔ m = 1 ∧ rdOv K (L.getD a 0) ≠ rdOv K (L.getD b 0) ∧ rdSg K (L.getD a 0) = rdSg K (L.getD b 0)) → (y = 0 ∨ y = 1) → G y V) {x : Int} (hx : m = 1 → x = (a : Int)) : kCI xs Lx (d + 0) 51 4 [.ref 3, kI x, kI (b : Int), kI m] V G := by
  refine b51_0 ⟨hm, fun n => ⟨_, rfl, k 0 ⟨fun q => by omega, fun q => absurd q.1 n⟩ (Or.inl rfl)⟩, fun e => ?_⟩
  have ha' := ha e
  have ob := hR.2.2 b hb
  have oa := hR.2.2 a ha'
  rw [hx e, tn, tn, oa.2.2.1, ob.2.2.1, oa.2.2.2.1, ob.2.2.2.1]
  have r1 := rdOv_r K (L.getD a 0)
  have r2 := rdOv_r K (L.getD b 0)
  have r3 := rdSg_r K (L.getD a 0)
  have r4 := rdSg_r K (L.getD b 0)
  refine ⟨⟨by omega, by omega⟩, ⟨by omega, by omega⟩, ⟨by omega, by omega⟩, ⟨by omega, by omega⟩, fun q => ⟨_, rfl, k 0 ⟨fun z => by omega, fun z => absurd q z.2.1⟩ (Or.inl rfl)⟩, fun q => ⟨⟨by omega, by omega⟩, ⟨by omega, by omega⟩, fun q2 => ⟨_, rfl, k 0 ⟨fun z => by omega, fun z => absurd z.2.2 q2⟩ (Or.inl rfl)⟩, fun q2 => ⟨_, rfl, k 1 ⟨fun _ => ⟨e, q, q2⟩, fun _ => rfl⟩ (Or.inr rfl)⟩⟩⟩
theorem sp_ringsStand {G : Int → km_V → Prop} (hR : kRv V K W P L U) (hl : L.length ≤ 134) (hU : U.length ≤ 8) (nd : U.Nodup) (kW : ∀ i, i < L.length → kR (W (L.getD i 0))) (k : ∀ f p X, rMean K W P L f p → (f ≠ 0 → X 3 0 = f ∧ X 3 1 = (p : Int)) → (∀ b j, ¬ (b = 11 ∨ b = 12 ∨ b = 3 ∧ j < 2) → X b j = V b j) → G (if f = 0 then 1 else 0) X) : kCI xs Lx (d + 1) 50 3 [.ref 3] V G := by
  have uinj : ∀ c c', c < U.length → c' < U.length → U.getD c 0 = U.getD c' 0 → c = c' := fun c c' h1 h2 e => nd_inj nd h1 h2 e
  refine b50_0 ?_
  -- the counts are set back
  refine kloop U.length (fun c X => (∀ c', c' < c → X 11 c' = 0) ∧ (∀ b j, b ≠ 11 → X b j = V b j)) (fun c X => kGo xs Lx (d + 1) 50 2 [some (.ref 3), some (kI (c : Int)), none] [] X (fun r V' => ∃ y : Int, r = some (kI y) ∧ G y V')) (fun X hX => ?_) (fun c X hc hX ih => ?_) 0 V (Nat.zero_le _) ⟨fun c' h => absurd h (Nat.not_lt_zero _), fun b j _ => rfl⟩
  rotate_left
  · refine b50_2 ?_
    rw [hX.2 3 6 (by omega), hR.2.1]
    refine ⟨by omega, by omega, fun l => by omega, fun _ => ⟨⟨by omega, by omega⟩, ih _ ⟨fun c' h => ?_, fun b j hb => ?_⟩⟩⟩
    · rw [tn]
      by_cases e : c' = c
      · subst e; exact up_at _ _ _ _
      · rw [up_ne (by omega)]; exact hX.1 c' (by omega)
    · rw [up_ne (by omega)]; exact hX.2 b j hb
  · refine b50_2 ?_
    rw [hX.2 3 6 (by omega), hR.2.1]
    refine ⟨by omega, by omega, fun _ => ?_, fun l => by omega⟩
    -- the passes
    refine kloop L.length (fun i X => (∀ j, j < i → rfb K W L j = 0) ∧ (∀ c, c < U.length → X 11 c = ((rcc W L i (U.getD c 0)).length : Int) ∧ ((rcc W L i (U.getD c 0)).length = 1 → ∃ i', i' < i ∧ X 12 c = (i' : Int) ∧ rcc W L i (U.getD c 0) = [L.getD i' 0])) ∧ (∀ b j, ¬ (b = 11 ∨ b = 12) → X b j = V b j)) (fun i X => kGo xs Lx (d + 1) 50 25 [some (.ref 3), some (kI (i : Int)), none] [] X (fun r V' => ∃ y : Int, r = some (kI y) ∧ G y V')) (fun X hX => ?_) (fun i X hi hX ih => ?_) 0 X (Nat.zero_le _) ⟨fun j h => absurd h (Nat.not_lt_zero _), fun c hc => ⟨by rw [hX.1 c hc, rcc_zero]; rfl, fun q => absurd q (by rw [rcc_zero]; decide)⟩, fun b j hb => hX.2 b j (by omega)⟩
    rotate_left
    · obtain ⟨x1, x2, x3⟩ := hX
      have R' : kRv X K W P L U := hR.fr (fun b j _ hb => x3 b j (by omega))
      obtain ⟨r1, r2, r3⟩ := R'
      obtain ⟨s5, s6, s8, s9, c, hc, s7, sU⟩ := r3 i hi
      obtain ⟨t1, t2⟩ := x2 c hc
      have len := rcc_len (W := W) (L := L) (i := i) (v := U.getD c 0)
      rw [sU] at t1 t2 len
      have kWi := kW i hi
      -- the next one
      have next : rfb K W L i = 0 → ∀ Y : km_V, (∀ b j, ¬ (b = 11 ∨ b = 12) → Y b j = V b j) → (∀ j, j ≠ c → Y 11 j = X 11 j ∧ Y 12 j = X 12 j) → Y 11 c = X 11 c + 1 → Y 12 c = (i : Int) → kGo xs Lx (d + 1) 50 25 [some (.ref 3), some (kI ((i + 1 : Nat) : Int)), none] [] Y (fun r V' => ∃ y : Int, r = some (kI y) ∧ G y V') := by
        intro hf Y y1 y2 y3 y4
        refine ih Y ⟨fun j hj => ?_, fun c' hc' => ?_, y1⟩
        · by_cases e : j = i
          · subst e; exact hf
          · exact x1 j (by omega)
        · rw [rcc_succ hi]
          by_cases e : c' = c
          · subst e
            rw [sU, if_pos rfl, List.length_append, List.length_singleton, y3, t1]
            refine ⟨rfl, fun q => ⟨i, by omega, y4, ?_⟩⟩
            have : rcc W L i (W (L.getD i 0)) = [] := List.eq_nil_of_length_eq_zero (by omega)
            rw [this]; rfl
          · have ne : W (L.getD i 0) ≠ U.getD c' 0 := fun q => e (uinj c' c hc' hc (by rw [sU, q]))
            rw [if_neg ne, (y2 c' e).1, (y2 c' e).2]
            obtain ⟨a, b⟩ := x2 c' hc'
            exact ⟨a, fun q => by obtain ⟨i', q1, q2⟩ := b q; exact ⟨i', by omega, q2⟩⟩
      refine b50_25 ?_
      rw [r1, tn]
      refine ⟨by omega, by omega, fun l => by omega, fun _ => ⟨⟨by omega, by omega⟩, fun z1 ez => ?_⟩⟩
      rw [s7] at ez
      subst ez
      rw [s5, s6, tn]
      refine ⟨kWi, fun l99 => ⟨⟨by omega, by omega⟩, ?_, fun l0 => ?_, fun l0 => ?_⟩, fun g99 => ?_⟩
      · rw [t1]; omega
      · rw [t1] at l0
        have e0 : rcc W L i (W (L.getD i 0)) = [] := List.eq_nil_of_length_eq_zero (by omega)
        have hf : rfb K W L i = 0 := by unfold rfb; rw [if_neg (by omega), if_pos (Or.inl e0)]
        refine next hf _ (fun b j hb => ?_) (fun j hj => ?_) ?_ ?_
        · rw [up_ne (by omega), up_ne (by omega)]; exact x3 b j hb
        · exact ⟨by rw [up_ne (by omega), up_ne (by omega)], by rw [up_ne (by omega), up_ne (by omega)]⟩
        · rw [up_at, up_ne (by omega)]
        · rw [up_ne (by omega), up_at]
      · rw [t1] at l0
        have ne : rcc W L i (W (L.getD i 0)) ≠ [] := fun q => by rw [q] at l0; exact absurd l0 (by decide)
        rw [t1]
        have R2 : kRv X K W P L U := ⟨r1, r2, r3⟩
        have ex : ∃ a : Nat, ((rcc W L i (W (L.getD i 0))).length = 1 → a < i ∧ X 12 c = (a : Int) ∧ rcc W L i (W (L.getD i 0)) = [L.getD a 0]) := by
          by_cases q : (rcc W L i (W (L.getD i 0))).length = 1
          · obtain ⟨a, b⟩ := t2 q; exact ⟨a, fun _ => b⟩
          · exact ⟨0, fun z => absurd z q⟩
        obtain ⟨a, ha⟩ := ex
        refine sp_isPartner (d := d) (a := a) (b := i) R2 (fun q => ?_) hi hl ⟨by omega, by omega⟩ (fun _ => trivial) (fun y hy hy01 => ?_) (fun q => (ha (by omega)).2.1)
        · have := (ha (by omega)).1; omega
        · refine ⟨by omega, fun n0 => ?_, fun e0 => ?_⟩
          · have y1 := hy.mp (by omega)
            have c1 : (rcc W L i (W (L.getD i 0))).length = 1 := by omega
            have hf : rfb K W L i = 0 := by
              have hc : rdOv K ((rcc W L i (W (L.getD i 0))).getD 0 0) ≠ rdOv K (L.getD i 0) ∧ rdSg K ((rcc W L i (W (L.getD i 0))).getD 0 0) = rdSg K (L.getD i 0) := by
                rw [(ha c1).2.2]
                exact y1.2
              unfold rfb
              rw [if_neg (by omega), if_pos (Or.inr ⟨c1, hc⟩)]
            refine next hf _ (fun b j hb => ?_) (fun j hj => ?_) ?_ ?_
            · rw [up_ne (by omega), up_ne (by omega)]; exact x3 b j hb
            · exact ⟨by rw [up_ne (by omega), up_ne (by omega)], by rw [up_ne (by omega), up_ne (by omega)]⟩
            · rw [up_at, up_ne (by omega)]
            · rw [up_ne (by omega), up_at]
          · have hf : rfb K W L i = 3 := by
              unfold rfb
              rw [if_neg (by omega), if_neg]
              rintro (q | ⟨q1, q2⟩)
              · exact ne q
              · rw [(ha q1).2.2] at q2
                have := hy.mpr ⟨by omega, q2⟩
                omega
            refine ⟨_, rfl, ?_⟩
            rw [s6]
            have := k 3 (P (L.getD i 0)) (up (up X 3 0 3) 3 1 (P (L.getD i 0) : Int)) (Or.inl ⟨i, hi, x1, by omega, hf.symm, rfl⟩) (fun _ => ⟨by rw [up_ne (by omega), up_at], up_at _ _ _ _⟩) (fun b j hb => by rw [up_ne (by omega), up_ne (by omega)]; exact x3 b j (by omega))
            exact this
      · have hf : rfb K W L i = 5 := by unfold rfb; rw [if_pos g99]
        refine ⟨_, rfl, ?_⟩
        have := k 5 (P (L.getD i 0)) (up (up X 3 0 5) 3 1 (P (L.getD i 0) : Int)) (Or.inl ⟨i, hi, x1, by omega, hf.symm, rfl⟩) (fun _ => ⟨by rw [up_ne (by omega), up_at], up_at _ _ _ _⟩) (fun b j hb => by rw [up_ne (by omega), up_ne (by omega)]; exact x3 b j (by omega))
        exact this
    · obtain ⟨x1, x2, x3⟩ := hX
      have R' : kRv X K W P L U := hR.fr (fun b j _ hb => x3 b j (by omega))
      obtain ⟨r1, r2, r3⟩ := R'
      refine b50_25 ?_
      rw [r1]
      refine ⟨by omega, by omega, fun _ => ?_, fun l => by omega⟩
      refine kloop0 L.length (fun i => (∀ j, j < i → (rcc W L L.length (W (L.getD j 0))).length ≠ 1) → kGo xs Lx (d + 1) 50 129 [some (.ref 3), some (kI (i : Int)), none] [] X (fun r V' => ∃ y : Int, r = some (kI y) ∧ G y V')) (fun hh => ?_) (fun i hi ih hh => ?_) 0 (Nat.zero_le _) (fun j h => absurd h (Nat.not_lt_zero _))
      · refine b50_129 ?_
        rw [r1]
        refine ⟨by omega, by omega, fun _ => ⟨_, rfl, ?_⟩, fun l => by omega⟩
        exact k 0 0 X (Or.inr (Or.inr ⟨x1, hh, rfl, rfl⟩)) (fun q => absurd rfl q) (fun b j hb => x3 b j (by omega))
      · obtain ⟨s5, s6, s8, s9, c, hc, s7, sU⟩ := r3 i hi
        obtain ⟨t1, t2⟩ := x2 c hc
        have len := rcc_len (W := W) (L := L) (i := L.length) (v := U.getD c 0)
        rw [sU] at t1 t2 len
        refine b50_129 ?_
        rw [r1, tn, s7, tn, t1, s6]
        refine ⟨by omega, by omega, fun l => by omega, fun _ => ⟨⟨by omega, by omega⟩, ⟨by omega, by omega⟩, by omega, fun n => ih (fun j hj => ?_), fun e => ⟨_, rfl, ?_⟩⟩⟩
        · by_cases z : j = i
          · subst z; omega
          · exact hh j (by omega)
        · have := k 4 (P (L.getD i 0)) (up (up X 3 0 4) 3 1 (P (L.getD i 0) : Int)) (Or.inr (Or.inl ⟨x1, i, hi, hh, by omega, rfl, rfl⟩)) (fun _ => ⟨by rw [up_ne (by omega), up_at], up_at _ _ _ _⟩) (fun b j hb => by rw [up_ne (by omega), up_ne (by omega)]; exact x3 b j (by omega))
          exact this
end RST

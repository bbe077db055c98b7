/-! the cells of the reader after t tokens -/
def kRl (V : km_V) (K W : Nat → Int) (P : Nat → Nat) (F : List Nat) (U : List Int) (T : List Nat) (O : Nat) (r : Prop) : Prop := (∀ j, j < F.length → V 4 j = (F.getD j 0 : Int)) ∧ (∀ j, j < U.length → V 10 j = U.getD j 0) ∧ (∀ i, i < T.length → V 5 i = W (T.getD i 0) ∧ V 6 i = (P (T.getD i 0) : Int)) ∧ (r → ∀ i, i < T.length → V 8 i = rdOv K (T.getD i 0) ∧ ∃ c : Nat, c < U.length ∧ V 7 i = (c : Int) ∧ U.getD c 0 = W (T.getD i 0)) ∧ (∀ i, i < O → V 9 i = rdSg K (T.getD i 0))
def kRd (V : km_V) (K W : Nat → Int) (P : Nat → Nat) (t : Nat) : Prop := V 3 2 = (if 5 ≤ rdS K t then 1 else 0) ∧ V 3 3 = ((rdF K t).length : Int) ∧ V 3 6 = ((rdU K W t).length : Int) ∧ V 3 7 = (rdO K t : Int) ∧ (rdS K t = 2 → V 3 8 = rdOv K t) ∧ (6 ≤ rdS K t → V 3 4 = W 1 ∧ V 3 5 = (P 1 : Int)) ∧ kRl V K W P (rdF K t) (rdU K W t) (rdT K t) (rdO K t) (rdS K t ≤ 4)
section KRL
variable {V U' : km_V} {K W : Nat → Int} {P : Nat → Nat} {F : List Nat} {U : List Int} {T : List Nat} {O : Nat} {r r' : Prop}
theorem kRl.fr (h : kRl V K W P F U T O r) (hr : r' → r) (f : ∀ b j, 4 ≤ b ∧ b ≤ 10 → U' b j = V b j) : kRl U' K W P F U T O r' := by
  obtain ⟨h1, h2, h3, h4, h5⟩ := h
  refine ⟨fun j hj => ?_, fun j hj => ?_, fun i hi => ?_, fun q i hi => ?_, fun i hi => ?_⟩
  · rw [f 4 j (by omega)]; exact h1 j hj
  · rw [f 10 j (by omega)]; exact h2 j hj
  · rw [f 5 i (by omega), f 6 i (by omega)]; exact h3 i hi
  · rw [f 8 i (by omega), f 7 i (by omega)]; exact h4 (hr q) i hi
  · rw [f 9 i (by omega)]; exact h5 i hi
theorem kRd.fr {t : Nat} (h : kRd V K W P t) (f : ∀ b j, 3 ≤ b ∧ b ≤ 10 → U' b j = V b j) : kRd U' K W P t := by
  obtain ⟨h1, h2, h3, h4, h5, h6, h7⟩ := h
  refine ⟨?_, ?_, ?_, ?_, fun q => ?_, fun q => ?_, h7.fr id (fun b j hb => f b j (by omega))⟩
  · rw [f 3 2 (by omega)]; exact h1
  · rw [f 3 3 (by omega)]; exact h2
  · rw [f 3 6 (by omega)]; exact h3
  · rw [f 3 7 (by omega)]; exact h4
  · rw [f 3 8 (by omega)]; exact h5 q
  · rw [f 3 4 (by omega), f 3 5 (by omega)]; exact h6 q
theorem kRl.ring {n : Nat} {y : Int} (h : kRl V K W P F U T O r) : kRl (up (up V 4 F.length (n : Int)) 3 3 y) K W P (F ++ [n]) U T O r := by
  have g := h.fr (U' := up (up V 4 F.length (n : Int)) 3 3 y) (r' := r)
  obtain ⟨h1, h2, h3, h4, h5⟩ := h
  refine ⟨fun j hj => ?_, fun j hj => ?_, fun i hi => ?_, fun q i hi => ?_, fun i hi => ?_⟩
  · rw [List.length_append, List.length_singleton] at hj
    rw [up_ne (by omega)]
    by_cases e : j = F.length
    · subst e
      rw [up_at, gd_appr (Nat.le_refl _), Nat.sub_self]; rfl
    · rw [up_ne (by omega), gd_appl (by omega)]; exact h1 j (by omega)
  · rw [up_ne (by omega), up_ne (by omega)]; exact h2 j hj
  · rw [up_ne (by omega), up_ne (by omega), up_ne (by omega), up_ne (by omega)]; exact h3 i hi
  · rw [up_ne (by omega), up_ne (by omega), up_ne (by omega), up_ne (by omega)]; exact h4 q i hi
  · rw [up_ne (by omega), up_ne (by omega)]; exact h5 i hi
theorem kRl.sign {b y : Int} (h : kRl V K W P F U T O r) (hb : b = rdSg K (T.getD O 0)) : kRl (up (up V 9 O b) 3 7 y) K W P F U T (O + 1) r := by
  obtain ⟨h1, h2, h3, h4, h5⟩ := h
  refine ⟨fun j hj => ?_, fun j hj => ?_, fun i hi => ?_, fun q i hi => ?_, fun i hi => ?_⟩
  · rw [up_ne (by omega), up_ne (by omega)]; exact h1 j hj
  · rw [up_ne (by omega), up_ne (by omega)]; exact h2 j hj
  · rw [up_ne (by omega), up_ne (by omega), up_ne (by omega), up_ne (by omega)]; exact h3 i hi
  · rw [up_ne (by omega), up_ne (by omega), up_ne (by omega), up_ne (by omega)]; exact h4 q i hi
  · rw [up_ne (by omega)]
    by_cases e : i = O
    · subst e; rw [up_at]; exact hb
    · rw [up_ne (by omega)]; exact h5 i (by omega)
theorem kRl.int {t : Nat} (h : kRl V K W P F U T O r) (hO : O ≤ T.length) (hr : ¬ r') : kRl (up (up V 5 T.length (W t)) 6 T.length (P t : Int)) K W P F U (T ++ [t]) O r' := by
  obtain ⟨h1, h2, h3, h4, h5⟩ := h
  refine ⟨fun j hj => ?_, fun j hj => ?_, fun i hi => ?_, fun q => absurd q hr, fun i hi => ?_⟩
  · rw [up_ne (by omega), up_ne (by omega)]; exact h1 j hj
  · rw [up_ne (by omega), up_ne (by omega)]; exact h2 j hj
  · rw [List.length_append, List.length_singleton] at hi
    rw [up_ne (show ¬ (5 = 6 ∧ i = T.length) by omega)]
    by_cases e : i = T.length
    · subst e; rw [up_at, up_at, gd_appr (Nat.le_refl _), Nat.sub_self]; exact ⟨rfl, rfl⟩
    · rw [up_ne (by omega), up_ne (by omega), up_ne (by omega), gd_appl (by omega)]; exact h3 i (by omega)
  · rw [up_ne (by omega), up_ne (by omega), gd_appl (by omega)]; exact h5 i hi
/-- an int of a pass: the number's place among the unlike ones is c -/
theorem kRl.num {t c : Nat} {y : Int} {Un : List Int} (h : kRl V K W P F U T O r) (hO : O ≤ T.length) (hr : r' → r) (hc : c < Un.length) (hU : U.length ≤ Un.length) (hU2 : ∀ j, j < U.length → Un.getD j 0 = U.getD j 0) (hU3 : ∀ j, U.length ≤ j → j < Un.length → j = c) (hc2 : Un.getD c 0 = W t) : kRl (up (up (up (up (up (up V 5 T.length (W t)) 6 T.length (P t : Int)) 8 T.length (rdOv K t)) 10 c (W t)) 3 6 y) 7 T.length (c : Int)) K W P F Un (T ++ [t]) O r' := by
  obtain ⟨h1, h2, h3, h4, h5⟩ := h
  refine ⟨fun j hj => ?_, fun j hj => ?_, fun i hi => ?_, fun q i hi => ?_, fun i hi => ?_⟩
  · rw [up_ne (by omega), up_ne (by omega), up_ne (by omega), up_ne (by omega), up_ne (by omega), up_ne (by omega)]; exact h1 j hj
  · rw [up_ne (by omega), up_ne (by omega)]
    by_cases e : j = c
    · subst e; rw [up_at]; exact hc2.symm
    · rw [up_ne (by omega), up_ne (by omega), up_ne (by omega), up_ne (by omega)]
      by_cases l : j < U.length
      · rw [h2 j l, hU2 j l]
      · exact absurd (hU3 j (by omega) hj) e
  · rw [List.length_append, List.length_singleton] at hi
    constructor
    · rw [up_ne (by omega), up_ne (by omega), up_ne (by omega), up_ne (by omega), up_ne (by omega)]
      by_cases e : i = T.length
      · subst e; rw [up_at, gd_appr (Nat.le_refl _), Nat.sub_self]; rfl
      · rw [up_ne (by omega), gd_appl (by omega)]; exact (h3 i (by omega)).1
    · rw [up_ne (by omega), up_ne (by omega), up_ne (by omega), up_ne (by omega)]
      by_cases e : i = T.length
      · subst e; rw [up_at, gd_appr (Nat.le_refl _), Nat.sub_self]; rfl
      · rw [up_ne (by omega), up_ne (by omega), gd_appl (by omega)]; exact (h3 i (by omega)).2
  · rw [List.length_append, List.length_singleton] at hi
    rw [up_ne (by omega), up_ne (by omega), up_ne (by omega)]
    by_cases e : i = T.length
    · subst e; rw [up_at, up_at, gd_appr (Nat.le_refl _), Nat.sub_self]; exact ⟨rfl, c, hc, rfl, hc2⟩
    · rw [up_ne (by omega), up_ne (by omega), up_ne (by omega), up_ne (by omega), up_ne (by omega), up_ne (by omega), up_ne (by omega), up_ne (by omega), gd_appl (by omega)]
      obtain ⟨a, c', b1, b2, b3⟩ := h4 (hr q) i (by omega)
      exact ⟨a, c', by omega, b2, by rw [hU2 c' b1]; exact b3⟩
  · rw [up_ne (by omega), up_ne (by omega), up_ne (by omega), up_ne (by omega), up_ne (by omega), up_ne (by omega), gd_appl (by omega)]; exact h5 i hi
end KRL
section STK
variable {xs : Nat → Int32} {Lx d : Nat} {V : km_V} {K W : Nat → Int} {P : Nat → Nat} {t : Nat}
theorem sp_takes {G : Int → km_V → Prop} (hp : ∀ j, j < t → rdPass K W j) (hb : stB (rdS K t) (K t) ≠ -1) (hR : kRd V K W P t) (ht : t < 400) (v1 : V 1 1 = K t) (v2 : K t = 6 → V 1 2 = W t) (v3 : V 1 3 = (P t : Int)) (kW : ∀ j, K j = 6 → kR (W j)) (k1 : rdRoom K W t → ∀ X, kRd X K W P (t + 1) → (∀ b j, ¬ (3 ≤ b ∧ b ≤ 12) → X b j = V b j) → G 1 X) (k0 : ¬ rdRoom K W t → ∀ X, (∀ b j, ¬ (3 ≤ b ∧ b ≤ 12) → X b j = V b j) → G 0 X) : kCI xs Lx (d + 3) 45 3 [.ref 3, kI (rdS K t), .ref 1] V G := by
  have st := stB_step hb
  have w := rdWell_all t hp
  have w1 := w.r
  obtain ⟨h1, h2, h3, h4, h5, h6, hL⟩ := hR
  have eS : rdS K (t + 1) = stB (rdS K t) (K t) := rfl
  have eT : rdT K (t + 1) = if K t = 6 ∧ rdS K t ≠ 5 then rdT K t ++ [t] else rdT K t := rfl
  have eU : rdU K W (t + 1) = if K t = 6 ∧ rdS K t = 2 ∧ W t ∉ rdU K W t then rdU K W t ++ [W t] else rdU K W t := rfl
  have eF : rdF K (t + 1) = if K t = 2 then rdF K t ++ [(rdT K t).length] else rdF K t := rfl
  have eO : rdO K (t + 1) = if rdS K (t + 1) = 3 then (rdT K (t + 1)).length - 1 else (rdT K (t + 1)).length := rfl
  have eO0 : rdO K t = if rdS K t = 3 then (rdT K t).length - 1 else (rdT K t).length := rfl
  rw [← eS] at st
  unfold rdStep at st
  have rk : kR (K t) := ⟨by omega, by omega⟩
  have rs : kR (rdS K t) := ⟨by omega, by omega⟩
  have same : K t ≠ 2 → K t ≠ 6 → rdS K t ≠ 3 → rdF K (t + 1) = rdF K t ∧ rdU K W (t + 1) = rdU K W t ∧ rdT K (t + 1) = rdT K t ∧ rdO K (t + 1) = rdO K t := by
    intro n1 n2 n3
    have a : rdT K (t + 1) = rdT K t := by rw [eT, if_neg (by omega)]
    exact ⟨by rw [eF, if_neg n1], by rw [eU, if_neg (fun q => n2 q.1)], a, by rw [eO, eO0, a, if_neg (by omega), if_neg n3]⟩
  have keep : ∀ X : km_V, K t ≠ 2 → K t ≠ 6 → rdS K t ≠ 3 → (∀ b j, ¬ (b = 3 ∧ (j = 2 ∨ j = 8)) → X b j = V b j) → X 3 2 = (if 5 ≤ rdS K (t + 1) then 1 else 0) → (rdS K (t + 1) = 2 → X 3 8 = rdOv K (t + 1)) → kRd X K W P (t + 1) := by
    intro X n1 n2 n3 f x2 x8
    obtain ⟨a1, a2, a3, a4⟩ := same n1 n2 n3
    refine ⟨x2, ?_, ?_, ?_, x8, fun q => ?_, ?_⟩
    · rw [f 3 3 (by omega), a1]; exact h2
    · rw [f 3 6 (by omega), a2]; exact h3
    · rw [f 3 7 (by omega), a4]; exact h4
    · rw [f 3 4 (by omega), f 3 5 (by omega)]; exact h6 (by omega)
    · rw [a1, a2, a3, a4]; exact hL.fr (fun q => by omega) (fun b j hb => f b j (by omega))
  have ov : rdOv K (t + 1) = if K t = 4 then 1 else 0 := by unfold rdOv; rw [Nat.add_sub_cancel]
  have sign : ∀ b : Int, rdS K t = 3 → b = (if K t = 8 then 1 else 0) → (b = 0 ∨ b = 1) → kCI xs Lx (d + 2) 47 2 [.ref 3, kI b] V (fun y W' => (y = 0 ∨ y = 1) ∧ ∃ v : Int, some (kI y) = some (kI v) ∧ G v W') := by
    intro b e eb hb01
    obtain ⟨c1, c2, c3, c4, c5⟩ := w.i e
    have lT : (rdT K t).length = (rdT K (t - 1)).length + 1 := by rw [c4, List.length_append, List.length_singleton]
    have eT' : rdT K (t + 1) = rdT K t := by rw [eT, if_neg (by omega)]
    have eU' : rdU K W (t + 1) = rdU K W t := by rw [eU, if_neg (fun q => by omega)]
    have eF' : rdF K (t + 1) = rdF K t := by rw [eF, if_neg (by omega)]
    have o1 : rdO K t = (rdT K (t - 1)).length := by rw [eO0, if_pos e]; omega
    have o2 : rdO K (t + 1) = rdO K t + 1 := by rw [eO, if_neg (by omega), eT']; omega
    refine sp_takesSign (d := d + 2) (told := rdO K t) hb01 h4 (by omega) ⟨Or.inr rfl, _, rfl, k1 ⟨fun q => by omega, fun q => by omega, fun q => by omega⟩ _ ⟨?_, ?_, ?_, ?_, fun q => by omega, fun q => by omega, ?_⟩ ?_⟩
    · rw [up_ne (by omega), up_ne (by omega), h1, if_neg (by omega), if_neg (by omega)]
    · rw [up_ne (by omega), up_ne (by omega), eF']; exact h2
    · rw [up_ne (by omega), up_ne (by omega), eU']; exact h3
    · rw [up_at, o2]
    · rw [eT', eU', eF', o2]
      refine (hL.fr (U' := V) (r' := rdS K (t + 1) ≤ 4) (fun _ => by omega) (fun _ _ _ => rfl)).sign ?_
      rw [o1, c4, gd_appr (Nat.le_refl _), Nat.sub_self, gd_cons0, eb]
      unfold rdSg
      have wb := w.b (by omega)
      rw [if_neg (show ¬ K 0 = 3 by omega), show t - 1 + 1 = t by omega]
    · intro b' j hb'
      rw [up_ne (by omega), up_ne (by omega)]
  refine b45_0 ?_
  rw [v1]
  refine ⟨rk, fun h => by omega, fun h => ?_, fun h => ?_, fun h => ⟨fun n => by omega, fun _ => ?_⟩, fun h => ⟨fun _ => ?_, fun n => by omega⟩, fun h => ?_, fun h => ?_, fun h => ?_, fun h => ⟨rs, fun n => ?_, fun e => ?_⟩⟩
  · -- a ring
    have eT' : rdT K (t + 1) = rdT K t := by rw [eT, if_neg (by omega)]
    have eU' : rdU K W (t + 1) = rdU K W t := by rw [eU, if_neg (fun q => by omega)]
    have eF' : rdF K (t + 1) = rdF K t ++ [(rdT K t).length] := by rw [eF, if_pos h]
    have eO' : rdO K (t + 1) = rdO K t := by rw [eO, eO0, eT', if_neg (by omega), if_neg (by omega)]
    have eO2 : rdO K t = (rdT K t).length := by rw [eO0, if_neg (by omega)]
    refine sp_takesRing (d := d + 2) (r := (rdF K t).length) (told := rdO K t) h2 h4 w.f (fun l => ⟨Or.inr rfl, _, rfl, k1 ⟨fun _ => l, fun q => by omega, fun q => by omega⟩ _ ⟨?_, ?_, ?_, ?_, fun q => by omega, fun q => by omega, ?_⟩ ?_⟩) (fun l => ⟨Or.inl rfl, _, rfl, k0 (fun q => by have := q.r h; omega) _ (fun _ _ _ => rfl)⟩)
    · rw [up_ne (by omega), up_ne (by omega), h1, if_neg (by omega), if_neg (by omega)]
    · rw [up_at, eF', List.length_append, List.length_singleton]
    · rw [up_ne (by omega), up_ne (by omega), eU']; exact h3
    · rw [up_ne (by omega), up_ne (by omega), eO']; exact h4
    · rw [eT', eU', eF', eO', ← eO2]
      have := (hL.fr (U' := V) (r' := rdS K (t + 1) ≤ 4) (fun _ => by omega) (fun _ _ _ => rfl)).ring (n := rdO K t) (y := (((rdF K t).length + 1 : Nat) : Int))
      exact this
    · intro b j hb
      rw [up_ne (by omega), up_ne (by omega)]
  · -- a braid
    have e0 : t = 0 := w.z (by omega)
    refine ⟨_, rfl, k1 ⟨fun q => by omega, fun q => by omega, fun q => by omega⟩ _ (keep _ (by omega) (by omega) (by omega) (fun b j hb => up_ne (by omega)) ?_ (fun q => by omega)) (fun b j hb => up_ne (by omega))⟩
    rw [up_at, if_pos (by omega)]
  · -- over
    refine ⟨_, rfl, k1 ⟨fun q => by omega, fun q => by omega, fun q => by omega⟩ _ (keep _ (by omega) (by omega) (by omega) (fun b j hb => up_ne (by omega)) ?_ (fun _ => ?_)) (fun b j hb => up_ne (by omega))⟩
    · rw [up_ne (by omega), h1, if_neg (by omega), if_neg (by omega)]
    · rw [up_at, ov, if_pos h]
  · -- under
    refine ⟨_, rfl, k1 ⟨fun q => by omega, fun q => by omega, fun q => by omega⟩ _ (keep _ (by omega) (by omega) (by omega) (fun b j hb => up_ne (by omega)) ?_ (fun _ => ?_)) (fun b j hb => up_ne (by omega))⟩
    · rw [up_ne (by omega), h1, if_neg (by omega), if_neg (by omega)]
    · rw [up_at, ov, if_neg (by omega)]
  · -- an int
    have e1 : ∀ i y j, up V 5 i y 3 j = V 3 j := fun i y j => up_ne (by omega)
    have e2 : ∀ i y, up V 5 i y 1 3 = V 1 3 := fun i y => up_ne (by omega)
    have e3 : ∀ i y i' y' j, up (up V 5 i y) 6 i' y' 3 j = V 3 j := fun i y i' y' j => by rw [up_ne (by omega), up_ne (by omega)]
    have e4 : ∀ y, up V 3 4 y 1 3 = V 1 3 := fun y => up_ne (by omega)
    have eF' : rdF K (t + 1) = rdF K t := by rw [eF, if_neg (by omega)]
    refine b48_0 ?_
    simp only [e1, e2, e3, e4]
    simp only [h4, v2 h, v3, tn]
    have hO : rdO K t = (rdT K t).length := by rw [eO0, if_neg (by omega)]
    have lT : (rdT K t).length < 134 := by
      by_cases e : rdS K t = 2
      · have := (w.j e).2.1; omega
      · have := (w.c (by omega)).2.2.2; omega
    refine ⟨rs, fun n5 => ⟨by omega, fun l134 => ⟨⟨by omega, by omega⟩, ⟨by omega, by omega⟩, fun n2 => ⟨by omega, fun l8 => ?_, fun l8 => ?_⟩, fun e2' => ⟨⟨by omega, by omega⟩, ?_, ?_⟩⟩, fun g134 => by omega⟩, fun e5 => ?_⟩
    · refine ⟨_, rfl, Or.inl rfl, _, rfl, k0 (fun q => ?_) _ ?_⟩
      · by_cases e6 : rdS K t = 6
        · have := q.b e6 (Or.inl h); omega
        · have := w.e (by omega); omega
      · intro b j hb
        rw [up_ne (by omega), up_ne (by omega)]
    · have eT' : rdT K (t + 1) = rdT K t ++ [t] := by rw [eT, if_pos ⟨h, n5⟩]
      have eU' : rdU K W (t + 1) = rdU K W t := by rw [eU, if_neg (fun q => by omega)]
      have eO' : rdO K (t + 1) = rdO K t + 1 := by rw [eO, if_neg (by omega), eT', List.length_append, List.length_singleton, hO]
      have room : rdRoom K W t := ⟨fun q => by omega, fun _ q => by omega, fun _ _ => by omega⟩
      have body : ∀ b : Int, b = rdSg K t → (b = 0 ∨ b = 1) → kCI xs Lx (d + 1) 47 2 [.ref 3, kI b] (up (up V 5 (rdO K t) (W t)) 6 (rdO K t) (P t : Int)) (fun y W' => kR y ∧ (y = 0 → ∃ v : Int, some (kI 0) = some (kI v) ∧ (v = 0 ∨ v = 1) ∧ ∃ v' : Int, some (kI v) = some (kI v') ∧ G v' W') ∧ (y ≠ 0 → ∃ v : Int, some (kI 1) = some (kI v) ∧ (v = 0 ∨ v = 1) ∧ ∃ v' : Int, some (kI v) = some (kI v') ∧ G v' W')) := by
        intro b eb hb01
        refine sp_takesSign (d := d + 1) (told := rdO K t) hb01 (by rw [up_ne (by omega), up_ne (by omega)]; exact h4) (by omega) ⟨by omega, fun q => by omega, fun _ => ⟨_, rfl, Or.inr rfl, _, rfl, k1 room _ ⟨?_, ?_, ?_, ?_, fun q => by omega, fun q => ?_, ?_⟩ ?_⟩⟩
        · rw [up_ne (by omega), up_ne (by omega), up_ne (by omega), up_ne (by omega), h1, if_pos (by omega), if_pos (by omega)]
        · rw [up_ne (by omega), up_ne (by omega), up_ne (by omega), up_ne (by omega), eF']; exact h2
        · rw [up_ne (by omega), up_ne (by omega), up_ne (by omega), up_ne (by omega), eU']; exact h3
        · rw [up_at, eO']
        · rw [up_ne (by omega), up_ne (by omega), up_ne (by omega), up_ne (by omega), up_ne (by omega), up_ne (by omega), up_ne (by omega), up_ne (by omega)]; exact h6 (by omega)
        · rw [eT', eU', eF', eO']
          have a := hL.int (r' := rdS K (t + 1) ≤ 4) (t := t) (by omega) (by omega)
          rw [hO] at a ⊢
          refine a.sign ?_
          rw [gd_appr (Nat.le_refl _), Nat.sub_self, gd_cons0]
          exact eb
        · intro b' j hb'
          rw [up_ne (by omega), up_ne (by omega), up_ne (by omega), up_ne (by omega)]
      have k03 : K 0 = 3 := by
        by_cases z : t = 0
        · have : rdS K t = 0 := by rw [z]; rfl
          omega
        · exact (w.b (by omega)).mpr (by omega)
      refine ⟨fun n6 => ?_, fun e6 => ?_⟩
      · refine body 0 ?_ (Or.inl rfl)
        have := w.e (by omega)
        unfold rdSg
        rw [if_pos k03, if_pos this.2]
      · refine body 1 ?_ (Or.inr rfl)
        have := w.m e6
        unfold rdSg
        rw [if_pos k03, if_neg (by omega)]
    · rw [h5 e2']; unfold rdOv; split
      · exact Or.inr rfl
      · exact Or.inl rfl
    · rw [h5 e2']
      have mem : ∀ x, x ∈ rdU K W t → kR x := fun x hx => by
        obtain ⟨j, a, b⟩ := rdU_mem t x hx
        rw [← b]; exact kW j a
      have eT' : rdT K (t + 1) = rdT K t ++ [t] := by rw [eT, if_pos ⟨h, by omega⟩]
      have eO' : rdO K (t + 1) = rdO K t := by rw [eO, if_pos (by omega), eT', List.length_append, List.length_singleton, hO, Nat.add_sub_cancel]
      have fin : ∀ c : Nat, c < 8 → c < (rdU K W (t + 1)).length → (rdU K W t).length ≤ (rdU K W (t + 1)).length → (∀ j, j < (rdU K W t).length → (rdU K W (t + 1)).getD j 0 = (rdU K W t).getD j 0) → (∀ j, (rdU K W t).length ≤ j → j < (rdU K W (t + 1)).length → j = c) → (rdU K W (t + 1)).getD c 0 = W t → rdRoom K W t → kmax ((rdU K W t).length : Int) ((c : Int) + 1) = ((rdU K W (t + 1)).length : Int) → kRd (up (up (up (up (up (up V 5 (rdO K t) (W t)) 6 (rdO K t) (P t : Int)) 8 (rdO K t) (rdOv K t)) 10 c (W t)) 3 6 (kmax ((rdU K W t).length : Int) ((c : Int) + 1))) 7 (rdO K t) (c : Int)) K W P (t + 1) := by
        intro c c8 c1 c2 c3 c4 c5 _ c6
        refine ⟨?_, ?_, ?_, ?_, fun q => by omega, fun q => by omega, ?_⟩
        · rw [up_ne (by omega), up_ne (by omega), up_ne (by omega), up_ne (by omega), up_ne (by omega), up_ne (by omega), h1, if_neg (by omega), if_neg (by omega)]
        · rw [up_ne (by omega), up_ne (by omega), up_ne (by omega), up_ne (by omega), up_ne (by omega), up_ne (by omega), eF']; exact h2
        · rw [up_ne (by omega), up_at]; exact c6
        · rw [up_ne (by omega), up_ne (by omega), up_ne (by omega), up_ne (by omega), up_ne (by omega), up_ne (by omega), eO']; exact h4
        · rw [eT', eF', eO']
          have a := hL.num (r' := rdS K (t + 1) ≤ 4) (t := t) (y := kmax ((rdU K W t).length : Int) ((c : Int) + 1)) (by omega) (fun _ => by omega) c1 c2 c3 c4 c5
          rw [hO] at a ⊢
          exact a
      refine sp_takesNumber (d := d) (un := rdU K W t) (told := rdO K t) (v := W t) w.u ?_ ?_ (by omega) ?_ (kW t h) (fun j hj => ⟨?_, mem _ (gd_mem hj)⟩) (fun c ca cb cc cd => ⟨Or.inr rfl, _, rfl, Or.inr rfl, _, rfl, ?_⟩) (fun ca cb => ⟨Or.inl rfl, _, rfl, Or.inl rfl, _, rfl, k0 (fun q => ?_) _ ?_⟩)
      · rw [up_ne (by omega), up_ne (by omega), up_ne (by omega)]; exact h3
      · rw [up_ne (by omega), up_ne (by omega), up_ne (by omega)]; exact h4
      · rw [up_ne (by omega), up_ne (by omega), up_at]
      · rw [up_ne (by omega), up_ne (by omega), up_ne (by omega)]; exact hL.2.1 j hj
      · have frm : ∀ b j, ¬ (3 ≤ b ∧ b ≤ 12) → (up (up (up (up (up (up V 5 (rdO K t) (W t)) 6 (rdO K t) (P t : Int)) 8 (rdO K t) (rdOv K t)) 10 c (W t)) 3 6 (kmax ((rdU K W t).length : Int) ((c : Int) + 1))) 7 (rdO K t) (c : Int)) b j = V b j := by
          intro b j hb
          rw [up_ne (by omega), up_ne (by omega), up_ne (by omega), up_ne (by omega), up_ne (by omega), up_ne (by omega)]
        by_cases l : c < (rdU K W t).length
        · have hm : W t ∈ rdU K W t := by rw [← cd l]; exact gd_mem l
          have eU' : rdU K W (t + 1) = rdU K W t := by rw [eU, if_neg (fun q => q.2.2 hm)]
          have room : rdRoom K W t := ⟨fun q => by omega, fun _ _ => Or.inl hm, fun q => by omega⟩
          refine k1 room _ (fin c cb ?_ ?_ ?_ ?_ ?_ room ?_) frm
          · rw [eU']; exact l
          · rw [eU']; exact Nat.le_refl _
          · intro j hj; rw [eU']
          · intro j a b; rw [eU'] at b; omega
          · rw [eU']; exact cd l
          · rw [eU']; unfold kmax; split <;> omega
        · have ec : c = (rdU K W t).length := by omega
          have hm : W t ∉ rdU K W t := by
            intro hx
            obtain ⟨j, hj, e⟩ := List.getElem_of_mem hx
            exact cc j (by omega) (by rw [gd_lt hj, e])
          have eU' : rdU K W (t + 1) = rdU K W t ++ [W t] := by rw [eU, if_pos ⟨h, e2', hm⟩]
          have lU : (rdU K W (t + 1)).length = (rdU K W t).length + 1 := by rw [eU', List.length_append, List.length_singleton]
          have room : rdRoom K W t := ⟨fun q => by omega, fun _ _ => Or.inr (by omega), fun q => by omega⟩
          refine k1 room _ (fin c cb ?_ ?_ ?_ ?_ ?_ room ?_) frm
          · omega
          · omega
          · intro j hj; rw [eU', gd_appl hj]
          · intro j a b; omega
          · rw [eU', ec, gd_appr (Nat.le_refl _), Nat.sub_self, gd_cons0]
          · rw [lU]; unfold kmax; split <;> omega
      · rcases q.u h e2' with q1 | q1
        · obtain ⟨j, hj, e⟩ := List.getElem_of_mem q1
          exact cb j (by omega) (by rw [gd_lt hj, e])
        · omega
      · intro b j hb
        rw [up_ne (by omega), up_ne (by omega), up_ne (by omega)]
    · have eT' : rdT K (t + 1) = rdT K t := by rw [eT, if_neg (fun q => q.2 e5)]
      have eU' : rdU K W (t + 1) = rdU K W t := by rw [eU, if_neg (fun q => by omega)]
      have eO' : rdO K (t + 1) = rdO K t := by rw [eO, if_neg (by omega), eT', hO]
      have t1 := (w.d e5).1
      refine ⟨_, rfl, Or.inr rfl, _, rfl, k1 ⟨fun q => by omega, fun _ q => by omega, fun q => by omega⟩ _ ⟨?_, ?_, ?_, ?_, fun q => by omega, fun _ => ?_, ?_⟩ ?_⟩
      · rw [up_ne (by omega), up_ne (by omega), h1, if_pos (by omega), if_pos (by omega)]
      · rw [up_ne (by omega), up_ne (by omega), eF']; exact h2
      · rw [up_ne (by omega), up_ne (by omega), eU']; exact h3
      · rw [up_ne (by omega), up_ne (by omega), eO']; exact h4
      · rw [up_ne (by omega), up_at, up_at, t1]; exact ⟨rfl, rfl⟩
      · rw [eT', eU', eF', eO']
        exact hL.fr (fun q => by omega) (fun b j hb => by rw [up_ne (by omega), up_ne (by omega)])
      · intro b j hb
        rw [up_ne (by omega), up_ne (by omega)]
  · -- a semicolon
    refine ⟨_, rfl, k1 ⟨fun q => by omega, fun q => by omega, fun _ q => by omega⟩ _ (keep _ (by omega) (by omega) (by omega) (fun b j hb => rfl) ?_ (fun q => by omega)) (fun b j hb => rfl)⟩
    by_cases z : 5 ≤ rdS K t
    · rw [h1, if_pos z, if_pos (by omega)]
    · rw [h1, if_neg z, if_neg (by omega)]
  · exact sign 1 (by omega) (by rw [if_pos h]) (Or.inr rfl)
  · exact sign 0 (by omega) (by rw [if_neg (by omega)]) (Or.inl rfl)
  · rw [h4]
    have hO : rdO K t = (rdT K t).length := by rw [eO0, if_neg (by omega)]
    have lT := (w.c (by omega)).2.2.2
    refine ⟨by omega, fun l => ⟨_, rfl, k0 (fun q => ?_) _ (fun _ _ _ => rfl)⟩, fun l => ⟨_, rfl, k1 ⟨fun q => by omega, fun q => by omega, fun _ _ => by omega⟩ _ (keep _ (by omega) (by omega) (by omega) (fun b j hb => rfl) ?_ (fun q => by omega)) (fun b j hb => rfl)⟩⟩
    · have := q.b e (Or.inr h); omega
    · rw [h1, if_pos (by omega), if_pos (by omega)]
end STK

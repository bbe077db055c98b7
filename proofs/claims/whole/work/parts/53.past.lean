/-! what can be undone; slots -/
abbrev rw0 : Rw := ([], [])
def rwPush (R : Rw) (ps : List Rw) : List Rw := (R :: ps).take 40
def rwOks (ps : List Rw) : Prop := ps.length ≤ 40 ∧ ∀ R, R ∈ ps → rwOk R
theorem rwOks_push {R : Rw} {ps : List Rw} (ok : rwOk R) (h : rwOks ps) : rwOks (rwPush R ps) := by
  refine ⟨by unfold rwPush; rw [List.length_take]; omega, fun R' hR' => ?_⟩
  rcases List.mem_cons.mp (List.mem_of_mem_take hR') with e | e
  · subst e; exact ok
  · exact h.2 _ e
theorem rwPush_len (R : Rw) (ps : List Rw) : (rwPush R ps).length = min 40 (ps.length + 1) := by
  unfold rwPush; rw [List.length_take, List.length_cons]
theorem rwPush_at (R : Rw) (ps : List Rw) {i : Nat} (hi : i < (rwPush R ps).length) : (rwPush R ps).getD i rw0 = if i = 0 then R else ps.getD (i - 1) rw0 := by
  rw [rwPush_len] at hi
  unfold rwPush
  rw [gd_take (by omega)]
  cases i with
  | zero => rfl
  | succ i => rw [gd_cons, if_neg (by omega)]; rfl
def kPa (V : km_V) (ps : List Rw) : Prop := V 45 0 = (ps.length : Int) ∧ ∃ nx : Nat, nx < 40 ∧ V 45 1 = (nx : Int) ∧ ∀ i, i < ps.length → kRC V (47 + 4 * ((nx + 39 - i) % 40)) (ps.getD i rw0)
def kPm (V : km_V) (ps : List Rw) : Prop := V 299 39 = (ps.length : Int) ∧ ∃ e : Nat, e < 40 ∧ V 299 38 = (e : Int) ∧ ∀ i, i < ps.length → kRf (fun j => V 323 (78 * ((e + ps.length - 1 - i) % 40) + j)) (ps.getD i rw0)
theorem kPa.fr {V W : km_V} {ps : List Rw} (h : kPa V ps) (hf : ∀ a j, 45 ≤ a ∧ a ≤ 206 → W a j = V a j) : kPa W ps := by
  obtain ⟨h1, nx, h2, h3, h4⟩ := h
  refine ⟨by rw [hf _ _ (by omega)]; exact h1, nx, h2, by rw [hf _ _ (by omega)]; exact h3, fun i hi => (h4 i hi).fr (fun a j ha => hf a j ?_)⟩
  have : (nx + 39 - i) % 40 < 40 := Nat.mod_lt _ (by omega)
  omega
theorem kPm.fr {V W : km_V} {ps : List Rw} (h : kPm V ps) (h1 : W 299 39 = V 299 39) (h2 : W 299 38 = V 299 38) (hf : ∀ j, W 323 j = V 323 j) : kPm W ps := by
  obtain ⟨a1, e, a2, a3, a4⟩ := h
  refine ⟨by rw [h1]; exact a1, e, a2, by rw [h2]; exact a3, fun i hi => ?_⟩
  have := a4 i hi
  simp only [hf]
  exact this
theorem past_sh : ∀ n, n < 40 → km_sh[47 + 4 * n]? = some (5, 5) := by decide +kernel
theorem slot_sh : ∀ n, n < 3 → km_sh[287 + 4 * n]? = some (5, 5) := by decide +kernel
section PAA
variable {xs : Nat → Int32} {Lx d : Nat} {V : km_V} {R : Rw} {ps : List Rw}
theorem kmin40 (x : Int) : kmin x 40 = if 40 < x then 40 else x := rfl
theorem sp_keep {K : km_V → Prop} (hR : kRC V 13 R) (ok : rwOk R) (hP : kPa V ps) (hps : rwOks ps) (k : ∀ W, kPa W (rwPush R ps) → (∀ a j, ¬ (45 ≤ a ∧ a ≤ 206) → W a j = V a j) → K W) : kCV xs Lx (d + 1) 38 2 [.ref 45, .ref 13] V K := by
  obtain ⟨h1, nx, h2, h3, h4⟩ := hP
  have l1 := hps.1
  refine b38_0 rfl ⟨by omega, ?_⟩
  rw [h3]
  simp only [tn]
  refine sp_copy (past_sh nx h2) rfl hR ok (fun W j1 f1 => ?_)
  have e1 : W 45 1 = _ := (f1 _ _ (by omega)).trans h3
  have e0 : W 45 0 = _ := (f1 _ _ (by omega)).trans h1
  have fin : ∀ nx' : Nat, nx' = (nx + 1) % 40 → K (up (up W 45 1 (nx' : Int)) 45 0 (kmin ((ps.length : Int) + 1) 40)) := by
    intro nx' hn
    refine k _ ⟨?_, nx', by omega, by rw [up_ne (by omega), up_at], fun i hi => ?_⟩ (fun a j ha => by rw [up_ne (by omega), up_ne (by omega)]; exact f1 a j (by omega))
    · rw [up_at, kmin40, rwPush_len]; split <;> omega
    · rw [rwPush_at _ _ hi]
      rw [rwPush_len] at hi
      by_cases e : i = 0
      · subst e
        rw [if_pos rfl, show (nx' + 39 - 0) % 40 = nx by omega]
        exact j1.fr (fun a j ha => by rw [up_ne (by omega), up_ne (by omega)])
      · rw [if_neg e, show (nx' + 39 - i) % 40 = (nx + 39 - (i - 1)) % 40 by omega]
        refine (h4 (i - 1) (by omega)).fr (fun a j ha => ?_)
        rw [up_ne (by omega), up_ne (by omega)]
        exact f1 a j (by omega)
  rw [e1]
  refine ⟨by omega, fun h => ?_, fun h => ?_⟩
  · rw [up_ne (by omega), e0]
    exact ⟨by omega, True.intro, fin 0 (by omega)⟩
  · rw [up_ne (by omega), e0]
    exact ⟨by omega, True.intro, fin (nx + 1) (by omega)⟩
theorem sp_bringBack {K : Int → km_V → Prop} (hP : kPa V ps) (hps : rwOks ps) (k0 : ps = [] → K 0 V) (k1 : ∀ R qs, ps = R :: qs → ∀ W, kRC W 13 R → kPa W qs → (∀ a j, ¬ (13 ≤ a ∧ a ≤ 16 ∨ a = 45) → W a j = V a j) → K 1 W) : kCI xs Lx (d + 1) 39 2 [.ref 45, .ref 13] V K := by
  obtain ⟨h1, nx, h2, h3, h4⟩ := hP
  have l1 := hps.1
  match ps, h1, h4, hps, k0, k1, l1 with
  | [], h1, h4, hps, k0, k1, l1 =>
    refine b39_0 rfl ⟨by rw [h1]; decide, fun h => absurd h1 h, fun _ => ⟨_, rfl, k0 rfl⟩⟩
  | R :: qs, h1, h4, hps, k0, k1, l1 =>
    rw [List.length_cons] at h1 l1
    have ok := hps.2 R List.mem_cons_self
    have r0 := h4 0 (by rw [List.length_cons]; omega)
    rw [gd_cons0] at r0
    have fin : ∀ n : Nat, n = (nx + 39) % 40 → kCV xs Lx (d + 0) 57 2 [.ref 13, .ref (47 + 4 * n)] (up (up V 45 1 (n : Int)) 45 0 ((qs.length : Int) + 1 - 1)) (fun W1 => ∃ x, some (kI 1) = some (kI x) ∧ K x W1) := by
      intro n hn
      have hs : kRC (up (up V 45 1 (n : Int)) 45 0 ((qs.length : Int) + 1 - 1)) (47 + 4 * n) R := by
        rw [show (nx + 39 - 0) % 40 = n by omega] at r0
        exact r0.fr (fun a j ha => by rw [up_ne (by omega), up_ne (by omega)])
      refine sp_copy rfl (past_sh n (by omega)) hs ok (fun W j1 f1 => ⟨_, rfl, k1 R qs rfl W j1 ⟨?_, n, by omega, ?_, fun i hi => ?_⟩ (fun a j ha => by rw [f1 a j (by omega), up_ne (by omega), up_ne (by omega)])⟩)
      · rw [f1 _ _ (by omega), up_at]; omega
      · rw [f1 _ _ (by omega), up_ne (by omega), up_at]
      · have := h4 (i + 1) (by rw [List.length_cons]; omega)
        rw [gd_cons] at this
        rw [show (n + 39 - i) % 40 = (nx + 39 - (i + 1)) % 40 by omega]
        refine this.fr (fun a j ha => ?_)
        have : (nx + 39 - (i + 1)) % 40 < 40 := Nat.mod_lt _ (by omega)
        rw [f1 a j (by omega), up_ne (by omega), up_ne (by omega)]
    refine b39_0 rfl ⟨by omega, fun _ => ⟨by omega, fun h => ?_, fun h => ?_⟩, fun h => by omega⟩
    · have e : up (up V 45 1 39) 45 0 (up V 45 1 39 45 0 - 1) = up (up V 45 1 ((39 : Nat) : Int)) 45 0 ((qs.length : Int) + 1 - 1) := by
        rw [up_ne (show ¬ (45 = 45 ∧ 0 = 1) by omega), h1]; rfl
      rw [e]
      have e2 : up (up V 45 1 ((39 : Nat) : Int)) 45 0 ((qs.length : Int) + 1 - 1) 45 1 = ((39 : Nat) : Int) := by rw [up_ne (by omega), up_at]
      rw [e2]
      exact ⟨by omega, fin 39 (by omega)⟩
    · have e : up (up V 45 1 (V 45 1 - 1)) 45 0 (up V 45 1 (V 45 1 - 1) 45 0 - 1) = up (up V 45 1 ((nx - 1 : Nat) : Int)) 45 0 ((qs.length : Int) + 1 - 1) := by
        rw [up_ne (show ¬ (45 = 45 ∧ 0 = 1) by omega), h1, h3, show (nx : Int) - 1 = ((nx - 1 : Nat) : Int) by omega]; rfl
      rw [e]
      have e2 : up (up V 45 1 ((nx - 1 : Nat) : Int)) 45 0 ((qs.length : Int) + 1 - 1) 45 1 = ((nx - 1 : Nat) : Int) := by rw [up_ne (by omega), up_at]
      rw [e2]
      exact ⟨by omega, fin (nx - 1) (by omega)⟩
theorem kin_eq (v lo hi : Int) : kin v lo hi = if lo ≤ v ∧ v ≤ hi then 1 else 0 := rfl
/-- 78 places copied -/
theorem sp_copies {a b : Nat} {K : km_V → Prop} (ha : km_sh[a]? = some (11, 78)) (hb : km_sh[b]? = some (11, 78)) (hab : a ≠ b) (k : ∀ W, (∀ j, j < 78 → W b j = V a j) → (∀ c j, c ≠ b → W c j = V c j) → K W) : kCV xs Lx (d + 0) 156 3 [.ref a, .ref b] V K := by
  refine b156_0 ha hb ?_
  refine kloop 78 (fun c W => (∀ j, j < c → W b j = V a j) ∧ (∀ c j, c ≠ b → W c j = V c j)) (fun c W => kGo xs Lx (d + 0) 156 2 [some (.ref a), some (.ref b), some (kI (c : Int))] [] W _) (fun W ⟨g1, g2⟩ => ?_) (fun c W hc ⟨g1, g2⟩ ih => ?_) 0 V (Nat.zero_le _) ⟨fun j hj => by omega, fun _ _ _ => rfl⟩
  · exact b156_2 ha hb ⟨by omega, fun _ => ⟨rfl, k W g1 g2⟩, fun h => by omega⟩
  · refine b156_2 ha hb ⟨by omega, fun h => by omega, fun _ => ⟨by omega, ih _ ⟨fun j hj => ?_, fun c' j hc' => by rw [up_ne (by omega)]; exact g2 c' j hc'⟩⟩⟩
    simp only [tn]
    by_cases e : j = c
    · subst e; rw [up_at]; exact g2 a j hab
    · rw [up_ne (by omega)]; exact g1 j (by omega)
theorem sp_marks {K : km_V → Prop} (hR : kRf (V 307) R) (ok : rwOk R) (hP : kPm V ps) (hps : rwOks ps) (k : ∀ W, kPm W (rwPush R ps) → (∀ a j, ¬ (a = 299 ∧ (j = 38 ∨ j = 39) ∨ a = 323) → W a j = V a j) → K W) : kCV xs Lx (d + 0) 176 3 [.ref 299] V K := by
  obtain ⟨h1, e, h2, h3, h4⟩ := hP
  have l1 := hps.1
  have go : ∀ (W0 : km_V) (e' u' : Nat), e' < 40 → u' < 40 → u' ≤ ps.length → min 40 (ps.length + 1) = u' + 1 → W0 299 38 = (e' : Int) → W0 299 39 = (u' : Int) → (∀ i, i < u' → (e' + u' - 1 - i) % 40 = (e + ps.length - 1 - i) % 40) → (∀ a j, ¬ (a = 299 ∧ (j = 38 ∨ j = 39)) → W0 a j = V a j) → ∀ z : Int, z = ((78 * ((e' + u') % 40) : Nat) : Int) → kGo xs Lx (d + 0) 176 50 [some (.ref 299), some (kI z), some (kI 0)] [] W0 (fun r V' => r = none ∧ K V') := by
    intro W0 e' u' he' hu' hul hmin w1 w2 w3 w4 z hz
    subst hz
    have hm : (e' + u') % 40 < 40 := Nat.mod_lt _ (by omega)
    refine kloop 78 (fun c W => (∀ j, j < c → W 323 (78 * ((e' + u') % 40) + j) = V 307 j) ∧ (∀ a j, ¬ (a = 323 ∧ 78 * ((e' + u') % 40) ≤ j ∧ j < 78 * ((e' + u') % 40) + 78) → W a j = W0 a j)) (fun c W => kGo xs Lx (d + 0) 176 50 [some (.ref 299), some (kI ((78 * ((e' + u') % 40) : Nat) : Int)), some (kI (c : Int))] [] W _) (fun W ⟨g1, g2⟩ => ?_) (fun c W hc ⟨g1, g2⟩ ih => ?_) 0 W0 (Nat.zero_le _) ⟨fun j hj => by omega, fun _ _ _ => rfl⟩
    · have q1 : W 299 39 = _ := (g2 _ _ (by omega)).trans w2
      refine b176_50 ⟨by omega, fun _ => ⟨rfl, k _ ⟨?_, e', he', ?_, fun i hi => ?_⟩ (fun a j ha => ?_)⟩, fun h => by omega⟩
      · rw [up_at, q1, rwPush_len, hmin]; rfl
      · rw [up_ne (by omega), g2 _ _ (by omega)]; exact w1
      · rw [rwPush_at _ _ hi]
        rw [rwPush_len, hmin] at hi ⊢
        by_cases e0 : i = 0
        · subst e0
          rw [if_pos rfl, show e' + (u' + 1) - 1 - 0 = e' + u' by omega]
          refine hR.fr ok (fun j hj => ?_)
          rw [up_ne (by omega)]; exact g1 j hj
        · rw [if_neg e0]
          have q2 := w3 (i - 1) (by omega)
          rw [show (e' + (u' + 1) - 1 - i) % 40 = (e + ps.length - 1 - (i - 1)) % 40 by omega]
          have q3 := h4 (i - 1) (by omega)
          refine q3.fr (hps.2 _ (gd_mem (by omega))) (fun j hj => ?_)
          have q4 : (e + ps.length - 1 - (i - 1)) % 40 ≠ (e' + u') % 40 := by omega
          rw [up_ne (by omega), g2 _ _ (by omega), w4 _ _ (by omega)]
      · rw [up_ne (by omega), g2 _ _ (by omega), w4 _ _ (by omega)]
    · refine b176_50 ⟨by omega, fun h => by omega, fun _ => ?_⟩
      simp only [tn, tn_add]
      refine ⟨by omega, by omega, ih _ ⟨fun j hj => ?_, fun a j ha => by rw [up_ne (by omega)]; exact g2 a j ha⟩⟩
      by_cases e2 : j = c
      · subst e2; rw [up_at, g2 _ _ (by omega)]; exact w4 _ _ (by omega)
      · rw [up_ne (by omega)]; exact g1 j (by omega)
  refine b176_0 ⟨by omega, fun h => ⟨by omega, fun z hz => ?_⟩, fun h => ?_⟩
  · rw [h3, h1] at hz
    exact go V e ps.length h2 (by omega) (Nat.le_refl _) (by omega) h3 h1 (fun i hi => rfl) (fun _ _ _ => rfl) z (by omega)
  · simp only [h3, h, up_at, up_ne (show ¬ (299 = 299 ∧ 39 = 38) by omega), up_ne (show ¬ (299 = 299 ∧ 38 = 39) by omega)]
    refine ⟨by omega, by omega, fun z hz => ?_⟩
    refine go _ ((e + 1) % 40) 39 (Nat.mod_lt _ (by omega)) (by omega) (by omega) (by omega) ?_ ?_ (fun i hi => by omega) (fun a j ha => by rw [up_ne (by omega), up_ne (by omega)]) z (by omega)
    · rw [up_ne (by omega), up_at]; omega
    · rw [up_at]; rfl
theorem sp_mundo {K : Int → km_V → Prop} (hP : kPm V ps) (hps : rwOks ps) (k0 : ps = [] → K 0 V) (k1 : ∀ R qs, ps = R :: qs → ∀ W, kRf (W 307) R → kPm W qs → (∀ a j, ¬ (a = 307 ∨ a = 299 ∧ j = 39) → W a j = V a j) → K 1 W) : kCI xs Lx (d + 0) 177 3 [.ref 299] V K := by
  obtain ⟨h1, e, h2, h3, h4⟩ := hP
  have l1 := hps.1
  match ps, h1, h4, hps, k0, k1, l1 with
  | [], h1, h4, hps, k0, k1, l1 =>
    exact b177_0 ⟨by rw [h1]; decide, fun h => absurd h1 h, fun _ => ⟨_, rfl, k0 rfl⟩⟩
  | R :: qs, h1, h4, hps, k0, k1, l1 =>
    rw [List.length_cons] at h1 l1
    have ok := hps.2 R List.mem_cons_self
    have r0 := h4 0 (by rw [List.length_cons]; omega)
    rw [gd_cons0, List.length_cons, show e + (qs.length + 1) - 1 - 0 = e + qs.length by omega] at r0
    have hm : (e + qs.length) % 40 < 40 := Nat.mod_lt _ (by omega)
    refine b177_0 ⟨by omega, fun _ => ?_, fun h => by omega⟩
    simp only [h3, h1, up_at, up_ne (show ¬ (299 = 299 ∧ 38 = 39) by omega)]
    refine ⟨by omega, fun z hz => ?_⟩
    have hz : z = ((78 * ((e + qs.length) % 40) : Nat) : Int) := by omega
    subst hz
    refine kloop 78 (fun c W => (∀ j, j < c → W 307 j = V 323 (78 * ((e + qs.length) % 40) + j)) ∧ (∀ a j, a ≠ 307 → W a j = up V 299 39 ((qs.length + 1 : Nat) - 1 : Int) a j)) (fun c W => kGo xs Lx (d + 0) 177 37 [some (.ref 299), some (kI ((78 * ((e + qs.length) % 40) : Nat) : Int)), some (kI (c : Int))] [] W _) (fun W ⟨g1, g2⟩ => ?_) (fun c W hc ⟨g1, g2⟩ ih => ?_) 0 _ (Nat.zero_le _) ⟨fun j hj => by omega, fun _ _ _ => rfl⟩
    · refine b177_37 ⟨by omega, fun _ => ⟨_, rfl, k1 R qs rfl W (r0.fr ok g1) ⟨?_, e, h2, ?_, fun i hi => ?_⟩ (fun a j ha => ?_)⟩, fun h => by omega⟩
      · rw [g2 _ _ (by omega), up_at]; omega
      · rw [g2 _ _ (by omega), up_ne (by omega)]; exact h3
      · have q1 := h4 (i + 1) (by rw [List.length_cons]; omega)
        rw [gd_cons, List.length_cons, show e + (qs.length + 1) - 1 - (i + 1) = e + qs.length - 1 - i by omega] at q1
        refine q1.fr (hps.2 _ (List.mem_cons_of_mem _ (gd_mem hi))) (fun j hj => ?_)
        rw [g2 _ _ (by omega), up_ne (by omega)]
      · rw [g2 _ _ (by omega), up_ne (by omega)]
    · refine b177_37 ⟨by omega, fun h => by omega, fun _ => ?_⟩
      simp only [tn, tn_add]
      refine ⟨by omega, by omega, ih _ ⟨fun j hj => ?_, fun a j ha => by rw [up_ne (by omega)]; exact g2 a j ha⟩⟩
      by_cases e2 : j = c
      · subst e2; rw [up_at, g2 _ _ (by omega), up_ne (by omega)]
      · rw [up_ne (by omega)]; exact g1 j (by omega)
end PAA

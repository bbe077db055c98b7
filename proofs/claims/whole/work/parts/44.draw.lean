/-! ends round a crossing; edges gone along -/
theorem up_nea {V : km_V} {a i b j : Nat} {x : Int} (h : b ≠ a) : up V a i x b j = V b j := if_neg (fun z => h z.1)
def rwE (R : Rw) (p : Nat) : Nat := if (rwP R).getD p 0 % 2 = 0 then 0 else if R.2.getD ((rwP R).getD p 0 / 2) 0 = 1 then 3 else 1
def rwI (R : Rw) (p : Nat) : Nat := 4 * ((rwP R).getD p 0 / 2) + rwE R p
def rwO (R : Rw) (p : Nat) : Nat := 4 * ((rwP R).getD p 0 / 2) + (rwE R p + 2) % 4
theorem rwE_c (R : Rw) (p : Nat) : ((rwP R).getD p 0 % 2 = 0 ∧ rwE R p = 0) ∨ ((rwP R).getD p 0 % 2 = 1 ∧ (rwE R p = 1 ∨ rwE R p = 3)) := by
  unfold rwE
  by_cases h : (rwP R).getD p 0 % 2 = 0
  · rw [if_pos h]; exact Or.inl ⟨h, rfl⟩
  · rw [if_neg h]
    refine Or.inr ⟨by omega, ?_⟩
    split
    · exact Or.inr rfl
    · exact Or.inl rfl
theorem rwI_inj {R : Rw} (ok : rwOk R) {p q : Nat} (hp : p < (rwP R).length) (hq : q < (rwP R).length) (e : rwI R p = rwI R q) : p = q := by
  have l := ok.len
  have c1 := rwE_c R p
  have c2 := rwE_c R q
  unfold rwI at e
  exact ok.inj (by omega) (by omega) (by omega)
theorem rwO_inj {R : Rw} (ok : rwOk R) {p q : Nat} (hp : p < (rwP R).length) (hq : q < (rwP R).length) (e : rwO R p = rwO R q) : p = q := by
  have l := ok.len
  have c1 := rwE_c R p
  have c2 := rwE_c R q
  unfold rwO at e
  exact ok.inj (by omega) (by omega) (by omega)
theorem rwIO {R : Rw} (ok : rwOk R) {p q : Nat} (hp : p < (rwP R).length) (hq : q < (rwP R).length) : rwI R p ≠ rwO R q := by
  intro e
  have l := ok.len
  have c1 := rwE_c R p
  have c2 := rwE_c R q
  unfold rwI rwO at e
  have : p = q := ok.inj (by omega) (by omega) (by omega)
  subst this
  omega
theorem rwI_lt {R : Rw} (ok : rwOk R) {p : Nat} (hp : p < (rwP R).length) : rwI R p < 2 * (rwP R).length := by
  have l := ok.len
  have c1 := rwE_c R p
  have := ok.lt p (by omega)
  unfold rwI
  omega
theorem rwO_lt {R : Rw} (ok : rwOk R) {p : Nat} (hp : p < (rwP R).length) : rwO R p < 2 * (rwP R).length := by
  have l := ok.len
  have c1 := rwE_c R p
  have := ok.lt p (by omega)
  unfold rwO
  omega
/-- every end is one of a pass -/
theorem rwIO_all {R : Rw} (ok : rwOk R) {e : Nat} (he : e < 2 * (rwP R).length) : ∃ p, p < (rwP R).length ∧ (e = rwI R p ∨ e = rwO R p) := by
  have l := ok.len
  by_cases h : e % 2 = 0
  · obtain ⟨p, hp, hx⟩ := ok.sur (x := 2 * (e / 4)) (by omega)
    have c1 := rwE_c R p
    refine ⟨p, by omega, ?_⟩
    unfold rwI rwO
    omega
  · obtain ⟨p, hp, hx⟩ := ok.sur (x := 2 * (e / 4) + 1) (by omega)
    have c1 := rwE_c R p
    refine ⟨p, by omega, ?_⟩
    unfold rwI rwO
    omega
theorem rwAh_inj {R : Rw} {p q : Nat} (hp : p < (rwP R).length) (hq : q < (rwP R).length) (e : rwAh R p = rwAh R q) : p = q := by
  rw [← rwNx_Ah hp, ← rwNx_Ah hq, e]
/-- the end at which one comes, the way by which one leaves, the way behind a corner -/
def rwRe (R : Rw) (w : Nat) : Nat := if w % 2 = 0 then rwI R (rwNx R (w / 2)) else rwO R (w / 2)
def rwLv (R : Rw) (e : Nat) : Nat := match (List.range (rwP R).length).find? (fun p => rwI R p == e) with
  | some p => 2 * rwAh R p + 1
  | none => match (List.range (rwP R).length).find? (fun p => rwO R p == e) with
    | some p => 2 * p
    | none => 0
def rwT (R : Rw) (w : Nat) : Nat := rwLv R (4 * (rwRe R w / 4) + (rwRe R w + 1) % 4)
theorem find_uni {n p e : Nat} {f : Nat → Nat} (hp : p < n) (he : f p = e) (uni : ∀ q, q < n → f q = e → q = p) : (List.range n).find? (fun q => f q == e) = some p := by
  cases h : (List.range n).find? (fun q => f q == e) with
  | none =>
    have := List.find?_eq_none.mp h p (List.mem_range.mpr hp)
    exact absurd (beq_iff_eq.mpr he) this
  | some q =>
    have h1 := List.find?_some h
    have h2 := List.mem_range.mp (List.mem_of_find?_eq_some h)
    rw [uni q h2 (beq_iff_eq.mp h1)]
theorem rwLv_I {R : Rw} (ok : rwOk R) {p : Nat} (hp : p < (rwP R).length) : rwLv R (rwI R p) = 2 * rwAh R p + 1 := by
  unfold rwLv
  rw [find_uni hp rfl (fun q hq e => rwI_inj ok hq hp e)]
theorem rwLv_O {R : Rw} (ok : rwOk R) {p : Nat} (hp : p < (rwP R).length) : rwLv R (rwO R p) = 2 * p := by
  unfold rwLv
  have : (List.range (rwP R).length).find? (fun q => rwI R q == rwO R p) = none := by
    rw [List.find?_eq_none]
    intro q hq e
    exact rwIO ok (List.mem_range.mp hq) hp (beq_iff_eq.mp e)
  rw [this, find_uni hp rfl (fun q hq e => rwO_inj ok hq hp e)]
theorem rwLv_lt {R : Rw} (ok : rwOk R) {e : Nat} (he : e < 2 * (rwP R).length) : rwLv R e < 2 * (rwP R).length := by
  obtain ⟨p, hp, h | h⟩ := rwIO_all ok he
  · rw [h, rwLv_I ok hp]
    have := rwAh_lt hp
    omega
  · rw [h, rwLv_O ok hp]; omega
theorem rwRe_lt {R : Rw} (ok : rwOk R) {w : Nat} (hw : w < 2 * (rwP R).length) : rwRe R w < 2 * (rwP R).length := by
  unfold rwRe
  split
  · exact rwI_lt ok (rwNx_lt (by omega))
  · exact rwO_lt ok (by omega)
theorem rwT_lt {R : Rw} (ok : rwOk R) {w : Nat} (hw : w < 2 * (rwP R).length) : rwT R w < 2 * (rwP R).length := by
  unfold rwT
  have := rwRe_lt ok hw
  have := ok.len
  exact rwLv_lt ok (by omega)
/-- the class's edges -/
def kDE (V : km_V) (t : Nat) (R : Rw) : Prop := (∀ p, p < (rwP R).length → V (t + 1) p = (rwNx R p : Int) ∧ V (t + 2) p = (rwAh R p : Int) ∧ V (t + 3) p = (rwG R p : Int)) ∧ (∀ p, p < (rwP R).length → ((rwP R).getD p 0 % 2 = 1 → V (t + 4) ((rwP R).getD p 0 / 2) = (p : Int)) ∧ ((rwP R).getD p 0 % 2 = 0 → V (t + 5) ((rwP R).getD p 0 / 2) = (p : Int))) ∧ (∀ e, e < 2 * (rwP R).length → V (t + 6) e = (rwLv R e : Int)) ∧ (∀ w, w < 2 * (rwP R).length → V (t + 7) w = (rwRe R w : Int))
theorem kDE.fr {V W : km_V} {t : Nat} {R : Rw} (h : kDE V t R) (hf : ∀ a j, t + 1 ≤ a ∧ a ≤ t + 7 → W a j = V a j) : kDE W t R := by
  obtain ⟨h1, h2, h3, h4⟩ := h
  refine ⟨fun p hp => ?_, fun p hp => ?_, fun e he => ?_, fun w hw => ?_⟩
  · rw [hf _ p (by omega), hf _ p (by omega), hf _ p (by omega)]; exact h1 p hp
  · rw [hf _ _ (by omega), hf _ _ (by omega)]; exact h2 p hp
  · rw [hf _ _ (by omega)]; exact h3 e he
  · rw [hf _ _ (by omega)]; exact h4 w hw
section DRA
variable {xs : Nat → Int32} {Lx d : Nat} {V : km_V} {t r : Nat} {R : Rw}
theorem sp_joinPasses {K : km_V → Prop} (ht : km_sh[t]? = some (2, 11)) (hr : km_sh[r]? = some (5, 5)) (ap : r + 3 < t ∨ t + 10 < r) (hR : kRC V r R) (ok : rwOk R) (k : ∀ W, (∀ p, p < (rwP R).length → W (t + 1) p = (rwNx R p : Int) ∧ W (t + 2) p = (rwAh R p : Int) ∧ W (t + 3) p = (rwG R p : Int)) → (∀ a j, ¬ (t + 1 ≤ a ∧ a ≤ t + 3) → W a j = V a j) → K W) : kCV xs Lx (d + 0) 22 7 [.ref t, .ref r] V K := by
  obtain ⟨h1, h2, h3, h4, h5⟩ := hR
  have o1 := ok.1
  have o2 := ok.2.1
  have o3 := ok.len
  refine b22_0 ht hr ?_
  refine kloop R.1.length (fun c W => (∀ p, p < rwF R c → W (t + 1) p = (rwNx R p : Int) ∧ W (t + 2) p = (rwAh R p : Int) ∧ W (t + 3) p = (rwG R p : Int)) ∧ (∀ a j, ¬ (t + 1 ≤ a ∧ a ≤ t + 3) → W a j = V a j))
    (fun c W => kGo xs Lx (d + 0) 22 2 [some (.ref t), some (.ref r), some (kI (c : Int)), none, none, none, none] [] W _) (fun W ⟨f1, f2⟩ => ?_) (fun c W hc ⟨f1, f2⟩ ih => ?_) 0 V (Nat.zero_le _) ⟨fun p hp => by rw [rwF_zero] at hp; omega, fun _ _ _ => rfl⟩
  · have e0 : W r 0 = _ := (f2 r 0 (by omega)).trans h1
    refine b22_2 ht hr ⟨by omega, by omega, fun _ => ⟨rfl, k W (fun p hp => f1 p (by rw [rwF_all]; exact hp)) f2⟩, fun h => by omega⟩
  · have e0 : W r 0 = _ := (f2 r 0 (by omega)).trans h1
    have e1 : W (r + 1) c = _ := (f2 _ c (by omega)).trans (h3 c (by omega))
    have e2 : W (r + 1) (c + 1) = _ := (f2 _ (c + 1) (by omega)).trans (h3 (c + 1) (by omega))
    have e3 := rwF_succ hc
    have e4 := rwF_end hc
    refine b22_2 ht hr ⟨by omega, by omega, fun h => by omega, fun h => ⟨by omega, fun z hz => ⟨by omega, fun z2 hz2 => ?_⟩⟩⟩
    rw [tn, e1] at hz
    rw [tn1, e2, e3] at hz2
    subst hz hz2
    refine kloop (rwL R c) (fun j W' => (∀ p, p < rwF R c → W' (t + 1) p = (rwNx R p : Int) ∧ W' (t + 2) p = (rwAh R p : Int) ∧ W' (t + 3) p = (rwG R p : Int)) ∧ (∀ i, i < j → W' (t + 1) (rwF R c + i) = (rwNx R (rwF R c + i) : Int) ∧ W' (t + 2) (if i + 1 < rwL R c then rwF R c + i + 1 else rwF R c) = ((rwF R c + i : Nat) : Int) ∧ W' (t + 3) (rwF R c + i) = (c : Int)) ∧ (∀ a j, ¬ (t + 1 ≤ a ∧ a ≤ t + 3) → W' a j = V a j))
      (fun j W' => kGo xs Lx (d + 0) 22 30 [some (.ref t), some (.ref r), some (kI (c : Int)), some (kI (rwF R c : Int)), some (kI ((rwF R c + rwL R c : Nat) : Int)), some (kI ((rwF R c + j : Nat) : Int)), none] [] W' _) (fun W' ⟨g1, g2, g3⟩ => ?_) (fun j W' hj ⟨g1, g2, g3⟩ ih2 => ?_) 0 W (Nat.zero_le _) ⟨f1, fun i hi => by omega, f2⟩
    · refine b22_30 ht hr ⟨by omega, by omega, fun _ => ih W' ⟨fun p hp => ?_, g3⟩, fun h => by omega⟩
      by_cases e : p < rwF R c
      · exact g1 p e
      · obtain ⟨i, rfl⟩ : ∃ i, p = rwF R c + i := ⟨p - rwF R c, by omega⟩
        have hi : i < rwL R c := by omega
        refine ⟨(g2 i hi).1, ?_, ?_⟩
        · rw [rwAh_F hc hi]
          by_cases e0 : i = 0
          · subst e0
            have := (g2 (rwL R c - 1) (by omega)).2.1
            rw [if_neg (by omega)] at this
            rw [if_pos rfl]; exact this
          · have := (g2 (i - 1) (by omega)).2.1
            rw [if_pos (by omega), show rwF R c + (i - 1) + 1 = rwF R c + i by omega] at this
            rw [if_neg e0]; exact this
        · rw [rwG_F hc hi]; exact (g2 i hi).2.2
    · have n1 := rwNx_F hc hj
      have fin : ∀ z : Nat, z = rwNx R (rwF R c + j) → (∀ p, p < rwF R c → up (up (up W' (t + 1) (rwF R c + j) (z : Int)) (t + 2) z ((rwF R c + j : Nat) : Int)) (t + 3) (rwF R c + j) (c : Int) (t + 1) p = (rwNx R p : Int) ∧ up (up (up W' (t + 1) (rwF R c + j) (z : Int)) (t + 2) z ((rwF R c + j : Nat) : Int)) (t + 3) (rwF R c + j) (c : Int) (t + 2) p = (rwAh R p : Int) ∧ up (up (up W' (t + 1) (rwF R c + j) (z : Int)) (t + 2) z ((rwF R c + j : Nat) : Int)) (t + 3) (rwF R c + j) (c : Int) (t + 3) p = (rwG R p : Int)) ∧ (∀ i, i < j + 1 → up (up (up W' (t + 1) (rwF R c + j) (z : Int)) (t + 2) z ((rwF R c + j : Nat) : Int)) (t + 3) (rwF R c + j) (c : Int) (t + 1) (rwF R c + i) = (rwNx R (rwF R c + i) : Int) ∧ up (up (up W' (t + 1) (rwF R c + j) (z : Int)) (t + 2) z ((rwF R c + j : Nat) : Int)) (t + 3) (rwF R c + j) (c : Int) (t + 2) (if i + 1 < rwL R c then rwF R c + i + 1 else rwF R c) = ((rwF R c + i : Nat) : Int) ∧ up (up (up W' (t + 1) (rwF R c + j) (z : Int)) (t + 2) z ((rwF R c + j : Nat) : Int)) (t + 3) (rwF R c + j) (c : Int) (t + 3) (rwF R c + i) = (c : Int)) ∧ (∀ a b, ¬ (t + 1 ≤ a ∧ a ≤ t + 3) → up (up (up W' (t + 1) (rwF R c + j) (z : Int)) (t + 2) z ((rwF R c + j : Nat) : Int)) (t + 3) (rwF R c + j) (c : Int) a b = V a b) := by
        intro z hz
        refine ⟨fun p hp => ⟨?_, ?_, ?_⟩, fun i hi => ⟨?_, ?_, ?_⟩, fun a b ha => ?_⟩
        · rw [up_ne (by omega), up_ne (by omega), up_ne (by omega)]; exact (g1 p hp).1
        · rw [up_ne (by omega), up_ne (by omega), up_ne (by omega)]; exact (g1 p hp).2.1
        · rw [up_ne (by omega), up_ne (by omega), up_ne (by omega)]; exact (g1 p hp).2.2
        · rw [up_ne (by omega), up_ne (by omega)]
          by_cases e : i = j
          · subst e; rw [up_at, hz]
          · rw [up_ne (by omega)]; exact (g2 i (by omega)).1
        · rw [up_ne (by omega)]
          by_cases e : i = j
          · subst e
            by_cases e1 : i + 1 < rwL R c
            · rw [if_pos e1] at n1 ⊢
              rw [hz, n1, ← Nat.add_assoc, up_at]
            · rw [if_neg e1] at n1 ⊢
              rw [hz, n1]; exact up_at _ _ _ _
          · have q1 : i + 1 < rwL R c := by omega
            rw [up_ne (by rw [if_pos q1, hz, n1]; split <;> omega), up_ne (by omega)]
            exact (g2 i (by omega)).2.1
        · by_cases e : i = j
          · subst e; rw [up_at]
          · rw [up_ne (by omega), up_ne (by omega), up_ne (by omega)]; exact (g2 i (by omega)).2.2
        · rw [up_ne (by omega), up_ne (by omega), up_ne (by omega)]; exact g3 a b ha
      refine b22_30 ht hr ⟨by omega, by omega, fun h => by omega, fun h => ⟨by omega, fun h => ?_, fun h => ?_⟩⟩
      · simp only [tn]
        refine ⟨by omega, by omega, ih2 _ (fin (rwF R c) ?_)⟩
        rw [n1, if_neg (by omega)]; rfl
      · simp only [tn, tn1]
        refine ⟨by omega, by omega, ih2 _ (fin (rwF R c + j + 1) ?_)⟩
        rw [n1, if_pos (by omega)]; omega
end DRA
theorem xor1 (x : Nat) : (x ^^^ 1) / 2 = x / 2 ∧ (x ^^^ 1) % 2 = 1 - x % 2 := by
  constructor
  · rw [Nat.xor_div_two]; exact Nat.xor_zero _
  · have := @Nat.xor_mod_two_eq_one x 1
    omega
theorem xo1 (a : Nat) : (Int.toNat (2 * (a : Int) + 1) ^^^ Int.toNat 1) = 2 * a := by
  have := xor1 (2 * a + 1)
  show (2 * a + 1) ^^^ 1 = 2 * a
  omega
theorem xo0 (a : Nat) : (Int.toNat (2 * (a : Int)) ^^^ Int.toNat 1) = 2 * a + 1 := by
  have := xor1 (2 * a)
  show (2 * a) ^^^ 1 = 2 * a + 1
  omega
theorem xoE (R : Rw) (p : Nat) : (rwE R p ^^^ Int.toNat 2) = (rwE R p + 2) % 4 := by
  rcases rwE_c R p with ⟨-, h⟩ | ⟨-, h | h⟩ <;> rw [h] <;> rfl
section DRB
variable {xs : Nat → Int32} {Lx d : Nat} {V : km_V} {t r : Nat} {R : Rw}
theorem je_step {W : km_V} {c : Nat} (ok : rwOk R) (hc : c < (rwP R).length) (hB : ∀ p, p < c → W (t + 6) (rwI R p) = ((2 * rwAh R p + 1 : Nat) : Int) ∧ W (t + 6) (rwO R p) = ((2 * p : Nat) : Int) ∧ W (t + 7) (2 * rwAh R p) = (rwI R p : Int) ∧ W (t + 7) (2 * p + 1) = (rwO R p : Int)) {U : km_V}
    (hU : U = up (up (up (up W (t + 6) (rwI R c) ((2 * rwAh R c + 1 : Nat) : Int)) (t + 7) (2 * rwAh R c) (rwI R c : Int)) (t + 6) (rwO R c) ((2 * c : Nat) : Int)) (t + 7) (2 * c + 1) (rwO R c : Int)) :
    ∀ p, p < c + 1 → U (t + 6) (rwI R p) = ((2 * rwAh R p + 1 : Nat) : Int) ∧ U (t + 6) (rwO R p) = ((2 * p : Nat) : Int) ∧ U (t + 7) (2 * rwAh R p) = (rwI R p : Int) ∧ U (t + 7) (2 * p + 1) = (rwO R p : Int) := by
  intro p hp
  subst hU
  have n1 := rwIO ok (show p < _ by omega) hc
  have n2 := rwIO ok hc (show p < _ by omega)
  by_cases e : p = c
  · subst e
    refine ⟨?_, ?_, ?_, ?_⟩
    · rw [up_ne (by omega), up_ne (by omega), up_ne (by omega), up_at]
    · rw [up_ne (by omega), up_at]
    · rw [up_ne (by omega), up_ne (by omega), up_at]
    · rw [up_at]
  · obtain ⟨b1, b2, b3, b4⟩ := hB p (by omega)
    have n3 : rwI R p ≠ rwI R c := fun z => e (rwI_inj ok (by omega) hc z)
    have n4 : rwO R p ≠ rwO R c := fun z => e (rwO_inj ok (by omega) hc z)
    have n5 : rwAh R p ≠ rwAh R c := fun z => e (rwAh_inj (by omega) hc z)
    refine ⟨?_, ?_, ?_, ?_⟩
    · rw [up_ne (by omega), up_ne (by omega), up_ne (by omega), up_ne (by omega)]; exact b1
    · rw [up_ne (by omega), up_ne (by omega), up_ne (by omega), up_ne (by omega)]; exact b2
    · rw [up_ne (by omega), up_ne (by omega), up_ne (by omega), up_ne (by omega)]; exact b3
    · rw [up_ne (by omega), up_ne (by omega), up_ne (by omega), up_ne (by omega)]; exact b4
theorem sp_joinEnds {K : km_V → Prop} (ht : km_sh[t]? = some (2, 11)) (hr : km_sh[r]? = some (5, 5)) (ap : r + 3 < t ∨ t + 10 < r) (hR : kRC V r R) (ok : rwOk R) (hJ : ∀ p, p < (rwP R).length → V (t + 1) p = (rwNx R p : Int) ∧ V (t + 2) p = (rwAh R p : Int) ∧ V (t + 3) p = (rwG R p : Int)) (k : ∀ W, kDE W t R → (∀ a j, ¬ (t + 4 ≤ a ∧ a ≤ t + 7) → W a j = V a j) → K W) : kCV xs Lx (d + 1) 23 5 [.ref t, .ref r] V K := by
  obtain ⟨h1, h2, h3, h4, h5⟩ := hR
  have o1 := ok.1
  have o2 := ok.2.1
  have o3 := ok.len
  refine b23_0 ht hr ?_
  refine kloop (rwP R).length (fun c W => (∀ p, p < c → ((rwP R).getD p 0 % 2 = 1 → W (t + 4) ((rwP R).getD p 0 / 2) = (p : Int)) ∧ ((rwP R).getD p 0 % 2 = 0 → W (t + 5) ((rwP R).getD p 0 / 2) = (p : Int))) ∧ (∀ p, p < c → W (t + 6) (rwI R p) = ((2 * rwAh R p + 1 : Nat) : Int) ∧ W (t + 6) (rwO R p) = ((2 * p : Nat) : Int) ∧ W (t + 7) (2 * rwAh R p) = (rwI R p : Int) ∧ W (t + 7) (2 * p + 1) = (rwO R p : Int)) ∧ (∀ a j, ¬ (t + 4 ≤ a ∧ a ≤ t + 7) → W a j = V a j))
    (fun c W => kGo xs Lx (d + 1) 23 2 [some (.ref t), some (.ref r), some (kI (c : Int)), none, none] [] W _) (fun W ⟨f1, f2, f3⟩ => ?_) (fun c W hc ⟨f1, f2, f3⟩ ih => ?_) 0 V (Nat.zero_le _) ⟨fun p hp => by omega, fun p hp => by omega, fun _ _ _ => rfl⟩
  · have e1 : W r 1 = _ := (f3 r 1 (by omega)).trans h2
    refine b23_2 ht hr ⟨by omega, by omega, fun _ => ⟨rfl, k W ⟨fun p hp => ?_, f1, fun e he => ?_, fun w hw => ?_⟩ f3⟩, fun h => by omega⟩
    · rw [f3 _ _ (by omega), f3 _ _ (by omega), f3 _ _ (by omega)]; exact hJ p hp
    · obtain ⟨p, hp, h | h⟩ := rwIO_all ok he
      · rw [h, rwLv_I ok hp]; exact (f2 p hp).1
      · rw [h, rwLv_O ok hp]; exact (f2 p hp).2.1
    · unfold rwRe
      by_cases hw2 : w % 2 = 0
      · rw [if_pos hw2]
        have h6 : w / 2 < (rwP R).length := by omega
        have := (f2 (rwNx R (w / 2)) (rwNx_lt h6)).2.2.1
        rw [rwAh_Nx h6, show 2 * (w / 2) = w by omega] at this
        exact this
      · rw [if_neg hw2]
        have := (f2 (w / 2) (by omega)).2.2.2
        rw [show 2 * (w / 2) + 1 = w by omega] at this
        exact this
  · have e1 : W r 1 = _ := (f3 r 1 (by omega)).trans h2
    have e2 : W (r + 2) c = _ := (f3 _ c (by omega)).trans (h4 c hc)
    have l1 := ok.lt c (by omega)
    have a1 := rwAh_lt hc
    have lI := rwI_lt ok hc
    have lO := rwO_lt ok hc
    -- behind the store of the pass at its crossing
    have fin : ∀ W1 : km_V, (∀ a j, ¬ (a = t + 4 ∨ a = t + 5) → W1 a j = W a j) → (∀ p, p < c + 1 → ((rwP R).getD p 0 % 2 = 1 → W1 (t + 4) ((rwP R).getD p 0 / 2) = (p : Int)) ∧ ((rwP R).getD p 0 % 2 = 0 → W1 (t + 5) ((rwP R).getD p 0 / 2) = (p : Int))) → kGo xs Lx (d + 1) 23 60 [some (.ref t), some (.ref r), some (kI (c : Int)), some (kI (((rwP R).getD c 0 / 2 : Nat) : Int)), some (kI (rwE R c : Int))] [] W1 (fun r V' => r = none ∧ K V') := by
      intro W1 g1 g2
      have q2 : W1 (t + 2) c = (rwAh R c : Int) := by rw [g1 _ _ (by omega), f3 _ _ (by omega)]; exact (hJ c hc).2.1
      have eI : 4 * (((rwP R).getD c 0 / 2 : Nat) : Int) + (rwE R c : Int) = (rwI R c : Int) := by unfold rwI; omega
      have eO : 4 * (((rwP R).getD c 0 / 2 : Nat) : Int) + (((rwE R c + 2) % 4 : Nat) : Int) = (rwO R c : Int) := by unfold rwO; omega
      refine b23_60 ht hr ?_
      simp only [tn, q2, xo1, xo0, xoE, eI, eO]
      refine ⟨by omega, by omega, by omega, by omega, by omega, by omega, by omega, by omega, ?_⟩
      refine ih _ ⟨fun p hp => ?_, je_step (W := W1) ok hc (fun p hp => ?_) rfl, fun a j ha => ?_⟩
      · rw [up_ne (by omega), up_ne (by omega), up_ne (by omega), up_ne (by omega), up_ne (by omega), up_ne (by omega), up_ne (by omega), up_ne (by omega)]
        exact g2 p hp
      · rw [g1 _ _ (by omega), g1 _ _ (by omega), g1 _ _ (by omega), g1 _ _ (by omega)]; exact f2 p hp
      · rw [up_ne (by omega), up_ne (by omega), up_ne (by omega), up_ne (by omega), g1 _ _ (by omega)]; exact f3 a j ha
    refine b23_2 ht hr ⟨by omega, by omega, fun h => by omega, fun h => ?_⟩
    simp only [tn, e2]
    refine ⟨by omega, by omega, fun z hz => ?_⟩
    have hz : z = (((rwP R).getD c 0 / 2 : Nat) : Int) := hz
    subst hz
    simp only [tn]
    have cE := rwE_c R c
    refine ⟨by omega, by omega, fun h => ⟨by omega, ?_⟩, fun h => ⟨by omega, ?_⟩⟩
    · have hE : rwE R c = 0 := by omega
      rw [hE] at fin
      refine fin _ (fun a j ha => up_ne (by omega)) (fun p hp => ⟨fun h' => ?_, fun h' => ?_⟩)
      · rw [up_ne (by omega)]
        refine (f1 p ?_).1 h'
        by_cases e : p = c
        · subst e; omega
        · omega
      · by_cases e : p = c
        · subst e; rw [up_at]
        · have : (rwP R).getD p 0 / 2 ≠ (rwP R).getD c 0 / 2 := fun z => e (ok.inj (by omega) (by omega) (by omega))
          rw [up_ne (by omega)]; exact (f1 p (by omega)).2 h'
    · have sg := ok.sg ((rwP R).getD c 0 / 2) (by omega)
      have e3 : W (r + 3) ((rwP R).getD c 0 / 2) = _ := (f3 _ _ (by omega)).trans (h5 _ (by omega))
      have hE : rwE R c = if R.2.getD ((rwP R).getD c 0 / 2) 0 = 1 then 3 else 1 := by unfold rwE; rw [if_neg (by omega)]
      have g2 : ∀ p, p < c + 1 → ((rwP R).getD p 0 % 2 = 1 → up W (t + 4) ((rwP R).getD c 0 / 2) (c : Int) (t + 4) ((rwP R).getD p 0 / 2) = (p : Int)) ∧ ((rwP R).getD p 0 % 2 = 0 → up W (t + 4) ((rwP R).getD c 0 / 2) (c : Int) (t + 5) ((rwP R).getD p 0 / 2) = (p : Int)) := by
        intro p hp
        refine ⟨fun h' => ?_, fun h' => ?_⟩
        · by_cases e : p = c
          · subst e; rw [up_at]
          · have : (rwP R).getD p 0 / 2 ≠ (rwP R).getD c 0 / 2 := fun z => e (ok.inj (by omega) (by omega) (by omega))
            rw [up_ne (by omega)]; exact (f1 p (by omega)).1 h'
        · rw [up_ne (by omega)]
          refine (f1 p ?_).2 h'
          by_cases e : p = c
          · subst e; omega
          · omega
      refine ⟨by rw [e3]; omega, fun h => ?_, fun h => ?_⟩
      · rw [e3] at h
        rw [hE, if_neg (by omega)] at fin
        exact fin _ (fun a j ha => up_ne (by omega)) g2
      · rw [e3] at h
        rw [hE, if_pos (by omega)] at fin
        exact fin _ (fun a j ha => up_ne (by omega)) g2
end DRB

/-! a ring the other way round -/
def rv (l : List Nat) : List Nat := l.take 1 ++ (l.drop 1).reverse
theorem rv_len (l : List Nat) : (rv l).length = l.length := by
  unfold rv; rw [List.length_append, List.length_take, List.length_reverse, List.length_drop]; omega
theorem rv_0 (l : List Nat) : (rv l).getD 0 0 = l.getD 0 0 := by
  cases l with
  | nil => rfl
  | cons a t => rfl
theorem rv_at {l : List Nat} {j : Nat} (h0 : 1 ≤ j) (h : j < l.length) : (rv l).getD j 0 = l.getD (l.length - j) 0 := by
  unfold rv
  rw [gd_appr (by rw [List.length_take]; omega), List.length_take, gd_lt (by rw [List.length_reverse, List.length_drop]; omega), List.getElem_reverse, List.getElem_drop, gd_lt (by omega)]
  congr 1
  rw [List.length_drop]; omega
theorem rv_perm (l : List Nat) : (rv l).Perm l := by
  unfold rv
  have h := List.Perm.append_left (l.take 1) (List.reverse_perm (l.drop 1))
  rw [List.take_append_drop] at h
  exact h
def rvB (l : List Nat) (c : Nat) : Bool := xor (decide (2 * c ∈ l)) (decide (2 * c + 1 ∈ l))
def rwRev (i : Nat) (R : Rw) : Rw := (R.1.set i (rv (rwR R i)), (List.range (rwn R)).map (fun c => if rvB (rwR R i) c then - R.2.getD c 0 else R.2.getD c 0))
theorem rwRev_len (i : Nat) (R : Rw) : (rwRev i R).1.length = R.1.length := List.length_set
theorem rwRev_n (i : Nat) (R : Rw) : rwn (rwRev i R) = rwn R := by
  unfold rwRev rwn; rw [List.length_map, List.length_range]
theorem rwRev_R {i k : Nat} {R : Rw} (h : i < R.1.length) : rwR (rwRev i R) k = if k = i then rv (rwR R i) else rwR R k := by
  unfold rwRev rwR
  exact gd_set h
theorem rwRev_L {i k : Nat} {R : Rw} (h : i < R.1.length) : rwL (rwRev i R) k = rwL R k := by
  unfold rwL
  rw [rwRev_R h]
  by_cases e : k = i
  · rw [if_pos e, rv_len, e]
  · rw [if_neg e]
theorem rwF_ext {R S : Rw} (h : R.1.length = S.1.length) (hl : ∀ k, k < R.1.length → rwL R k = rwL S k) : ∀ k, k ≤ R.1.length → rwF R k = rwF S k := by
  intro k
  induction k with
  | zero => intro _; rfl
  | succ k ih => intro hk; rw [rwF_succ (by omega), rwF_succ (R := S) (by omega), ih (by omega), hl k (by omega)]
theorem rwRev_F {i k : Nat} {R : Rw} (h : i < R.1.length) (hk : k ≤ R.1.length) : rwF (rwRev i R) k = rwF R k := rwF_ext (rwRev_len i R) (fun _ _ => rwRev_L h) k (by rw [rwRev_len]; exact hk)
theorem rwRev_s {i c : Nat} {R : Rw} (hc : c < rwn R) : (rwRev i R).2.getD c 0 = if rvB (rwR R i) c then - R.2.getD c 0 else R.2.getD c 0 := gd_rmap hc
theorem set_perm {l : List (List Nat)} {i : Nat} {a : List Nat} (h : i < l.length) (p : a.Perm (l.getD i [])) : (l.set i a).flatten.Perm l.flatten := by
  have e1 : l.set i a = l.take i ++ a :: l.drop (i + 1) := List.set_eq_take_append_cons_drop.trans (if_pos h)
  have e2 : l = l.take i ++ l.getD i [] :: l.drop (i + 1) := by
    rw [gd_lt h, ← List.drop_eq_getElem_cons h, List.take_append_drop]
  rw [e1]
  conv => rhs; rw [e2]
  rw [List.flatten_append, List.flatten_append, List.flatten_cons, List.flatten_cons]
  exact List.Perm.append_left _ (List.Perm.append_right _ p)
theorem rwRev_ok {i : Nat} {R : Rw} (ok : rwOk R) (h : i < R.1.length) : rwOk (rwRev i R) := by
  refine ⟨by rw [rwRev_len]; exact ok.1, by rw [rwRev_n]; exact ok.2.1, ?_, fun s hs => ?_⟩
  · rw [rwRev_n]
    exact (set_perm h (rv_perm _)).trans ok.2.2.1
  · obtain ⟨c, hc, rfl⟩ := List.mem_map.mp hs
    have := ok.sg c (List.mem_range.mp hc)
    split <;> omega
theorem rwRev_at {i p : Nat} {R : Rw} (ok : rwOk R) (h : i < R.1.length) (hp : p < 2 * rwn R) : (rwP (rwRev i R)).getD p 0 = if rwF R i + 1 ≤ p ∧ p < rwF R i + rwL R i then (rwP R).getD (2 * rwF R i + rwL R i - p) 0 else (rwP R).getD p 0 := by
  have lp := (rwRev_ok ok h).len
  rw [rwRev_n] at lp
  obtain ⟨k, j, hk, hj, e⟩ := rw_split (R := rwRev i R) (p := p) (by omega)
  have hk2 := hk
  rw [rwRev_len] at hk2
  rw [e, rwP_at hk hj, rwRev_R h, rwRev_F h (by omega)]
  rw [rwRev_L h] at hj
  by_cases z : k = i
  · subst z
    rw [if_pos rfl]
    by_cases z2 : j = 0
    · subst z2
      rw [rv_0, if_neg (by omega), rwP_at hk2 hj]
    · rw [rv_at (by omega) hj, if_pos (by omega)]
      rw [show 2 * rwF R k + rwL R k - (rwF R k + j) = rwF R k + (rwL R k - j) by omega, rwP_at hk2 (by omega)]
      rfl
  · rw [if_neg z, if_neg, rwP_at hk2 hj]
    intro ⟨c1, c2⟩
    have := rw_uni (i := k) (j := j) (i' := i) (j' := rwF R k + j - rwF R i) hk2 hj h (by omega) (by omega)
    exact z this.1
theorem ring_mem {R : Rw} (ok : rwOk R) {p i : Nat} (hp : p < (rwP R).length) (hi : i < R.1.length) : (rwG R p = i ↔ (rwP R).getD p 0 ∈ rwR R i) := by
  have l := ok.len
  obtain ⟨k, j, hk, hj, rfl⟩ := rw_split hp
  rw [rwG_F hk hj, rwP_at hk hj]
  constructor
  · intro e; subst e; exact gd_mem hj
  · intro hm
    obtain ⟨q, hq, e⟩ := List.getElem_of_mem hm
    have fe := rwF_end hi
    have e2 : (rwP R).getD (rwF R i + q) 0 = (rwP R).getD (rwF R k + j) 0 := by
      rw [rwP_at hi hq, rwP_at hk hj, gd_lt hq]; exact e
    have hq2 : q < rwL R i := hq
    have := ok.inj (by omega) (by omega) e2
    exact (rw_uni hi hq2 hk hj this).1.symm
section REV
variable {xs : Nat → Int32} {Lx d : Nat} {V : km_V} {t u : Nat} {R : Rw}
theorem sp_reverse {i : Nat} {K : km_V → Prop} (ht : km_sh[t]? = some (5, 5)) (hu : km_sh[u]? = some (2, 11)) (ap : u + 10 < t ∨ t + 3 < u) (hR : kRC V t R) (ok : rwOk R) (hE : kDE V u R) (hi : i < R.1.length) (k : ∀ W, kRC W t (rwRev i R) → (∀ b j, ¬ (t ≤ b ∧ b ≤ t + 3) → W b j = V b j) → K W) : kCV xs Lx (d + 1) 67 6 [.ref t, kI (i : Int), .ref u] V K := by
  obtain ⟨h1, h2, h3, h4, h5⟩ := id hR
  have o1 := ok.1
  have o2 := ok.2.1
  have o3 := ok.len
  have fe := rwF_end hi
  have fs := rwF_succ hi
  refine b67_0 ht hu ?_
  refine kloop (rwn R) (fun c W => (∀ q, q < rwn R → W (t + 3) q = if q < c ∧ rvB (rwR R i) q = true then - R.2.getD q 0 else R.2.getD q 0) ∧ (∀ b j, b ≠ t + 3 → W b j = V b j)) (fun c W => kGo xs Lx (d + 1) 67 2 [some (.ref t), some (kI (i : Int)), some (.ref u), some (kI (c : Int)), none, none] [] W _) (fun W ⟨q1, q2⟩ => ?_) (fun c W hc ⟨q1, q2⟩ ih => ?_) 0 V (Nat.zero_le _) ⟨fun q hq => by rw [if_neg (by omega)]; exact h5 q hq, fun _ _ _ => rfl⟩
  · have e1 : W t 1 = (rwn R : Int) := (q2 _ _ (by omega)).trans h2
    have e2 : W (t + 1) i = (rwF R i : Int) := (q2 _ _ (by omega)).trans (h3 _ (by omega))
    have e3 : W (t + 1) (i + 1) = (rwF R (i + 1) : Int) := (q2 _ _ (by omega)).trans (h3 _ (by omega))
    refine b67_2 ht hu ?_
    rw [e1, tn, e2, tn1, e3]
    refine ⟨by omega, by omega, fun _ => ⟨by omega, fun z1 hz1 => ⟨by omega, fun z2 hz2 => ?_⟩⟩, fun h => by omega⟩
    have key := kloop ((rwL R i - 1) / 2) (fun m X => (∀ p, p < 2 * rwn R → X (t + 2) p = ((if rwF R i + 1 ≤ p ∧ p < rwF R i + rwL R i ∧ (p ≤ rwF R i + m ∨ rwF R i + rwL R i ≤ p + m) then (rwP R).getD (2 * rwF R i + rwL R i - p) 0 else (rwP R).getD p 0 : Nat) : Int)) ∧ (∀ b j, b ≠ t + 2 → X b j = W b j)) (fun m X => kGo xs Lx (d + 1) 67 110 [some (.ref t), none, none, some (kI ((rwF R i : Int) + 1 + (m : Int))), some (kI ((rwF R i : Int) + (rwL R i : Int) - 1 - (m : Int))), none] [] X (fun r V' => r = none ∧ K V')) (fun X ⟨r1, r2⟩ => ?_) (fun m X hm ⟨r1, r2⟩ ih => ?_) 0 W (Nat.zero_le _) ⟨fun p hp => by rw [if_neg (by omega), q2 _ _ (by omega)]; exact h4 p (by omega), fun _ _ _ => rfl⟩
    · rw [show (rwF R i : Int) + 1 + ((0 : Nat) : Int) = z1 by omega, show (rwF R i : Int) + (rwL R i : Int) - 1 - ((0 : Nat) : Int) = z2 by omega] at key
      exact key
    · refine b67_110 ht ⟨by omega, by omega, fun _ => ⟨rfl, k X ⟨?_, ?_, fun k hk => ?_, fun p hp => ?_, fun q hq => ?_⟩ (fun b j hb => by rw [r2 _ _ (by omega), q2 _ _ (by omega)])⟩, fun h => by omega⟩
      · rw [r2 _ _ (by omega), q2 _ _ (by omega), rwRev_len]; exact h1
      · rw [r2 _ _ (by omega), q2 _ _ (by omega), rwRev_n]; exact h2
      · rw [rwRev_len] at hk
        rw [r2 _ _ (by omega), q2 _ _ (by omega), rwRev_F hi hk]; exact h3 k hk
      · have lp := (rwRev_ok ok hi).len
        rw [rwRev_n] at lp
        rw [r1 p (by omega), rwRev_at ok hi (by omega)]
        by_cases z : rwF R i + 1 ≤ p ∧ p < rwF R i + rwL R i
        · rw [if_pos z]
          by_cases z2 : p ≤ rwF R i + (rwL R i - 1) / 2 ∨ rwF R i + rwL R i ≤ p + (rwL R i - 1) / 2
          · rw [if_pos ⟨z.1, z.2, z2⟩]
          · rw [if_neg (fun h => z2 h.2.2)]
            congr 2; omega
        · rw [if_neg z, if_neg (fun h => z ⟨h.1, h.2.1⟩)]
      · rw [rwRev_n] at hq
        rw [r2 _ _ (by omega), q1 q hq, rwRev_s hq]
        by_cases z : rvB (rwR R i) q = true
        · rw [if_pos ⟨hq, z⟩, if_pos z]
        · rw [if_neg (fun h => z h.2), if_neg z]
    · have n1 : Int.toNat ((rwF R i : Int) + 1 + (m : Int)) = rwF R i + 1 + m := by omega
      have n2 : Int.toNat ((rwF R i : Int) + (rwL R i : Int) - 1 - (m : Int)) = rwF R i + rwL R i - 1 - m := by omega
      refine b67_110 ht ?_
      rw [n1, n2]
      refine ⟨by omega, by omega, fun h => by omega, fun _ => ⟨by omega, fun z hz => ⟨by omega, ?_⟩⟩⟩
      rw [show (rwF R i : Int) + 1 + (m : Int) + 1 = (rwF R i : Int) + 1 + ((m + 1 : Nat) : Int) by omega, show (rwF R i : Int) + (rwL R i : Int) - 1 - (m : Int) + (-1) = (rwF R i : Int) + (rwL R i : Int) - 1 - ((m + 1 : Nat) : Int) by omega]
      subst hz
      refine ih _ ⟨fun p hp => ?_, fun b j hb => by rw [up_ne (by omega), up_ne (by omega)]; exact r2 b j hb⟩
      by_cases y1 : p = rwF R i + rwL R i - 1 - m
      · subst y1
        rw [up_at, r1 _ (by omega), if_neg (by omega), if_pos (by omega)]
        congr 2; omega
      · rw [up_ne (by omega)]
        by_cases y2 : p = rwF R i + 1 + m
        · subst y2
          rw [up_at, r1 _ (by omega), if_neg (by omega), if_pos (by omega)]
          congr 2; omega
        · rw [up_ne (by omega), r1 p hp]
          by_cases y3 : rwF R i + 1 ≤ p ∧ p < rwF R i + rwL R i ∧ (p ≤ rwF R i + m ∨ rwF R i + rwL R i ≤ p + m)
          · rw [if_pos y3, if_pos (by omega)]
          · rw [if_neg y3, if_neg (by omega)]
  · obtain ⟨d1, d2, -, -⟩ := hE
    obtain ⟨po, ho, eo⟩ := ok.sur (x := 2 * c + 1) (by omega)
    obtain ⟨pu, hu2, eu⟩ := ok.sur (x := 2 * c) (by omega)
    have m1 : V (u + 4) c = (po : Int) := by
      have := (d2 po (by omega)).1 (by omega)
      rw [eo, show (2 * c + 1) / 2 = c by omega] at this
      exact this
    have m2 : V (u + 5) c = (pu : Int) := by
      have := (d2 pu (by omega)).2 (by omega)
      rw [eu, show 2 * c / 2 = c by omega] at this
      exact this
    have m3 := (d1 po (by omega)).2.2
    have m4 := (d1 pu (by omega)).2.2
    have i1 := ring_mem ok (p := po) (by omega) hi
    have i2 := ring_mem ok (p := pu) (by omega) hi
    have g1 := rwG_lt (R := R) (p := po) (by omega)
    have g2 := rwG_lt (R := R) (p := pu) (by omega)
    rw [eo] at i1
    rw [eu] at i2
    have e1 : W t 1 = (rwn R : Int) := (q2 _ _ (by omega)).trans h2
    have e2 : W (u + 4) c = (po : Int) := (q2 _ _ (by omega)).trans m1
    have e3 : W (u + 5) c = (pu : Int) := (q2 _ _ (by omega)).trans m2
    have e4 : W (u + 3) po = (rwG R po : Int) := (q2 _ _ (by omega)).trans m3
    have e5 : W (u + 3) pu = (rwG R pu : Int) := (q2 _ _ (by omega)).trans m4
    have e6 : W (t + 3) c = R.2.getD c 0 := by rw [q1 c hc, if_neg (by omega)]
    have nx : ∀ v : Int, v = (if rvB (rwR R i) c = true then - R.2.getD c 0 else R.2.getD c 0) → kGo xs Lx (d + 1) 67 2 [some (.ref t), some (kI (i : Int)), some (.ref u), some (kI ((c : Int) + 1)), none, none] [] (up W (t + 3) c v) (fun r V' => r = none ∧ K V') := by
      intro v hv
      refine ih _ ⟨fun q hq => ?_, fun b j hb => by rw [up_ne (by omega)]; exact q2 b j hb⟩
      by_cases z : q = c
      · subst z
        rw [up_at, hv]
        by_cases z2 : rvB (rwR R i) q = true
        · rw [if_pos z2, if_pos ⟨by omega, z2⟩]
        · rw [if_neg z2, if_neg (fun h => z2 h.2)]
      · rw [up_ne (by omega), q1 q hq]
        by_cases z2 : q < c ∧ rvB (rwR R i) q = true
        · rw [if_pos z2, if_pos ⟨by omega, z2.2⟩]
        · rw [if_neg z2, if_neg (fun h => z2 ⟨by omega, h.2⟩)]
    refine b67_2 ht hu ?_
    rw [e1]
    simp only [tn]
    rw [e2, e3]
    simp only [tn]
    rw [e4, e5, e6]
    unfold rvB at nx
    refine ⟨by omega, by omega, fun h => by omega, fun _ => ⟨by omega, by omega, by omega, by omega, fun a1 => ⟨by omega, by omega, fun a2 => nx _ ?_, fun a2 => nx _ ?_⟩, fun a1 => ⟨by omega, by omega, fun a2 => nx _ ?_, fun a2 => nx _ ?_⟩⟩⟩
    · rw [decide_eq_false (fun h => a2 (congrArg (fun (x : Nat) => (x : Int)) (i2.mpr h))), decide_eq_false (fun h => a1 (congrArg (fun (x : Nat) => (x : Int)) (i1.mpr h)))]; rfl
    · rw [decide_eq_true (i2.mp (by omega)), decide_eq_false (fun h => a1 (congrArg (fun (x : Nat) => (x : Int)) (i1.mpr h)))]; rfl
    · rw [decide_eq_false (fun h => a2 (congrArg (fun (x : Nat) => (x : Int)) (i2.mpr h))), decide_eq_true (i1.mp (by omega))]; rfl
    · rw [decide_eq_true (i2.mp (by omega)), decide_eq_true (i1.mp (by omega))]; rfl
theorem xor_bit (a w i : Nat) : (a ^^^ 2 ^ w) / 2 ^ i % 2 = if i = w then 1 - a / 2 ^ i % 2 else a / 2 ^ i % 2 := by
  have tb : ∀ x, (x / 2 ^ i % 2 = 1) = (x.testBit i = true) := by
    intro x
    rw [Nat.testBit_eq_decide_div_mod_eq]
    simp
  have h1 := tb (a ^^^ 2 ^ w)
  have h2 := tb a
  rw [Nat.testBit_xor, Nat.testBit_two_pow] at h1
  by_cases e : i = w
  · subst e
    rw [if_pos rfl]
    cases hb : a.testBit i with
    | false =>
      rw [hb] at h1 h2
      simp at h1 h2
      omega
    | true =>
      rw [hb] at h1 h2
      simp at h1 h2
      omega
  · rw [if_neg e]
    have : decide (w = i) = false := decide_eq_false (fun z => e z.symm)
    rw [this] at h1
    cases hb : a.testBit i with
    | false =>
      rw [hb] at h1 h2
      simp at h1 h2
      omega
    | true =>
      rw [hb] at h1 h2
      simp at h1 h2
      omega
end REV

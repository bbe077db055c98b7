/-! passes exchanged; crossings that go -/
def rwPut (p x : Nat) (R : Rw) : Rw := (R.1.set (rwAt R.1 p).1 ((rwR R (rwAt R.1 p).1).set (rwAt R.1 p).2 x), R.2)
theorem rwPut_len (p x : Nat) (R : Rw) : (rwPut p x R).1.length = R.1.length := by unfold rwPut; simp
theorem rwPut_n (p x : Nat) (R : Rw) : rwn (rwPut p x R) = rwn R := rfl
theorem rwPut_P {p : Nat} {R : Rw} (hp : p < (rwP R).length) (x : Nat) : rwP (rwPut p x R) = (rwP R).set p x := by
  obtain ⟨i, j, hi, hj, rfl⟩ := rw_split hp
  unfold rwPut
  rw [rwAt_F hi hj]
  dsimp only
  have e1 := rwP_split hi
  show (List.set _ _ _).flatten = _
  rw [rwSet_split hi, e1]
  have hF : rwF R i = (R.1.take i).flatten.length := rfl
  have h2 : j < (rwR R i).length := hj
  rw [hF, List.set_append_right _ _ (by omega), Nat.add_sub_cancel_left, List.set_append_left _ _ h2]
theorem rwPut_L {p : Nat} {R : Rw} (hp : p < (rwP R).length) (x i : Nat) : rwL (rwPut p x R) i = rwL R i := by
  obtain ⟨i', j, hi, hj, rfl⟩ := rw_split hp
  unfold rwPut rwL
  rw [rwAt_F hi hj]
  dsimp only
  rw [rwR_set hi]
  split
  · rename_i h; subst h; rw [List.length_set]
  · rfl
theorem rwPut_F {p : Nat} {R : Rw} (hp : p < (rwP R).length) (x i : Nat) (h : i ≤ R.1.length) : rwF (rwPut p x R) i = rwF R i := by
  induction i with
  | zero => rfl
  | succ i ih =>
    rw [rwF_succ (by rw [rwPut_len]; omega), rwF_succ (by omega), ih (by omega), rwPut_L hp]
theorem rwPut_At {p : Nat} {R : Rw} (hp : p < (rwP R).length) (x : Nat) {q : Nat} (hq : q < (rwP R).length) : rwAt (rwPut p x R).1 q = rwAt R.1 q := by
  obtain ⟨i, j, hi, hj, rfl⟩ := rw_split hq
  rw [rwAt_F hi hj, ← rwPut_F hp x i (by omega)]
  exact rwAt_F (by rw [rwPut_len]; exact hi) (by rw [rwPut_L hp]; exact hj)
def rwSwap (p q : Nat) (R : Rw) : Rw := rwPut q ((rwP R).getD p 0) (rwPut p ((rwP R).getD q 0) R)
theorem rwPut_Pl {p : Nat} {R : Rw} (hp : p < (rwP R).length) (x : Nat) : (rwP (rwPut p x R)).length = (rwP R).length := by
  rw [rwPut_P hp, List.length_set]
theorem rwSwap_P {p q : Nat} {R : Rw} (hp : p < (rwP R).length) (hq : q < (rwP R).length) : rwP (rwSwap p q R) = ((rwP R).set p ((rwP R).getD q 0)).set q ((rwP R).getD p 0) := by
  unfold rwSwap
  rw [rwPut_P (by rw [rwPut_Pl hp]; exact hq), rwPut_P hp]
theorem rwSwap_len (p q : Nat) (R : Rw) : (rwSwap p q R).1.length = R.1.length := by
  unfold rwSwap; rw [rwPut_len, rwPut_len]
theorem rwSwap_F {p q : Nat} {R : Rw} (hp : p < (rwP R).length) (hq : q < (rwP R).length) (i : Nat) (h : i ≤ R.1.length) : rwF (rwSwap p q R) i = rwF R i := by
  unfold rwSwap
  rw [rwPut_F (by rw [rwPut_Pl hp]; exact hq) _ _ (by rw [rwPut_len]; exact h), rwPut_F hp _ _ h]
theorem rwSwap_ok {p q : Nat} {R : Rw} (h : rwOk R) (hp : p < (rwP R).length) (hq : q < (rwP R).length) : rwOk (rwSwap p q R) := by
  obtain ⟨h1, h2, h3, h4⟩ := h
  refine ⟨by rw [rwSwap_len]; exact h1, h2, ?_, h4⟩
  rw [rwSwap_P hp hq, gd_lt hp, gd_lt hq]
  exact (List.set_set_perm hp hq).trans h3
def rwAhd (b c : Nat) : Nat := (List.range c).countP (fun i => b / 2 ^ i % 2 == 1)
def rwGo (b x : Nat) : Option Nat := if b / 2 ^ (x / 2) % 2 = 1 then none else some (x - 2 * rwAhd b (x / 2))
def rwDrop (b : Nat) (R : Rw) : Rw := (R.1.map (fun l => l.filterMap (rwGo b)), ((List.range (rwn R)).filter (fun c => b / 2 ^ c % 2 != 1)).map (fun c => R.2.getD c 0))
theorem rwAhd_succ (b c : Nat) : rwAhd b (c + 1) = rwAhd b c + (if b / 2 ^ c % 2 = 1 then 1 else 0) := by
  unfold rwAhd
  rw [List.range_succ, List.countP_append]
  simp [List.countP_cons]
theorem rwAhd_le (b c : Nat) : rwAhd b c ≤ c := by
  induction c with
  | zero => exact Nat.le_refl _
  | succ c ih => rw [rwAhd_succ]; split <;> omega
theorem rwDrop_len (b : Nat) (R : Rw) : (rwDrop b R).1.length = R.1.length := by unfold rwDrop; simp
theorem rwDrop_P (b : Nat) (R : Rw) : rwP (rwDrop b R) = (rwP R).filterMap (rwGo b) := by
  unfold rwDrop rwP
  rw [List.filterMap_flatten]
theorem rwFil_len (b n : Nat) : ((List.range n).filter (fun c => b / 2 ^ c % 2 != 1)).length = n - rwAhd b n := by
  induction n with
  | zero => rfl
  | succ n ih =>
    have := rwAhd_le b n
    have e : ([n].filter (fun c => b / 2 ^ c % 2 != 1)).length = if b / 2 ^ n % 2 = 1 then 0 else 1 := by
      rw [List.filter_cons, List.filter_nil]
      by_cases h : b / 2 ^ n % 2 = 1
      · rw [if_pos h, if_neg (fun z => (bne_iff_ne.mp z) h)]; rfl
      · rw [if_neg h, if_pos (bne_iff_ne.mpr h)]; rfl
    rw [List.range_succ, List.filter_append, List.length_append, ih, rwAhd_succ, e]
    split <;> omega
theorem rwDrop_n (b : Nat) (R : Rw) : rwn (rwDrop b R) = rwn R - rwAhd b (rwn R) := by
  unfold rwDrop rwn
  rw [List.length_map]
  exact rwFil_len b _
theorem rwGo_range (b n : Nat) : (List.range (2 * n)).filterMap (rwGo b) = List.range (2 * (n - rwAhd b n)) := by
  induction n with
  | zero => rfl
  | succ n ih =>
    have := rwAhd_le b n
    rw [range_two, List.filterMap_append, ih, rwAhd_succ]
    have e1 : 2 * n / 2 = n := by omega
    have e2 : (2 * n + 1) / 2 = n := by omega
    by_cases h : b / 2 ^ n % 2 = 1
    · have g1 : rwGo b (2 * n) = none := by unfold rwGo; rw [e1, if_pos h]
      have g2 : rwGo b (2 * n + 1) = none := by unfold rwGo; rw [e2, if_pos h]
      rw [if_pos h, List.filterMap_cons_none g1, List.filterMap_cons_none g2]
      simp
    · have g1 : rwGo b (2 * n) = some (2 * n - 2 * rwAhd b n) := by unfold rwGo; rw [e1, if_neg h]
      have g2 : rwGo b (2 * n + 1) = some (2 * n + 1 - 2 * rwAhd b n) := by unfold rwGo; rw [e2, if_neg h]
      rw [if_neg h, List.filterMap_cons_some g1, List.filterMap_cons_some g2, show n + 1 - (rwAhd b n + 0) = (n - rwAhd b n) + 1 by omega, range_two, show 2 * n - 2 * rwAhd b n = 2 * (n - rwAhd b n) by omega, show 2 * n + 1 - 2 * rwAhd b n = 2 * (n - rwAhd b n) + 1 by omega]
      rfl
theorem rwDrop_ok {b : Nat} {R : Rw} (h : rwOk R) : rwOk (rwDrop b R) := by
  obtain ⟨h1, h2, h3, h4⟩ := h
  refine ⟨by rw [rwDrop_len]; exact h1, by rw [rwDrop_n]; omega, ?_, ?_⟩
  · rw [rwDrop_P, rwDrop_n, ← rwGo_range]
    exact h3.filterMap _
  · intro s hs
    unfold rwDrop at hs
    obtain ⟨c, hc, rfl⟩ := List.mem_map.mp hs
    exact h4 _ (gd_mem (List.mem_range.mp (List.mem_filter.mp hc).1))
/-- how many of the first m passes stay -/
def rwQ (b : Nat) (R : Rw) (m : Nat) : Nat := (((rwP R).take m).filterMap (rwGo b)).length
theorem rwQ_none {b : Nat} {R : Rw} {m : Nat} (hm : m < (rwP R).length) (h : b / 2 ^ ((rwP R).getD m 0 / 2) % 2 = 1) : rwQ b R (m + 1) = rwQ b R m := by
  unfold rwQ
  have g : rwGo b ((rwP R).getD m 0) = none := by unfold rwGo; rw [if_pos h]
  rw [take_gd 0 hm, List.filterMap_append, List.filterMap_cons_none g]
  simp
theorem rwQ_some {b : Nat} {R : Rw} {m : Nat} (hm : m < (rwP R).length) (h : ¬ b / 2 ^ ((rwP R).getD m 0 / 2) % 2 = 1) : rwQ b R (m + 1) = rwQ b R m + 1 ∧ (rwP (rwDrop b R)).getD (rwQ b R m) 0 = (rwP R).getD m 0 - 2 * rwAhd b ((rwP R).getD m 0 / 2) := by
  have g : rwGo b ((rwP R).getD m 0) = some ((rwP R).getD m 0 - 2 * rwAhd b ((rwP R).getD m 0 / 2)) := by unfold rwGo; rw [if_neg h]
  constructor
  · unfold rwQ
    rw [take_gd 0 hm, List.filterMap_append, List.filterMap_cons_some g]
    simp
  · rw [rwDrop_P]
    have e : (rwP R).filterMap (rwGo b) = ((rwP R).take m).filterMap (rwGo b) ++ ((rwP R).drop m).filterMap (rwGo b) := by
      rw [← List.filterMap_append, List.take_append_drop]
    unfold rwQ
    rw [e, gd_appr (Nat.le_refl _), Nat.sub_self, List.drop_eq_getElem_cons hm, ← gd_lt (z := 0) hm, List.filterMap_cons_some g]
    rfl
theorem rwQ_le {b : Nat} {R : Rw} {m : Nat} (hm : m ≤ (rwP R).length) : rwQ b R m ≤ m := by
  unfold rwQ
  have := List.length_filterMap_le (rwGo b) ((rwP R).take m)
  rw [List.length_take] at this
  omega
theorem rwQ_F {b : Nat} {R : Rw} {i : Nat} (hi : i ≤ R.1.length) : rwF (rwDrop b R) i = rwQ b R (rwF R i) := by
  unfold rwQ rwF rwDrop
  dsimp only
  have e : (rwP R).take (R.1.take i).flatten.length = (R.1.take i).flatten := by
    unfold rwP
    conv => lhs; rw [← List.take_append_drop i R.1, List.flatten_append]
    rw [List.take_append_of_le_length (by simp), List.take_of_length_le (by simp)]
  rw [e, ← List.map_take, List.filterMap_flatten]
theorem rwQ_all {b : Nat} {R : Rw} : rwQ b R (rwP R).length = (rwP (rwDrop b R)).length := by
  unfold rwQ
  rw [List.take_length, rwDrop_P]
theorem rwSg_at {b n c : Nat} {f : Nat → Int} (hc : c < n) (h : ¬ b / 2 ^ c % 2 = 1) : (((List.range n).filter (fun c => b / 2 ^ c % 2 != 1)).map f).getD (c - rwAhd b c) 0 = f c := by
  obtain ⟨k, rfl⟩ : ∃ k, n = c + (k + 1) := ⟨n - c - 1, by omega⟩
  have e : List.range (c + (k + 1)) = List.range c ++ (c :: (List.range k).map (fun i => c + 1 + i)) := by
    rw [List.range_add, List.range_succ_eq_map, List.map_cons, List.map_map]
    congr 2
    apply List.map_congr_left
    intro i _
    show c + (i + 1) = _
    omega
  rw [e, List.filter_append, List.map_append, gd_appr (by rw [List.length_map, rwFil_len]; exact Nat.le_refl _), List.length_map, rwFil_len, Nat.sub_self]
  have : (b / 2 ^ c % 2 != 1) = true := bne_iff_ne.mpr h
  rw [List.filter_cons, if_pos this]
  rfl
theorem k_ahd : ∀ b, b < 256 → ∀ c, c < 9 → kbit (((b &&& (2 ^ c - 1) : Nat)) : Int) = (rwAhd b c : Int) := by decide +kernel
section RWF
variable {xs : Nat → Int32} {Lx d : Nat} {V : km_V} {t : Nat} {R : Rw}
theorem sp_swap {p q : Nat} {K : km_V → Prop} (ht : km_sh[t]? = some (5, 5)) (hR : kRC V t R) (ok : rwOk R) (hp : p < (rwP R).length) (hq : q < (rwP R).length) (k : ∀ W, kRC W t (rwSwap p q R) → (∀ a j, a ≠ t + 2 → W a j = V a j) → K W) : kCV xs Lx (d + 0) 69 4 [.ref t, kI p, kI q] V K := by
  obtain ⟨h1, h2, h3, h4, h5⟩ := hR
  have o2 := ok.2.1
  have o3 := ok.len
  refine b69_0 ht ⟨by omega, fun z hz => ⟨by omega, rfl, k _ ⟨?_, ?_, fun i hi => ?_, fun i hi => ?_, fun i hi => ?_⟩ (fun a j ha => ?_)⟩⟩
  · rw [up_ne (by omega), up_ne (by omega), rwSwap_len]; exact h1
  · rw [up_ne (by omega), up_ne (by omega)]; exact h2
  · rw [rwSwap_len] at hi
    rw [up_ne (by omega), up_ne (by omega), rwSwap_F hp hq i hi]; exact h3 i hi
  · rw [rwSwap_P hp hq] at hi ⊢
    rw [List.length_set, List.length_set] at hi
    rw [gd_set (by rw [List.length_set]; exact hq), gd_set hp]
    simp only [tn] at hz ⊢
    by_cases e1 : i = q
    · subst e1; rw [up_at, if_pos rfl, hz]; exact h4 p hp
    · rw [up_ne (by omega), if_neg e1]
      by_cases e2 : i = p
      · subst e2; rw [up_at, if_pos rfl]; exact h4 q hq
      · rw [up_ne (by omega), if_neg e2]; exact h4 i hi
  · rw [up_ne (by omega), up_ne (by omega)]; exact h5 i hi
  · rw [up_ne (by omega), up_ne (by omega)]
theorem sp_goneAhead {b c : Nat} {K : Int → km_V → Prop} (hb : b < 256) (hc : c < 9) (k : K (rwAhd b c : Int) V) : kCI xs Lx (d + 1) 72 2 [kI b, kI c] V K := by
  have e1 : Int.toNat (1 * ((2 ^ c : Nat) : Int) - 1) = 2 ^ c - 1 := by omega
  have h0 : 1 ≤ 2 ^ c := Nat.one_le_two_pow
  have h1 : b &&& (2 ^ c - 1) ≤ b := Nat.and_le_left
  refine b72_0 ?_
  simp only [tn, e1, k_ahd b hb c hc]
  exact ⟨by omega, by omega, by omega, by omega, _, rfl, k⟩
theorem sp_drop {b : Nat} {K : km_V → Prop} (ht : km_sh[t]? = some (5, 5)) (hR : kRC V t R) (ok : rwOk R) (hb : b < 256) (k : ∀ W, kRC W t (rwDrop b R) → (∀ a j, ¬ (t ≤ a ∧ a ≤ t + 3) → W a j = V a j) → K W) : kCV xs Lx (d + 2) 71 7 [.ref t, kI b] V K := by
  obtain ⟨h1, h2, h3, h4, h5⟩ := hR
  have o1 := ok.1
  have o2 := ok.2.1
  have o3 := ok.len
  have okD := rwDrop_ok (b := b) ok
  have nD := rwDrop_n b R
  have lD := okD.len
  have aD := rwAhd_le b (rwn R)
  refine b71_0 ht ?_
  refine kloop R.1.length (fun c W => (∀ a j, ¬ (a = t + 1 ∨ a = t + 2) → W a j = V a j) ∧ (∀ i, i ≤ R.1.length → W (t + 1) i = if i < c then (rwF (rwDrop b R) i : Int) else (rwF R i : Int)) ∧ (∀ p, p < rwQ b R (rwF R c) → W (t + 2) p = ((rwP (rwDrop b R)).getD p 0 : Int)) ∧ (∀ p, rwF R c ≤ p → p < (rwP R).length → W (t + 2) p = ((rwP R).getD p 0 : Int)))
    (fun c W => kGo xs Lx (d + 2) 71 7 [some (.ref t), some (kI b), some (kI (rwF R c : Int)), some (kI (rwQ b R (rwF R c) : Int)), some (kI (c : Int)), none, none] [] W _) (fun W ⟨f1, f2, f3, f4⟩ => ?_) (fun c W hc ⟨f1, f2, f3, f4⟩ ih => ?_) 0 V (Nat.zero_le _) ⟨fun _ _ _ => rfl, fun i hi => by rw [if_neg (by omega)]; exact h3 i hi, fun p hp => by
      have := rwQ_le (b := b) (R := R) (m := rwF R 0) (by rw [rwF_zero]; omega)
      rw [rwF_zero] at this hp; omega, fun p _ hp => h4 p hp⟩
  · -- the signs
    have g0 : W t 0 = (R.1.length : Int) := by rw [f1 t 0 (by omega)]; exact h1
    have qa : rwQ b R (rwF R R.1.length) = (rwP (rwDrop b R)).length := by rw [rwF_all, rwQ_all]
    rw [qa] at f3
    rw [qa]
    refine b71_7 ht ⟨by omega, by omega, fun _ => ⟨by omega, ?_⟩, fun h => by omega⟩
    rw [g0]
    simp only [tn]
    have base : ∀ W', (∀ a j, ¬ (a = t + 1 ∨ a = t + 2 ∨ a = t + 3) → W' a j = V a j) → (∀ i, i ≤ R.1.length → W' (t + 1) i = (rwF (rwDrop b R) i : Int)) → (∀ p, p < (rwP (rwDrop b R)).length → W' (t + 2) p = ((rwP (rwDrop b R)).getD p 0 : Int)) → (∀ c, c < rwn (rwDrop b R) → W' (t + 3) c = (rwDrop b R).2.getD c 0) → K (up W' t 1 ((((rwP (rwDrop b R)).length : Nat) : Int) / 2)) := by
      intro W' q1 q2 q3 q4
      refine k _ ⟨?_, ?_, fun i hi => ?_, fun p hp => ?_, fun c hc => ?_⟩ (fun a j ha => ?_)
      · rw [up_ne (by omega), q1 _ _ (by omega), rwDrop_len]; exact h1
      · rw [up_at]; omega
      · rw [rwDrop_len] at hi
        rw [up_ne (by omega)]; exact q2 i hi
      · rw [up_ne (by omega)]; exact q3 p hp
      · rw [up_ne (by omega)]; exact q4 c hc
      · rw [up_ne (by omega)]; exact q1 a j (by omega)
    refine kloop (rwn R) (fun c W' => (∀ a j, ¬ (a = t + 1 ∨ a = t + 2 ∨ a = t + 3) → W' a j = V a j) ∧ (∀ i, i ≤ R.1.length → W' (t + 1) i = (rwF (rwDrop b R) i : Int)) ∧ (∀ p, p < (rwP (rwDrop b R)).length → W' (t + 2) p = ((rwP (rwDrop b R)).getD p 0 : Int)) ∧ (∀ i, i < c - rwAhd b c → W' (t + 3) i = (rwDrop b R).2.getD i 0) ∧ (∀ i, c ≤ i → i < rwn R → W' (t + 3) i = R.2.getD i 0))
      (fun c W' => kGo xs Lx (d + 2) 71 106 [some (.ref t), some (kI b), none, some (kI ((rwP (rwDrop b R)).length : Int)), some (kI (c : Int)), none, none] [] W' _) (fun W' ⟨q1, q2, q3, q4, q5⟩ => ?_) (fun c W' hc ⟨q1, q2, q3, q4, q5⟩ ih => ?_) 0 _ (Nat.zero_le _) ⟨fun a j ha => by rw [up_ne (by omega)]; exact f1 a j (by omega), fun i hi => ?_, fun p hp => by rw [up_ne (by omega)]; exact f3 p hp, fun i hi => by omega, fun i _ hi => by rw [up_ne (by omega), f1 _ _ (by omega)]; exact h5 i hi⟩
    · have e1 : W' t 1 = (rwn R : Int) := by rw [q1 _ _ (by omega)]; exact h2
      refine b71_106 ht ⟨by omega, by omega, fun _ => ⟨by omega, rfl, base W' q1 q2 q3 (fun c hc => q4 c (by omega))⟩, fun h => by omega⟩
    · have e1 : W' t 1 = (rwn R : Int) := by rw [q1 _ _ (by omega)]; exact h2
      have a1 := rwAhd_le b c
      have a2 := rwAhd_succ b c
      refine b71_106 ht ⟨by omega, by omega, fun h => by omega, fun h => ?_⟩
      simp only [tn, kc_div]
      refine ⟨by omega, by omega, by omega, fun h => ?_, fun h => ?_⟩
      · rw [if_pos (by omega)] at a2
        exact ih W' ⟨q1, q2, q3, fun i hi => q4 i (by omega), fun i hi hi2 => q5 i (by omega) hi2⟩
      · rw [if_neg (by omega)] at a2
        refine sp_goneAhead hb (by omega) ?_
        have e2 : Int.toNat ((c : Int) - (rwAhd b c : Int)) = c - rwAhd b c := by omega
        rw [e2]
        refine ⟨by omega, by omega, ih _ ⟨fun a j ha => by rw [up_ne (by omega)]; exact q1 a j ha, fun i hi => by rw [up_ne (by omega)]; exact q2 i hi, fun p hp => by rw [up_ne (by omega)]; exact q3 p hp, fun i hi => ?_, fun i hi hi2 => ?_⟩⟩
        · by_cases e : i = c - rwAhd b c
          · subst e
            rw [up_at, q5 c (Nat.le_refl _) hc]
            exact (rwSg_at (f := fun c => R.2.getD c 0) hc (by omega)).symm
          · rw [up_ne (by omega)]; exact q4 i (by omega)
        · rw [up_ne (by omega)]; exact q5 i (by omega) hi2
    · by_cases e : i = R.1.length
      · subst e; rw [up_at, ← qa, rwQ_F (Nat.le_refl _)]
      · rw [up_ne (by omega), f2 i hi, if_pos (by omega)]
  · have g0 : W t 0 = (R.1.length : Int) := by rw [f1 t 0 (by omega)]; exact h1
    have e3 := rwF_succ hc
    have e4 := rwF_end hc
    have e5 := f2 (c + 1) (by omega)
    rw [if_neg (by omega)] at e5
    refine b71_7 ht ⟨by omega, by omega, fun h => by omega, fun h => ⟨by omega, fun z hz => ⟨by omega, ?_⟩⟩⟩
    rw [tn1] at hz
    simp only [tn]
    rw [e5] at hz
    subst hz
    refine kloop (rwL R c) (fun j W' => (∀ a j, ¬ (a = t + 1 ∨ a = t + 2) → W' a j = V a j) ∧ (∀ i, i ≤ R.1.length → W' (t + 1) i = if i < c + 1 then (rwF (rwDrop b R) i : Int) else (rwF R i : Int)) ∧ (∀ p, p < rwQ b R (rwF R c + j) → W' (t + 2) p = ((rwP (rwDrop b R)).getD p 0 : Int)) ∧ (∀ p, rwF R c + j ≤ p → p < (rwP R).length → W' (t + 2) p = ((rwP R).getD p 0 : Int)))
      (fun j W' => kGo xs Lx (d + 2) 71 35 [some (.ref t), some (kI b), some (kI ((rwF R c + j : Nat) : Int)), some (kI (rwQ b R (rwF R c + j) : Int)), some (kI (c : Int)), some (kI (rwF R (c + 1) : Int)), none] [] W' _) (fun W' ⟨q1, q2, q3, q4⟩ => ?_) (fun j W' hj ⟨q1, q2, q3, q4⟩ ih2 => ?_) 0 _ (Nat.zero_le _) ⟨fun a j ha => by rw [up_ne (by omega)]; exact f1 a j ha, fun i hi => ?_, fun p hp => by rw [up_ne (by omega)]; exact f3 p hp, fun p hp hp2 => by rw [up_ne (by omega)]; exact f4 p hp hp2⟩
    · refine b71_35 ht ⟨by omega, by omega, fun h => ?_, fun h => by omega⟩
      rw [← e3] at q3 q4 ⊢
      exact ih W' ⟨q1, q2, q3, q4⟩
    · have b0 : rwF R c + j < (rwP R).length := by omega
      have r1 := q4 (rwF R c + j) (Nat.le_refl _) b0
      have l1 := ok.lt (rwF R c + j) (by omega)
      have l2 := rwQ_le (b := b) (R := R) (m := rwF R c + j) (by omega)
      refine b71_35 ht ⟨by omega, by omega, fun h => by omega, fun h => ?_⟩
      simp only [tn, r1]
      refine ⟨by omega, by omega, fun z hz => ?_⟩
      have hz : z = (((rwP R).getD (rwF R c + j) 0 / 2 : Nat) : Int) := hz
      subst hz
      simp only [tn, kc_div]
      refine ⟨by omega, by omega, by omega, fun h => ?_, fun h => ?_⟩
      · have a2 := rwQ_none (b := b) b0 (by omega)
        rw [← Nat.add_assoc] at ih2
        rw [a2] at ih2
        exact ih2 W' ⟨q1, q2, q3, fun p hp => q4 p (by omega)⟩
      · obtain ⟨a2, a3⟩ := rwQ_some (b := b) b0 (by omega)
        have a4 := rwAhd_le b ((rwP R).getD (rwF R c + j) 0 / 2)
        refine ⟨by omega, sp_goneAhead hb (by omega) ⟨by omega, ?_⟩⟩
        rw [← Nat.add_assoc] at ih2
        rw [a2] at ih2
        refine ih2 _ ⟨fun a j ha => by rw [up_ne (by omega)]; exact q1 a j ha, fun i hi => by rw [up_ne (by omega)]; exact q2 i hi, fun p hp => ?_, fun p hp hp2 => by rw [up_ne (by omega)]; exact q4 p (by omega) hp2⟩
        by_cases e : p = rwQ b R (rwF R c + j)
        · subst e; rw [up_at, a3]; omega
        · rw [up_ne (by omega)]; exact q3 p (by omega)
    · by_cases e : i = c
      · subst e; rw [up_at, if_pos (by omega), rwQ_F (by omega)]
      · rw [up_ne (by omega), f2 i hi]
        by_cases e' : i < c
        · rw [if_pos e', if_pos (by omega)]
        · rw [if_neg e', if_neg (by omega)]
end RWF

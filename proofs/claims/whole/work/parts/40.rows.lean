/-! the class's Rows: what each method answers and does to its cells -/
theorem kloop0 (N : Nat) (G : Nat → Prop) (done : G N) (step : ∀ c, c < N → G (c + 1) → G c) : ∀ c, c ≤ N → G c := by
  have key : ∀ k c, c + k = N → G c := by
    intro k
    induction k with
    | zero => intro c h; have : c = N := by omega
              subst this; exact done
    | succ k ih => intro c h; exact step c (by omega) (ih (c + 1) (by omega))
  intro c h
  exact key (N - c) c (by omega)
theorem rr_apart {s t : Nat} (hs : km_sh[s]? = some (5, 5)) (ht : km_sh[t]? = some (5, 5)) : s = t ∨ s + 3 < t ∨ t + 3 < s := by
  have a1 := shR2 hs
  have a2 := shR3 hs
  have a3 := shR4 hs
  have b1 := shR2 ht
  have b2 := shR3 ht
  have b3 := shR4 ht
  have key : ∀ a b : Nat, km_sh[a]? = some (5, 5) → (∃ n, km_sh[b]? = some (11, n)) → a ≠ b := by
    intro a b h1 ⟨n, h2⟩ e
    subst e
    rw [h1] at h2
    exact absurd (congrArg (fun z => z.map (·.1)) h2) (by simp)
  have h1 := key t (s + 1) ht ⟨_, a1⟩
  have h2 := key t (s + 2) ht ⟨_, a2⟩
  have h3 := key t (s + 3) ht ⟨_, a3⟩
  have h4 := key s (t + 1) hs ⟨_, b1⟩
  have h5 := key s (t + 2) hs ⟨_, b2⟩
  have h6 := key s (t + 3) hs ⟨_, b3⟩
  omega
def rwWr (R : Rw) : Int := R.2.sum
def rwLo (R : Rw) : Nat := R.1.countP (fun l => l.length == 0)
def rwTu (R : Rw) : Bool := (List.range (rwP R).length).all (fun p => (rwP R).getD p 0 % 2 != (rwP R).getD (rwNx R p) 0 % 2)
section RWC
variable {xs : Nat → Int32} {Lx d : Nat} {V : km_V} {t : Nat} {R : Rw}
theorem sp_writhe {K : Int → km_V → Prop} (ht : km_sh[t]? = some (5, 5)) (hR : kRC V t R) (ok : rwOk R) (k : K (rwWr R) V) : kCI xs Lx (d + 0) 63 3 [.ref t] V K := by
  obtain ⟨h1, h2, h3, h4, h5⟩ := hR
  have o2 := ok.2.1
  refine b63_0 ht ?_
  refine kloop0 (rwn R) (fun c => kGo xs Lx (d + 0) 63 4 [some (.ref t), some (kI (R.2.take c).sum), some (kI (c : Int))] [] V _) ?_ (fun c hc ih => ?_) 0 (Nat.zero_le _)
  · refine b63_4 ht ⟨by omega, by omega, fun _ => ⟨_, rfl, ?_⟩, fun h => by omega⟩
    unfold rwn
    rw [List.take_length]
    exact k
  · refine b63_4 ht ⟨by omega, by omega, fun h => by omega, fun h => ⟨by omega, fun z hz => ?_⟩⟩
    rw [tn, h5 c hc] at hz
    have e : (R.2.take (c + 1)).sum = z := by
      rw [take_gd 0 (by exact hc), List.sum_append, hz]; simp
    rw [← e]
    exact ih
theorem sp_loose {K : Int → km_V → Prop} (ht : km_sh[t]? = some (5, 5)) (hR : kRC V t R) (ok : rwOk R) (k : K (rwLo R : Int) V) : kCI xs Lx (d + 0) 64 3 [.ref t] V K := by
  obtain ⟨h1, h2, h3, h4, h5⟩ := hR
  have o1 := ok.1
  have o2 := ok.2.1
  have o3 := ok.len
  refine b64_0 ht ?_
  refine kloop0 R.1.length (fun c => kGo xs Lx (d + 0) 64 4 [some (.ref t), some (kI (((R.1.take c).countP (fun l => l.length == 0) : Nat) : Int)), some (kI (c : Int))] [] V _) ?_ (fun c hc ih => ?_) 0 (Nat.zero_le _)
  · refine b64_4 ht ⟨by omega, by omega, fun _ => ⟨_, rfl, ?_⟩, fun h => by omega⟩
    rw [List.take_length]
    exact k
  · have e1 := h3 c (by omega)
    have e2 := h3 (c + 1) (by omega)
    have e3 := rwF_succ hc
    have e4 := rwF_end hc
    have e5 : (R.1.take (c + 1)).countP (fun l => l.length == 0) = (R.1.take c).countP (fun l => l.length == 0) + (if rwL R c = 0 then 1 else 0) := by
      rw [take_gd [] hc, List.countP_append]
      unfold rwL rwR
      simp [List.countP_cons]
    rw [e5] at ih
    refine b64_4 ht ⟨by omega, by omega, fun h => by omega, fun h => ⟨by omega, by omega, by rw [tn]; omega, by rw [tn1]; omega, fun h => ?_, fun h => ?_⟩⟩
    · rw [tn, tn1] at h
      rw [if_neg (by omega)] at ih
      exact ih
    · rw [tn, tn1] at h
      rw [if_pos (by omega)] at ih
      exact ih
theorem sp_turns {K : Int → km_V → Prop} (ht : km_sh[t]? = some (5, 5)) (hR : kRC V t R) (ok : rwOk R) (k : K (if rwTu R then 1 else 0) V) : kCI xs Lx (d + 1) 65 5 [.ref t] V K := by
  obtain ⟨h1, h2, h3, h4, h5⟩ := hR
  have o1 := ok.1
  have o2 := ok.2.1
  have o3 := ok.len
  have bad : ∀ p, p < (rwP R).length → (rwP R).getD p 0 % 2 = (rwP R).getD (rwNx R p) 0 % 2 → K 0 V := by
    intro p hp e
    have : rwTu R = false := by
      unfold rwTu
      rw [← Bool.not_eq_true, List.all_eq_true]
      intro hh
      have := hh p (List.mem_range.mpr hp)
      exact (bne_iff_ne.mp this) e
    rw [this] at k
    exact k
  refine b65_0 ht ?_
  suffices H : ∀ c, c ≤ R.1.length → (∀ p, p < rwF R c → (rwP R).getD p 0 % 2 ≠ (rwP R).getD (rwNx R p) 0 % 2) → kGo xs Lx (d + 1) 65 2 [some (.ref t), some (kI (c : Int)), none, none, none] [] V (fun r V' => ∃ x, r = some (kI x) ∧ K x V') from
    H 0 (Nat.zero_le _) (fun p hp => by rw [rwF_zero] at hp; omega)
  refine kloop0 R.1.length (fun c => (∀ p, p < rwF R c → (rwP R).getD p 0 % 2 ≠ (rwP R).getD (rwNx R p) 0 % 2) → kGo xs Lx (d + 1) 65 2 [some (.ref t), some (kI (c : Int)), none, none, none] [] V _) ?_ (fun c hc ih => ?_)
  · intro hg
    refine b65_2 ht ⟨by omega, by omega, fun _ => ⟨_, rfl, ?_⟩, fun h => by omega⟩
    have : rwTu R = true := by
      unfold rwTu
      rw [List.all_eq_true]
      intro p hp
      have := hg p (by rw [rwF_all]; exact List.mem_range.mp hp)
      simpa using this
    rw [this] at k
    exact k
  · intro hg
    have e1 := h3 c (by omega)
    have e2 := h3 (c + 1) (by omega)
    have e3 := rwF_succ hc
    have e4 := rwF_end hc
    refine b65_2 ht ⟨by omega, by omega, fun h => by omega, fun h => ⟨by omega, fun z1 hz1 => ⟨by omega, fun z2 hz2 => ?_⟩⟩⟩
    rw [tn1] at hz1
    rw [tn] at hz2
    have hz1 : z1 = (rwF R c + rwL R c : Nat) - 1 := by omega
    have hz2 : z2 = (rwF R c + 0 : Nat) := by omega
    rw [hz2]
    refine kloop0 (rwL R c) (fun j => (∀ p, p < rwF R c + j → (rwP R).getD p 0 % 2 ≠ (rwP R).getD (rwNx R p) 0 % 2) → kGo xs Lx (d + 1) 65 28 [some (.ref t), some (kI (c : Int)), some (kI z1), some (kI ((rwF R c + j : Nat) : Int)), none] [] V _) ?_ (fun j hj ih2 => ?_) 0 (Nat.zero_le _) (fun p hp => hg p (by omega))
    · intro hg2
      refine b65_28 ht ⟨by omega, by omega, fun h => ?_, fun h => by omega⟩
      exact ih (fun p hp => hg2 p (by omega))
    · intro hg2
      have b0 : rwF R c + j < (rwP R).length := by omega
      have f1 := h4 (rwF R c + j) b0
      have f2 := h4 _ (rwNx_lt b0)
      have f3 := rwNx_F hc hj
      have l1 := ok.lt _ (by omega : rwF R c + j < _)
      have l2 := ok.lt _ (by have := rwNx_lt b0; omega : rwNx R (rwF R c + j) < _)
      have ih3 : (rwP R).getD (rwF R c + j) 0 % 2 ≠ (rwP R).getD (rwNx R (rwF R c + j)) 0 % 2 → kGo xs Lx (d + 1) 65 28 [some (.ref t), some (kI (c : Int)), some (kI z1), some (kI (((rwF R c + j : Nat) : Int) + 1)), none] [] V (fun r V' => ∃ x, r = some (kI x) ∧ K x V') := by
        intro hne
        refine ih2 (fun p hp => ?_)
        by_cases e : p = rwF R c + j
        · subst e; exact hne
        · exact hg2 p (by omega)
      have bd := bad _ b0
      refine b65_28 ht ⟨by omega, by omega, fun h => by omega, fun h => ⟨fun h6 => ⟨by omega, fun z3 hz3 => ?_⟩, fun h6 => ?_⟩⟩
      · rw [tn] at hz3
        have hz3 : z3 = ((rwNx R (rwF R c + j) : Nat) : Int) := by
          rw [f3, if_neg (by omega)]; omega
        have := rwNx_lt b0
        rw [hz3]
        simp only [tn, f1, f2]
        refine ⟨by omega, by omega, fun h7 => ⟨by omega, by omega, fun h8 => ⟨_, rfl, bd (by omega)⟩, fun h8 => ih3 (by omega)⟩, fun h7 => ⟨by omega, by omega, fun h8 => ih3 (by omega), fun h8 => ⟨_, rfl, bd (by omega)⟩⟩⟩
      · have e8 : Int.toNat (((rwF R c + j : Nat) : Int) + 1) = rwNx R (rwF R c + j) := by
          rw [f3, if_pos (by omega)]; omega
        have := rwNx_lt b0
        rw [if_pos (by omega)] at f3
        simp only [tn, e8, f1, f2]
        refine ⟨by omega, by omega, fun h7 => ⟨by omega, by omega, fun h8 => ⟨_, rfl, bd (by omega)⟩, fun h8 => ih3 (by omega)⟩, fun h7 => ⟨by omega, by omega, fun h8 => ih3 (by omega), fun h8 => ⟨_, rfl, bd (by omega)⟩⟩⟩
theorem sp_canTake {s : Nat} {S : Rw} {K : Int → km_V → Prop} (hR : kRC V t R) (hS : kRC V s S) (ok : rwOk R) (okS : rwOk S) (ht : km_sh[t]? = some (5, 5)) (hs : km_sh[s]? = some (5, 5)) (k : K (if 0 < R.1.length ∧ 0 < S.1.length ∧ R.1.length + S.1.length ≤ 5 ∧ rwn R + rwn S ≤ 8 then 1 else 0) V) : kCI xs Lx (d + 0) 74 2 [.ref t, .ref s] V K := by
  have h1 := hR.1
  have h2 := hR.2.1
  have g1 := hS.1
  have g2 := hS.2.1
  have o1 := ok.1
  have o2 := ok.2.1
  have p1 := okS.1
  have p2 := okS.2.1
  have no : ¬ (0 < R.1.length ∧ 0 < S.1.length ∧ R.1.length + S.1.length ≤ 5 ∧ rwn R + rwn S ≤ 8) → K 0 V := fun h => by rwa [if_neg h] at k
  refine b74_0 ht hs ⟨by omega, fun h => ⟨_, rfl, no (by omega)⟩, fun h => ⟨by omega, fun h => ⟨_, rfl, no (by omega)⟩, fun h => ⟨by omega, fun h => ⟨_, rfl, no (by omega)⟩, fun h => ⟨by omega, fun h => ⟨_, rfl, no (by omega)⟩, fun h => ⟨_, rfl, ?_⟩⟩⟩⟩⟩
  rwa [if_pos (by omega)] at k
theorem sp_copy {s : Nat} {K : km_V → Prop} (ht : km_sh[t]? = some (5, 5)) (hs : km_sh[s]? = some (5, 5)) (hR : kRC V s R) (ok : rwOk R) (k : ∀ W, kRC W t R → (∀ a j, ¬ (t ≤ a ∧ a ≤ t + 3) → W a j = V a j) → K W) : kCV xs Lx (d + 0) 57 2 [.ref t, .ref s] V K := by
  obtain ⟨h1, h2, h3, h4, h5⟩ := hR
  have o1 := ok.1
  have o2 := ok.2.1
  have o3 := ok.len
  have ap := rr_apart hs ht
  refine b57_0 ht hs (fun W1 e1 f1 W2 e2 f2 W3 e3 f3 => ⟨rfl, k W3 ⟨?_, ?_, fun i hi => ?_, fun i hi => ?_, fun i hi => ?_⟩ (fun a j ha => ?_)⟩)
  · rw [f3 t 0 (by omega), f2 t 0 (by omega), f1 t 0 (by omega), up_ne (by omega), up_at, h1]
  · rw [f3 t 1 (by omega), f2 t 1 (by omega), f1 t 1 (by omega), up_at, up_ne (by omega), h2]
  · rw [f3 _ i (by omega), f2 _ i (by omega), e1 i (by omega), up_ne (by omega), up_ne (by omega), h3 i hi]
  · rw [f3 _ i (by omega), e2 i (by omega), f1 _ i (by omega), up_ne (by omega), up_ne (by omega), h4 i hi]
  · rw [e3 i (by omega), f2 _ i (by omega), f1 _ i (by omega), up_ne (by omega), up_ne (by omega), h5 i hi]
  · rw [f3 a j (by omega), f2 a j (by omega), f1 a j (by omega), up_ne (by omega), up_ne (by omega)]
end RWC
/-- SWITCHED at the crossings of these bits -/
def rwTurnP (b x : Nat) : Nat := x ^^^ (b / 2 ^ (x / 2) % 2)
def rwTurn (b : Nat) (R : Rw) : Rw := (R.1.map (fun l => l.map (rwTurnP b)), (List.range (rwn R)).map (fun c => if b / 2 ^ c % 2 = 1 then - R.2.getD c 0 else R.2.getD c 0))
theorem rwTurn_P (b : Nat) (R : Rw) : rwP (rwTurn b R) = (rwP R).map (rwTurnP b) := by
  unfold rwP rwTurn
  rw [List.map_flatten]
theorem rwTurn_n (b : Nat) (R : Rw) : rwn (rwTurn b R) = rwn R := by
  unfold rwTurn rwn
  simp
theorem rwTurn_F (b : Nat) (R : Rw) (i : Nat) : rwF (rwTurn b R) i = rwF R i := by
  unfold rwF rwTurn
  simp only [← List.map_take, ← List.map_flatten, List.length_map]
theorem rwTurn_len (b : Nat) (R : Rw) : (rwTurn b R).1.length = R.1.length := by
  unfold rwTurn
  simp
theorem rwTurnP_cases (b x : Nat) : (rwTurnP b x = x ∧ b / 2 ^ (x / 2) % 2 = 0) ∨ (b / 2 ^ (x / 2) % 2 = 1 ∧ rwTurnP b x / 2 = x / 2 ∧ rwTurnP b x % 2 = 1 - x % 2) := by
  unfold rwTurnP
  rcases Nat.mod_two_eq_zero_or_one (b / 2 ^ (x / 2)) with h | h
  · rw [h]; exact Or.inl ⟨Nat.xor_zero x, rfl⟩
  · rw [h]
    refine Or.inr ⟨rfl, ?_, ?_⟩
    · rw [Nat.xor_div_two]
      exact Nat.xor_zero _
    · have := @Nat.xor_mod_two_eq_one x 1
      omega
theorem rwTurn_ok {b : Nat} {R : Rw} (h : rwOk R) : rwOk (rwTurn b R) := by
  obtain ⟨h1, h2, h3, h4⟩ := h
  refine ⟨by rw [rwTurn_len]; exact h1, by rw [rwTurn_n]; exact h2, ?_, ?_⟩
  · rw [rwTurn_P, rwTurn_n]
    refine (h3.map _).trans ?_
    have inj : ∀ x y, rwTurnP b x = rwTurnP b y → x = y := by
      intro x y e
      have c1 := rwTurnP_cases b x
      have c2 := rwTurnP_cases b y
      rcases c1 with c1 | c1 <;> rcases c2 with c2 | c2
      · omega
      · exfalso
        have e1 : x / 2 = y / 2 := by omega
        rw [e1] at c1; omega
      · exfalso
        have e1 : x / 2 = y / 2 := by omega
        rw [e1] at c1; omega
      · omega
    have nd : ((List.range (2 * rwn R)).map (rwTurnP b)).Nodup := by
      refine List.pairwise_map.mpr ?_
      refine List.Pairwise.imp ?_ List.nodup_range
      intro x y hne e
      exact hne (inj x y e)
    refine (List.perm_iff_count).mpr (fun a => ?_)
    rw [nd.count, List.nodup_range.count]
    have key : a ∈ (List.range (2 * rwn R)).map (rwTurnP b) ↔ a ∈ List.range (2 * rwn R) := by
      rw [List.mem_map, List.mem_range]
      constructor
      · rintro ⟨x, hx, rfl⟩
        have := List.mem_range.mp hx
        rcases rwTurnP_cases b x with c | c <;> omega
      · intro ha
        refine ⟨rwTurnP b a, ?_, ?_⟩
        · rw [List.mem_range]
          rcases rwTurnP_cases b a with c | c <;> omega
        · have c1 := rwTurnP_cases b a
          have c2 := rwTurnP_cases b (rwTurnP b a)
          rcases c1 with c1 | c1
          · rw [c1.1, c1.1]
          · have e1 : rwTurnP b a / 2 = a / 2 := c1.2.1
            rcases c2 with c2 | c2
            · rw [e1] at c2; omega
            · omega
    by_cases ha : a ∈ List.range (2 * rwn R)
    · rw [if_pos ha, if_pos (key.mpr ha)]
    · rw [if_neg ha, if_neg (fun z => ha (key.mp z))]
  · intro s hs
    unfold rwTurn at hs
    obtain ⟨c, hc, rfl⟩ := List.mem_map.mp hs
    have := h4 (R.2.getD c 0) (gd_mem (List.mem_range.mp hc))
    split <;> omega
section RWD
variable {xs : Nat → Int32} {Lx d : Nat} {V : km_V} {t : Nat} {R : Rw}
theorem kc_div (b c : Nat) : (b : Int) / ((2 ^ c : Nat) : Int) % 2 = ((b / 2 ^ c % 2 : Nat) : Int) := by
  rw [← Int.natCast_ediv]; rfl
theorem sp_turnOver {b : Nat} {K : km_V → Prop} (ht : km_sh[t]? = some (5, 5)) (hR : kRC V t R) (ok : rwOk R) (hb : b < 256) (k : ∀ W, kRC W t (rwTurn b R) → (∀ a j, ¬ (t + 2 ≤ a ∧ a ≤ t + 3) → W a j = V a j) → K W) : kCV xs Lx (d + 1) 66 3 [.ref t, kI b] V K := by
  obtain ⟨h1, h2, h3, h4, h5⟩ := hR
  have o1 := ok.1
  have o2 := ok.2.1
  have o3 := ok.len
  refine b66_0 ht ?_
  refine kloop (rwP R).length (fun c W => (∀ a j, a ≠ t + 2 → W a j = V a j) ∧ (∀ p, p < (rwP R).length → W (t + 2) p = if p < c then ((rwTurnP b ((rwP R).getD p 0) : Nat) : Int) else (((rwP R).getD p 0 : Nat) : Int)))
    (fun c W => kGo xs Lx (d + 1) 66 2 [some (.ref t), some (kI b), some (kI (c : Int))] [] W _) (fun W ⟨f1, f2⟩ => ?_) (fun c W hc ⟨f1, f2⟩ ih => ?_) 0 V (Nat.zero_le _) ⟨fun _ _ _ => rfl, fun p hp => by rw [if_neg (by omega)]; exact h4 p hp⟩
  · have g2 : W t 1 = (rwn R : Int) := by rw [f1 t 1 (by omega)]; exact h2
    refine b66_2 ht ⟨by omega, by omega, fun _ => ?_, fun h => by omega⟩
    refine kloop (rwn R) (fun c W' => (∀ a j, ¬ (a = t + 2 ∨ a = t + 3) → W' a j = V a j) ∧ (∀ p, p < (rwP R).length → W' (t + 2) p = ((rwTurnP b ((rwP R).getD p 0) : Nat) : Int)) ∧ (∀ i, i < rwn R → W' (t + 3) i = if i < c then (rwTurn b R).2.getD i 0 else R.2.getD i 0))
      (fun c W' => kGo xs Lx (d + 1) 66 36 [some (.ref t), some (kI b), some (kI (c : Int))] [] W' _) (fun W' ⟨g1, g2, g3⟩ => ?_) (fun c W' hc ⟨g1, g2, g3⟩ ih => ?_) 0 W (Nat.zero_le _) ⟨fun a j ha => f1 a j (by omega), fun p hp => by rw [f2 p hp, if_pos hp], fun i hi => by rw [if_neg (by omega), f1 _ _ (by omega)]; exact h5 i hi⟩
    · have e1 : W' t 1 = (rwn R : Int) := by rw [g1 t 1 (by omega)]; exact h2
      refine b66_36 ht ⟨by omega, by omega, fun _ => ⟨rfl, ?_⟩, fun h => by omega⟩
      refine k W' ⟨?_, ?_, fun i hi => ?_, fun p hp => ?_, fun c hc => ?_⟩ (fun a j ha => g1 a j (by omega))
      · rw [g1 _ _ (by omega), rwTurn_len]; exact h1
      · rw [rwTurn_n]; exact e1
      · rw [rwTurn_len] at hi
        rw [g1 _ _ (by omega), rwTurn_F]; exact h3 i hi
      · rw [rwTurn_P, List.length_map] at hp
        rw [g2 p hp, rwTurn_P, gd_map (z := 0) hp]
      · rw [rwTurn_n] at hc
        rw [g3 c hc, if_pos hc]
    · have e1 : W' t 1 = (rwn R : Int) := by rw [g1 t 1 (by omega)]; exact h2
      have e2 : (rwTurn b R).2.getD c 0 = if b / 2 ^ c % 2 = 1 then - R.2.getD c 0 else R.2.getD c 0 := gd_rmap hc
      have g4 := g3 c hc
      rw [if_neg (by omega)] at g4
      have upd : ∀ x : Int, x = (rwTurn b R).2.getD c 0 → (∀ a j, ¬ (a = t + 2 ∨ a = t + 3) → up W' (t + 3) c x a j = V a j) ∧ (∀ p, p < (rwP R).length → up W' (t + 3) c x (t + 2) p = ((rwTurnP b ((rwP R).getD p 0) : Nat) : Int)) ∧ (∀ i, i < rwn R → up W' (t + 3) c x (t + 3) i = if i < c + 1 then (rwTurn b R).2.getD i 0 else R.2.getD i 0) := by
        intro x hx
        refine ⟨fun a j ha => by rw [up_ne (by omega)]; exact g1 a j ha, fun p hp => by rw [up_ne (by omega)]; exact g2 p hp, fun i hi => ?_⟩
        by_cases e : i = c
        · subst e; rw [up_at, if_pos (by omega), hx]
        · rw [up_ne (by omega), g3 i hi]
          by_cases e' : i < c
          · rw [if_pos e', if_pos (by omega)]
          · rw [if_neg e', if_neg (by omega)]
      refine b66_36 ht ⟨by omega, by omega, fun h => by omega, fun h => ⟨by omega, by omega, ?_, fun h => ⟨by omega, ?_⟩, fun h => ⟨by omega, ?_⟩⟩⟩
      · rw [tn, kc_div]; omega
      · rw [tn, kc_div] at h
        refine ih _ (upd _ ?_)
        rw [tn, g4, e2, if_neg (by omega)]
      · rw [tn, kc_div] at h
        refine ih _ (upd _ ?_)
        rw [tn, g4, e2, if_pos (by omega)]
  · have g2 : W t 1 = (rwn R : Int) := by rw [f1 t 1 (by omega)]; exact h2
    have g3 := f2 c hc
    rw [if_neg (by omega)] at g3
    have l1 := ok.lt c (by omega)
    have e1 : Int.toNat (((rwP R).getD c 0 : Nat) / 2 : Int) = (rwP R).getD c 0 / 2 := rfl
    have e2 : ∀ x : Nat, Int.toNat (((x : Nat) : Int)) = x := fun _ => rfl
    refine b66_2 ht ⟨by omega, by omega, fun h => by omega, fun h => ?_⟩
    simp only [tn, g3, e1, kc_div]
    refine ⟨by omega, by omega, by omega, by omega, by omega, by omega, by omega, ?_⟩
    refine ih _ ⟨fun a j ha => by rw [up_ne (by omega)]; exact f1 a j ha, fun p hp => ?_⟩
    by_cases e : p = c
    · subst e; rw [up_at, if_pos (by omega)]; rfl
    · rw [up_ne (by omega), f2 p hp]
      by_cases e' : p < c
      · rw [if_pos e', if_pos (by omega)]
      · rw [if_neg e', if_neg (by omega)]
end RWD

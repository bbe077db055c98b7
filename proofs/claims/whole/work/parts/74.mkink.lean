/-! a kink in the model -/
section MKI
variable {xs : Nat → Int32} {Lx d : Nat} {V : km_V} {R S : Rw} {hs : Hs} {ps : List Rw}
theorem curl_at {l : List Nat} {j q a b : Nat} (hj : j < l.length) : (l.take (j + 1) ++ ([a, b] ++ l.drop (j + 1))).getD q 0 = if q ≤ j then l.getD q 0 else if q = j + 1 then a else if q = j + 2 then b else l.getD (q - 2) 0 := by
  have e1 : (l.take (j + 1)).length = j + 1 := by rw [List.length_take]; omega
  by_cases h1 : q ≤ j
  · rw [if_pos h1, gd_appl (by omega), gd_take (by omega)]
  · rw [if_neg h1, gd_appr (by omega), e1]
    by_cases h2 : q = j + 1
    · rw [if_pos h2, show q - (j + 1) = 0 by omega]; rfl
    · rw [if_neg h2]
      by_cases h3 : q = j + 2
      · rw [if_pos h3, show q - (j + 1) = 1 by omega]; rfl
      · rw [if_neg h3, gd_appr (by simp; omega), gd_drop]
        congr 1
        simp; omega
theorem mkink_fin {i j : Nat} {X : km_V} {A B sg : Int} {ov pl : Bool} (ok : rwOk R) (hi : i < R.1.length) (hj : j < rwL R i) (hn : rwn R < 8) (x0 : X 307 0 = (R.1.length : Int)) (x1 : X 307 1 = (rwn R : Int)) (x2 : ∀ k, k < R.1.length → X 307 (2 + k) = (rwL R k : Int)) (x3 : ∀ k q, k < R.1.length → q < rwL R k → k ≠ i → X 307 (6 + 16 * k + q) = ((rwR R k).getD q 0 : Int)) (x4 : ∀ q, q ≤ j → X 307 (6 + 16 * i + q) = ((rwR R i).getD q 0 : Int)) (x5 : ∀ q, j < q → q < rwL R i → X 307 (6 + 16 * i + q + 2) = ((rwR R i).getD q 0 : Int)) (x6 : ∀ c, c < rwn R → X 307 (70 + c) = R.2.getD c 0) (hA : A = 2 * (rwn R : Int) + (if ov then 1 else 0)) (hB : B = 2 * (rwn R : Int) + (if ov then 0 else 1)) (hsg : sg = if pl then 1 else -1) : kRf ((up (up (up (up (up X 307 (6 + 16 * i + j + 1) A) 307 (6 + 16 * i + j + 2) B) 307 (2 + i) ((rwL R i : Int) + 2)) 307 (70 + rwn R) sg) 307 1 ((rwn R : Int) + 1)) 307) (rwCurl (rwF R i + j) ov pl R) := by
  have o1 := ok.1
  have l := ok.len
  have fe := rwF_end hi
  have eR : ∀ k, rwR (rwCurl (rwF R i + j) ov pl R) k = if k = i then (rwR R i).take (j + 1) ++ ([2 * rwn R + (if ov then 1 else 0), 2 * rwn R + (if ov then 0 else 1)] ++ (rwR R i).drop (j + 1)) else rwR R k := by
    intro k
    unfold rwCurl
    rw [rwAt_F hi hj]
    exact rwR_set hi _ _
  have eL : ∀ k, rwL (rwCurl (rwF R i + j) ov pl R) k = if k = i then rwL R i + 2 else rwL R k := by
    intro k
    unfold rwL
    rw [eR k]
    by_cases z : k = i
    · rw [if_pos z, if_pos z]
      have hj' : j < (rwR R i).length := hj
      simp only [List.length_append, List.length_take, List.length_drop, List.length_cons, List.length_nil]
      omega
    · rw [if_neg z, if_neg z]
  refine ⟨?_, ?_, fun k hk => ?_, fun k q hk hq => ?_, fun c hc => ?_⟩
  · rw [up_ne (by omega), up_ne (by omega), up_ne (by omega), up_ne (by omega), up_ne (by omega), rwCurl_len]; exact x0
  · rw [up_at, rwCurl_n]; omega
  · rw [rwCurl_len] at hk
    rw [eL, up_ne (by omega), up_ne (by omega)]
    by_cases z : k = i
    · subst z; rw [if_pos rfl, up_at]; omega
    · rw [if_neg z, up_ne (by omega), up_ne (by omega), up_ne (by omega)]; exact x2 k hk
  · rw [rwCurl_len] at hk
    rw [eL] at hq
    have fk := rwF_end hk
    rw [eR, up_ne (by omega), up_ne (by split at hq <;> omega), up_ne (by omega)]
    by_cases z : k = i
    · subst z
      rw [if_pos rfl] at hq
      rw [if_pos rfl, curl_at hj]
      by_cases z1 : q ≤ j
      · rw [if_pos z1, up_ne (by omega), up_ne (by omega)]; exact x4 q z1
      · rw [if_neg z1]
        by_cases z2 : q = j + 1
        · subst z2
          rw [if_pos rfl, up_ne (by omega), show 6 + 16 * k + (j + 1) = 6 + 16 * k + j + 1 by omega, up_at, hA]
          cases ov <;> simp
        · rw [if_neg z2]
          by_cases z3 : q = j + 2
          · subst z3
            rw [if_pos rfl, show 6 + 16 * k + (j + 2) = 6 + 16 * k + j + 2 by omega, up_at, hB]
            cases ov <;> simp
          · rw [if_neg z3, up_ne (by omega), up_ne (by omega)]
            have := x5 (q - 2) (by omega) (by omega)
            rw [show 6 + 16 * k + (q - 2) + 2 = 6 + 16 * k + q by omega] at this
            exact this
    · rw [if_neg z] at hq
      rw [if_neg z, up_ne (by omega), up_ne (by omega)]; exact x3 k q hk hq z
  · rw [rwCurl_n] at hc
    have es : (rwCurl (rwF R i + j) ov pl R).2.getD c 0 = if c < rwn R then R.2.getD c 0 else (if pl then 1 else -1) := by
      unfold rwCurl
      show (R.2 ++ [if pl then 1 else -1]).getD c 0 = _
      by_cases z : c < rwn R
      · rw [if_pos z]; exact gd_appl z
      · rw [if_neg z, gd_appr (Nat.le_of_not_lt z)]
        have : c - R.2.length = 0 := by unfold rwn at hc; omega
        rw [this]; rfl
    rw [es, up_ne (by omega)]
    by_cases z : c = rwn R
    · subst z; rw [up_at, if_neg (by omega), hsg]
    · rw [up_ne (by omega), up_ne (by omega), up_ne (by omega), up_ne (by omega), if_pos (by omega)]; exact x6 c (by omega)
theorem sp_mkink {a : Int} {ov pl : Bool} {K : Int → km_V → Prop} (ha : kR a) (hM : kM V R ps hs) (ok : kOk R ps hs) (k1 : ∀ e : Nat, a = (e : Int) → e < 2 * rwn R → rwn R < 8 → ∀ W, kM W (rwCurl e ov pl R) (rwPush R ps) hs → mFr V W → K 1 W) (k0 : ¬ (0 ≤ a ∧ a < 2 * (rwn R : Int) ∧ rwn R < 8) → K 0 V) : kCI xs Lx (d + 1) 183 8 [.ref 299, kI a, kI (if ov then 1 else 0), kI (if pl then 1 else 0)] V K := by
  obtain ⟨m1, m2, m3⟩ := id hM
  obtain ⟨h1, h2, h3, h4, h5⟩ := id m1
  have o1 := ok.1.1
  have o2 := ok.1.2.1
  have o3 := ok.1.len
  have e1 : V 307 (Int.toNat 1) = (rwn R : Int) := h2
  refine b183_0 ?_
  rw [e1]
  simp only [kin_eq]
  have no : ¬ (0 ≤ a ∧ a < 2 * (rwn R : Int) ∧ rwn R < 8) → kGo xs Lx (d + 1) 183 29 [none, none, none, none, none, none, none, none] [] V (fun r V' => ∃ v : Int, r = some (kI v) ∧ K v V') := fun h => b183_29 ⟨_, rfl, k0 h⟩
  refine ⟨by omega, fun h => no (by omega), fun h => ⟨ha, by omega, by split <;> omega, fun h2 => ?_, fun h2 => no (fun c => by rw [if_pos (by omega)] at h2; omega)⟩⟩
  have c : 0 ≤ a ∧ a < 2 * (rwn R : Int) := by
    by_cases c : 0 ≤ a ∧ a ≤ 2 * (rwn R : Int) - 1
    · omega
    · rw [if_neg c] at h2; omega
  obtain ⟨e, rfl⟩ : ∃ e : Nat, a = (e : Int) := ⟨Int.toNat a, by omega⟩
  have he : e < (rwP R).length := by omega
  refine sp_marks m1 ok.1 m2 ok.2.1 (fun W1 p1 f1 => ?_)
  refine sp_whereOf (by decide) (m1.fr ok.1 (fun j _ => f1 _ _ (by omega))) ok.1 he ?_
  obtain ⟨i, j, hi, hj, hE⟩ := rw_split he
  have fe := rwF_end hi
  have wE : rwW R e = 6 + 16 * i + j := by unfold rwW; rw [hE, rwAt_F hi hj]
  rw [wE]
  refine ⟨by omega, fun z3 hz3 => ?_⟩
  have e2 : W1 307 (Int.toNat 1) = (rwn R : Int) := (f1 _ _ (by omega)).trans e1
  rw [e2]
  obtain rfl : z3 = (i : Int) := by omega
  intro z4 hz4
  subst hz4
  have n1 : Int.toNat (2 + (i : Int)) = 2 + i := by omega
  have e3 : W1 307 (2 + i) = (rwL R i : Int) := (f1 _ _ (by omega)).trans (h3 i hi)
  rw [n1, e3]
  refine ⟨by omega, fun z5 hz5 => ?_⟩
  subst hz5
  have hn : rwn R < 8 := by omega
  have key := kloop (rwL R i - 1 - j) (fun m X => (∀ q, q < rwL R i - m → X 307 (6 + 16 * i + q) = ((rwR R i).getD q 0 : Int)) ∧ (∀ q, rwL R i - m ≤ q → q < rwL R i → X 307 (6 + 16 * i + q + 2) = ((rwR R i).getD q 0 : Int)) ∧ (∀ b q, ¬ (b = 307 ∧ 6 + 16 * i + j + 2 < q ∧ q < 6 + 16 * i + rwL R i + 2) → X b q = W1 b q)) (fun m X => kGo xs Lx (d + 1) 183 86 [some (.ref 299), none, some (kI (if ov then 1 else 0)), some (kI (if pl then 1 else 0)), some (kI ((6 + 16 * i + j : Nat) : Int)), some (kI (i : Int)), some (kI (rwn R : Int)), some (kI (6 + 16 * (i : Int) + (rwL R i : Int) - 1 - (m : Int)))] [] X (fun r V' => ∃ v : Int, r = some (kI v) ∧ K v V')) (fun X ⟨r1, r2, r3⟩ => ?_) (fun m X hm ⟨r1, r2, r3⟩ ih => ?_) 0 W1 (Nat.zero_le _) ⟨fun q hq => (f1 _ _ (by omega)).trans (h4 i q hi (by omega)), fun q hq hq2 => by omega, fun _ _ _ => rfl⟩
  · rw [show 6 + 16 * (i : Int) + (rwL R i : Int) - 1 - ((0 : Nat) : Int) = 6 + 16 * (i : Int) + (rwL R i : Int) - 1 by omega] at key
    exact key
  · have n2 : Int.toNat (((6 + 16 * i + j : Nat) : Int) + 1) = 6 + 16 * i + j + 1 := by omega
    have n3 : Int.toNat (((6 + 16 * i + j : Nat) : Int) + 2) = 6 + 16 * i + j + 2 := by omega
    have n4 : Int.toNat (70 + (rwn R : Int)) = 70 + rwn R := by omega
    have x2 : X 307 (2 + i) = (rwL R i : Int) := (r3 _ _ (by omega)).trans e3
    have x1 : X 307 1 = (rwn R : Int) := (r3 _ _ (by omega)).trans e2
    have fin : ∀ A B sg : Int, A = 2 * (rwn R : Int) + (if ov then 1 else 0) → B = 2 * (rwn R : Int) + (if ov then 0 else 1) → sg = (if pl then 1 else -1) → ∃ v : Int, some (kI 1) = some (kI v) ∧ K v (up (up (up (up (up X 307 (6 + 16 * i + j + 1) A) 307 (6 + 16 * i + j + 2) B) 307 (2 + i) ((rwL R i : Int) + 2)) 307 (70 + rwn R) sg) 307 1 ((rwn R : Int) + 1)) := by
      intro A B sg hA hB hsg
      refine ⟨_, rfl, k1 e rfl (by omega) hn _ (kM.mk2 (V := V) ?_ ?_ m3 (fun b q hb => ?_)) (fun b q hb => ?_)⟩
      · rw [hE]
        refine mkink_fin ok.1 hi hj hn ((r3 _ _ (by omega)).trans ((f1 _ _ (by omega)).trans h1)) x1 (fun k hk => (r3 _ _ (by omega)).trans ((f1 _ _ (by omega)).trans (h3 k hk))) (fun k q hk hq ne => (r3 _ _ ?_).trans ((f1 _ _ (by omega)).trans (h4 k q hk hq))) (fun q hq => r1 q (by omega)) (fun q hq hq2 => r2 q (by omega) hq2) (fun c hc => (r3 _ _ (by omega)).trans ((f1 _ _ (by omega)).trans (h5 c hc))) hA hB hsg
        have fk := rwF_end hk
        omega
      · exact p1.fr (by rw [up_ne (by omega), up_ne (by omega), up_ne (by omega), up_ne (by omega), up_ne (by omega), r3 _ _ (by omega)]) (by rw [up_ne (by omega), up_ne (by omega), up_ne (by omega), up_ne (by omega), up_ne (by omega), r3 _ _ (by omega)]) (fun q => by rw [up_ne (by omega), up_ne (by omega), up_ne (by omega), up_ne (by omega), up_ne (by omega), r3 _ _ (by omega)])
      · rw [up_ne (by omega), up_ne (by omega), up_ne (by omega), up_ne (by omega), up_ne (by omega), r3 _ _ (by omega), f1 _ _ (by omega)]
      · rw [up_ne (by omega), up_ne (by omega), up_ne (by omega), up_ne (by omega), up_ne (by omega), r3 _ _ (by omega), f1 _ _ (by omega)]
    refine b183_86 ⟨by omega, by omega, fun _ => ?_, fun h => by omega⟩
    rw [n1, n2, n3, n4]
    have u2 : ∀ A B : Int, (up (up X 307 (6 + 16 * i + j + 1) A) 307 (6 + 16 * i + j + 2) B) 307 (2 + i) = (rwL R i : Int) := fun A B => by rw [up_ne (by omega), up_ne (by omega)]; exact x2
    have u1 : ∀ A B C D : Int, (up (up (up (up X 307 (6 + 16 * i + j + 1) A) 307 (6 + 16 * i + j + 2) B) 307 (2 + i) C) 307 (70 + rwn R) D) 307 (Int.toNat 1) = (rwn R : Int) := fun A B C D => by rw [up_ne (by omega), up_ne (by omega), up_ne (by omega), up_ne (by omega)]; exact x1
    simp only [u2, u1]
    refine ⟨by cases ov <;> decide, fun h3 => ⟨by omega, by omega, by omega, by cases pl <;> decide, fun h4 => ⟨by omega, fin _ _ _ ?_ ?_ ?_⟩, fun h4 => ⟨by omega, fin _ _ _ ?_ ?_ ?_⟩⟩, fun h3 => ⟨by omega, by omega, by omega, by cases pl <;> decide, fun h4 => ⟨by omega, fin _ _ _ ?_ ?_ ?_⟩, fun h4 => ⟨by omega, fin _ _ _ ?_ ?_ ?_⟩⟩⟩
    all_goals first
      | (cases ov <;> simp at h3 ⊢; done)
      | (cases pl <;> simp at h4 ⊢; done)
  · have n2 : Int.toNat (6 + 16 * (i : Int) + (rwL R i : Int) - 1 - (m : Int)) = 6 + 16 * i + (rwL R i - 1 - m) := by omega
    have n3 : Int.toNat (6 + 16 * (i : Int) + (rwL R i : Int) - 1 - (m : Int) + 2) = 6 + 16 * i + (rwL R i - 1 - m) + 2 := by omega
    refine b183_86 ⟨by omega, by omega, fun h => by omega, fun _ => ⟨by omega, by omega, ?_⟩⟩
    rw [n2, n3, show 6 + 16 * (i : Int) + (rwL R i : Int) - 1 - (m : Int) + (-1) = 6 + 16 * (i : Int) + (rwL R i : Int) - 1 - ((m + 1 : Nat) : Int) by omega]
    refine ih _ ⟨fun q hq => ?_, fun q hq hq2 => ?_, fun b q hb => by rw [up_ne (by omega)]; exact r3 b q hb⟩
    · rw [up_ne (by omega)]; exact r1 q (by omega)
    · by_cases z : q = rwL R i - 1 - m
      · subst z; rw [up_at]; exact r1 _ (by omega)
      · rw [up_ne (by omega)]; exact r2 q (by omega) hq2
end MKI

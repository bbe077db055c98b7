/-! the same rows -/
theorem rw_ext {R S : Rw} (h1 : R.1.length = S.1.length) (h2 : ∀ i, i < R.1.length → rwL R i = rwL S i) (h3 : ∀ i j, i < R.1.length → j < rwL R i → (rwR R i).getD j 0 = (rwR S i).getD j 0) (h4 : rwn R = rwn S) (h5 : ∀ c, c < rwn R → R.2.getD c 0 = S.2.getD c 0) : R = S := by
  refine Prod.ext (gd_ext [] h1 (fun i hi => gd_ext 0 (h2 i hi) (fun j hj => h3 i j hi hj))) (gd_ext 0 h4 h5)
theorem rw_extP {R S : Rw} (h1 : R.1.length = S.1.length) (h2 : ∀ i, i ≤ R.1.length → rwF R i = rwF S i) (h3 : ∀ p, p < (rwP R).length → (rwP R).getD p 0 = (rwP S).getD p 0) (h4 : rwn R = rwn S) (h5 : ∀ c, c < rwn R → R.2.getD c 0 = S.2.getD c 0) : R = S := by
  have hl : ∀ i, i < R.1.length → rwL R i = rwL S i := by
    intro i hi
    have a := rwF_succ hi
    have b := rwF_succ (R := S) (i := i) (by omega)
    have c := h2 i (by omega)
    have d := h2 (i + 1) (by omega)
    omega
  refine rw_ext h1 hl (fun i j hi hj => ?_) h4 h5
  have e := rwF_end hi
  rw [← rwP_at hi hj, ← rwP_at (R := S) (by omega) (by rw [← hl i hi]; exact hj), ← h2 i (by omega)]
  exact h3 _ (by omega)
section SAM
variable {xs : Nat → Int32} {Lx d : Nat} {V : km_V} {t u : Nat} {R S : Rw}
theorem sp_same {K : Int → km_V → Prop} (ht : km_sh[t]? = some (5, 5)) (hu : km_sh[u]? = some (5, 5)) (hR : kRC V t R) (hS : kRC V u S) (ok : rwOk R) (okS : rwOk S) (k1 : R = S → K 1 V) (k0 : R ≠ S → K 0 V) : kCI xs Lx (d + 1) 58 4 [.ref t, .ref u] V K := by
  obtain ⟨h1, h2, h3, h4, h5⟩ := id hR
  obtain ⟨g1, g2, g3, g4, g5⟩ := id hS
  have o1 := ok.1
  have o2 := ok.2.1
  have o3 := ok.len
  have oS1 := okS.1
  have oS2 := okS.2.1
  have oS3 := okS.len
  refine b58_0 ht hu ?_
  -- nothing more is looked at once two differ
  have z112 : (R ≠ S) → ∀ x3 : Int, kGo xs Lx (d + 1) 58 112 [some (.ref t), some (.ref u), some (kI 0), some (kI x3)] [] V (fun r V' => ∃ v : Int, r = some (kI v) ∧ K v V') := fun ne x3 => b58_112 ht hu ⟨by omega, fun _ => ⟨Or.inl rfl, _, rfl, k0 ne⟩, fun h => absurd rfl h⟩
  have z71 : (R ≠ S) → ∀ x3 : Int, kGo xs Lx (d + 1) 58 71 [some (.ref t), some (.ref u), some (kI 0), some (kI x3)] [] V (fun r V' => ∃ v : Int, r = some (kI v) ∧ K v V') := fun ne x3 => b58_71 ht hu ⟨by omega, fun _ => z112 ne _, fun h => absurd rfl h⟩
  have z30 : (R ≠ S) → ∀ x3 : Int, kGo xs Lx (d + 1) 58 30 [some (.ref t), some (.ref u), some (kI 0), some (kI x3)] [] V (fun r V' => ∃ v : Int, r = some (kI v) ∧ K v V') := fun ne x3 => b58_30 ht hu ⟨by omega, fun _ => z71 ne _, fun h => absurd rfl h⟩
  rw [h1, g1, h2, g2]
  refine ⟨by omega, by omega, fun e => z30 (fun z => e (by rw [z])) 0, fun e => ⟨by omega, by omega, fun e2 => z30 (fun z => e2 (by rw [z])) 0, fun e2 => ?_⟩⟩
  have e : R.1.length = S.1.length := by omega
  have e2 : rwn R = rwn S := by omega
  refine kloop (R.1.length + 1) (fun c W => W = V ∧ ∀ i, i < c → rwF R i = rwF S i) (fun c W => kGo xs Lx (d + 1) 58 30 [some (.ref t), some (.ref u), some (kI 1), some (kI (c : Int))] [] W _) (fun W ⟨w, q⟩ => ?_) (fun c W hc ⟨w, q⟩ ih => ?_) 0 V (Nat.zero_le _) ⟨rfl, fun i hi => by omega⟩
  · subst w
    refine b58_30 ht hu ⟨by omega, fun h => by omega, fun _ => ?_⟩
    rw [h1]
    refine ⟨by omega, by omega, fun _ => ?_, fun h => by omega⟩
    refine kloop (2 * rwn R) (fun c X => X = W ∧ ∀ p, p < c → (rwP R).getD p 0 = (rwP S).getD p 0) (fun c X => kGo xs Lx (d + 1) 58 71 [some (.ref t), some (.ref u), some (kI 1), some (kI (c : Int))] [] X _) (fun X ⟨w, q2⟩ => ?_) (fun c X hc ⟨w, q2⟩ ih => ?_) 0 W (Nat.zero_le _) ⟨rfl, fun i hi => by omega⟩
    · subst w
      refine b58_71 ht hu ⟨by omega, fun h => by omega, fun _ => ?_⟩
      rw [h2]
      refine ⟨by omega, by omega, fun _ => ?_, fun h => by omega⟩
      refine kloop (rwn R) (fun c Y => Y = X ∧ ∀ p, p < c → R.2.getD p 0 = S.2.getD p 0) (fun c Y => kGo xs Lx (d + 1) 58 112 [some (.ref t), some (.ref u), some (kI 1), some (kI (c : Int))] [] Y _) (fun Y ⟨w, q3⟩ => ?_) (fun c Y hc ⟨w, q3⟩ ih => ?_) 0 X (Nat.zero_le _) ⟨rfl, fun i hi => by omega⟩
      · subst w
        refine b58_112 ht hu ⟨by omega, fun h => by omega, fun _ => ?_⟩
        rw [h2]
        exact ⟨by omega, by omega, fun _ => ⟨Or.inr rfl, _, rfl, k1 (rw_extP e (fun i hi => q i (by omega)) (fun p hp => q2 p (by omega)) e2 q3)⟩, fun h => by omega⟩
      · subst w
        have s1 := ok.sg c hc
        have s2 := okS.sg c (by omega)
        refine b58_112 ht hu ⟨by omega, fun h => by omega, fun _ => ?_⟩
        simp only [tn]
        rw [h2, h5 c hc, g5 c (by omega)]
        refine ⟨by omega, by omega, fun h => by omega, fun _ => ⟨by omega, by omega, by omega, fun ne => ?_, fun eq => ih _ ⟨rfl, fun p hp => ?_⟩⟩⟩
        · exact b58_112 ht hu ⟨by omega, fun _ => ⟨Or.inl rfl, _, rfl, k0 (fun z => ne (by rw [z]))⟩, fun h => absurd rfl h⟩
        · by_cases x : p = c
          · subst x; exact eq
          · exact q3 p (by omega)
    · subst w
      have s1 := ok.lt c hc
      have s2 := okS.lt c (by omega)
      refine b58_71 ht hu ⟨by omega, fun h => by omega, fun _ => ?_⟩
      simp only [tn]
      rw [h2, h4 c (by omega), g4 c (by omega)]
      refine ⟨by omega, by omega, fun h => by omega, fun _ => ⟨by omega, by omega, by omega, fun ne => z71 (fun z => ne (by rw [z])) _, fun eq => ih _ ⟨rfl, fun p hp => ?_⟩⟩⟩
      by_cases x : p = c
      · subst x; omega
      · exact q2 p (by omega)
  · subst w
    have s1 := rwF_le (R := R) (i := c) (j := R.1.length) (by omega) (Nat.le_refl _)
    have s2 := rwF_le (R := S) (i := c) (j := S.1.length) (by omega) (Nat.le_refl _)
    have s3 := rwF_all R
    have s4 := rwF_all S
    refine b58_30 ht hu ⟨by omega, fun h => by omega, fun _ => ?_⟩
    simp only [tn]
    rw [h1, h3 c (by omega), g3 c (by omega)]
    refine ⟨by omega, by omega, fun h => by omega, fun _ => ⟨by omega, by omega, by omega, fun ne => z30 (fun z => ne (by rw [z])) _, fun eq => ih _ ⟨rfl, fun p hp => ?_⟩⟩⟩
    by_cases x : p = c
    · subst x; omega
    · exact q p (by omega)
theorem sp_msame {K : Int → km_V → Prop} (hR : kRf (V 307) R) (hS : kRf (V 326) S) (ok : rwOk R) (okS : rwOk S) (k1 : R = S → K 1 V) (k0 : R ≠ S → K 0 V) : kCI xs Lx (d + 0) 214 3 [.ref 299] V K := by
  obtain ⟨h1, h2, h3, h4, h5⟩ := id hR
  obtain ⟨g1, g2, g3, g4, g5⟩ := id hS
  have o1 := ok.1
  have o2 := ok.2.1
  have o3 := ok.len
  have oS1 := okS.1
  have oS2 := okS.2.1
  have oS3 := okS.len
  refine b214_0 ?_
  simp only [show Int.toNat 0 = 0 from rfl, show Int.toNat 1 = 1 from rfl]
  rw [h1, g1, h2, g2]
  refine ⟨by omega, by omega, fun e => ⟨_, rfl, k0 (fun z => e (by rw [z]))⟩, fun e => ⟨by omega, by omega, fun e2 => ?_, fun e2 => ⟨_, rfl, k0 (fun z => e2 (by rw [z]))⟩⟩⟩
  have e : R.1.length = S.1.length := by omega
  have e2 : rwn R = rwn S := by omega
  refine kloop R.1.length (fun c W => W = V ∧ ∀ i, i < c → rwL R i = rwL S i ∧ ∀ j, j < rwL R i → (rwR R i).getD j 0 = (rwR S i).getD j 0) (fun c W => kGo xs Lx (d + 0) 214 34 [some (.ref 299), some (kI (c : Int)), none] [] W _) (fun W ⟨w, q⟩ => ?_) (fun c W hc ⟨w, q⟩ ih => ?_) 0 V (Nat.zero_le _) ⟨rfl, fun i hi => by omega⟩
  · subst w
    refine b214_34 ?_
    rw [show Int.toNat 0 = 0 from rfl, h1]
    refine ⟨by omega, by omega, fun _ => ?_, fun h => by omega⟩
    refine kloop (rwn R) (fun c Y => Y = W ∧ ∀ p, p < c → R.2.getD p 0 = S.2.getD p 0) (fun c Y => kGo xs Lx (d + 0) 214 126 [some (.ref 299), some (kI (c : Int)), none] [] Y _) (fun Y ⟨w, q3⟩ => ?_) (fun c Y hc ⟨w, q3⟩ ih => ?_) 0 W (Nat.zero_le _) ⟨rfl, fun i hi => by omega⟩
    · subst w
      refine b214_126 ?_
      rw [show Int.toNat 1 = 1 from rfl, h2]
      exact ⟨by omega, by omega, fun _ => ⟨_, rfl, k1 (rw_ext e (fun i hi => (q i hi).1) (fun i j hi hj => (q i hi).2 j hj) e2 q3)⟩, fun h => by omega⟩
    · subst w
      have s1 := ok.sg c hc
      have s2 := okS.sg c (by omega)
      have n1 : Int.toNat (70 + (c : Int)) = 70 + c := by omega
      refine b214_126 ?_
      rw [n1, show Int.toNat 1 = 1 from rfl, h2, h5 c hc, g5 c (by omega)]
      refine ⟨by omega, by omega, fun h => by omega, fun _ => ⟨by omega, by omega, by omega, fun eq => ih _ ⟨rfl, fun p hp => ?_⟩, fun ne => ⟨_, rfl, k0 (fun z => ne (by rw [z]))⟩⟩⟩
      by_cases x : p = c
      · subst x; exact eq
      · exact q3 p (by omega)
  · subst w
    have s1 := rwF_end hc
    have s2 := rwF_end (R := S) (i := c) (by omega)
    have n1 : Int.toNat (2 + (c : Int)) = 2 + c := by omega
    refine b214_34 ?_
    rw [n1, show Int.toNat 0 = 0 from rfl, h1, h3 c hc, g3 c (by omega)]
    refine ⟨by omega, by omega, fun h => by omega, fun _ => ⟨by omega, by omega, by omega, fun eq => ?_, fun ne => ⟨_, rfl, k0 (fun z => ne (by rw [z]))⟩⟩⟩
    have eq : rwL R c = rwL S c := by omega
    refine kloop (rwL R c) (fun j Y => Y = W ∧ ∀ p, p < j → (rwR R c).getD p 0 = (rwR S c).getD p 0) (fun j Y => kGo xs Lx (d + 0) 214 67 [some (.ref 299), some (kI (c : Int)), some (kI (j : Int))] [] Y _) (fun Y ⟨w, q3⟩ => ?_) (fun j Y hj ⟨w, q3⟩ ih2 => ?_) 0 W (Nat.zero_le _) ⟨rfl, fun i hi => by omega⟩
    · subst w
      refine b214_67 ?_
      rw [n1, h3 c hc]
      refine ⟨by omega, by omega, by omega, fun _ => ih _ ⟨rfl, fun i hi => ?_⟩, fun h => by omega⟩
      by_cases x : i = c
      · subst x; exact ⟨eq, q3⟩
      · exact q i (by omega)
    · subst w
      have l1 := ok.lt (rwF R c + j) (by omega)
      have l2 := okS.lt (rwF S c + j) (by omega)
      rw [rwP_at hc hj] at l1
      rw [rwP_at (R := S) (by omega) (by omega)] at l2
      have n2 : Int.toNat (6 + 16 * (c : Int) + (j : Int)) = 6 + 16 * c + j := by omega
      refine b214_67 ?_
      rw [n1, n2, h3 c hc, h4 c j hc hj, g4 c j (by omega) (by omega)]
      refine ⟨by omega, by omega, by omega, fun h => by omega, fun _ => ⟨by omega, by omega, by omega, fun eq => ih2 _ ⟨rfl, fun p hp => ?_⟩, fun ne => ⟨_, rfl, k0 (fun z => ne (by rw [z]))⟩⟩⟩
      by_cases x : p = j
      · subst x; omega
      · exact q3 p (by omega)
end SAM

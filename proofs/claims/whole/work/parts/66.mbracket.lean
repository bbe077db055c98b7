/-! the bracket of the model -/
theorem bc_half : ∀ s, s < 256 → s ≠ 0 → rwBc s = s % 2 + rwBc (s / 2) := by decide +kernel
def kMB (V : km_V) (R : Rw) : Prop := ∀ j : Nat, j < 201 → V 327 j = rwBr R ((j : Int) - 100)
section MBR
variable {xs : Nat → Int32} {Lx d : Nat} {V : km_V} {a : Nat} {R : Rw}
theorem sp_bitsOf {s : Nat} {K : Int → km_V → Prop} (hs : s < 256) (k : K (rwBc s : Int) V) : kCI xs Lx (d + 0) 155 3 [kI (s : Int)] V K := by
  refine b155_0 ?_
  have go : ∀ (x : Nat), x < 256 → ∀ y : Int, y + (rwBc x : Int) = (rwBc s : Int) → kGo xs Lx (d + 0) 155 4 [none, some (kI y), some (kI (x : Int))] [] V (fun r V' => ∃ v : Int, r = some (kI v) ∧ K v V') := by
    intro x
    induction x using Nat.strongRecOn with
    | ind x ih =>
      intro hx y hy
      by_cases h : x = 0
      · subst h
        have e : (rwBc 0 : Int) = 0 := by decide
        rw [e] at hy
        refine b155_4 ⟨by omega, fun _ => ⟨_, rfl, ?_⟩, fun h => by omega⟩
        rw [show y = (rwBc s : Int) by omega]
        exact k
      · have e := bc_half x hx h
        refine b155_4 ⟨by omega, fun h => by omega, fun _ z hz => ?_⟩
        subst hz
        have := ih (x / 2) (by omega) (by omega) (y + (x : Int) % 2) (by omega)
        rw [show ((x / 2 : Nat) : Int) = (x : Int) / 2 by omega] at this
        exact this
  exact go s hs 0 (by omega)
theorem sp_timesLoop {K : km_V → Prop} (k : ∀ W, (∀ j, j < 201 → W 328 j = (if 2 ≤ j then - V 328 (j - 2) else 0) - (if j + 2 < 201 then V 328 (j + 2) else 0)) → (∀ b j, ¬ (b = 328 ∨ b = 329) → W b j = V b j) → K W) : kCV xs Lx (d + 0) 197 2 [.ref 299] V K := by
  refine b197_0 ?_
  refine kloop 201 (fun c W => (∀ j, j < c → W 329 j = (if 2 ≤ j then - V 328 (j - 2) else 0) - (if j + 2 < 201 then V 328 (j + 2) else 0)) ∧ (∀ b j, b ≠ 329 → W b j = V b j)) (fun c W => kGo xs Lx (d + 0) 197 2 [some (.ref 299), some (kI (c : Int))] [] W _) (fun W ⟨g1, g2⟩ => ?_) (fun c W hc ⟨g1, g2⟩ ih => ?_) 0 V (Nat.zero_le _) ⟨fun j hj => by omega, fun _ _ _ => rfl⟩
  · refine b197_2 ⟨by omega, fun _ => ?_, fun h => by omega⟩
    refine kloop 201 (fun c W2 => (∀ j, j < c → W2 328 j = W 329 j) ∧ (∀ b j, b ≠ 328 → W2 b j = W b j)) (fun c W2 => kGo xs Lx (d + 0) 197 63 [some (.ref 299), some (kI (c : Int))] [] W2 _) (fun W2 ⟨h1, h2⟩ => ?_) (fun c W2 hc ⟨h1, h2⟩ ih => ?_) 0 W (Nat.zero_le _) ⟨fun j hj => by omega, fun _ _ _ => rfl⟩
    · refine b197_63 ⟨by omega, fun _ => ⟨rfl, k W2 (fun j hj => by rw [h1 j hj, g1 j hj]) (fun b j hb => by rw [h2 b j (by omega), g2 b j (by omega)])⟩, fun h => by omega⟩
    · refine b197_63 ⟨by omega, fun h => by omega, fun _ => ⟨by omega, ih _ ⟨fun j hj => ?_, fun b j hb => by rw [up_ne (by omega)]; exact h2 b j hb⟩⟩⟩
      rw [tn]
      by_cases e : j = c
      · subst e; rw [up_at, h2 _ _ (by omega)]
      · rw [up_ne (by omega)]; exact h1 j (by omega)
  · have fin : ∀ v : Int, v = (if 2 ≤ c then - V 328 (c - 2) else 0) - (if c + 2 < 201 then V 328 (c + 2) else 0) → kGo xs Lx (d + 0) 197 2 [some (.ref 299), some (kI ((c : Int) + 1))] [] (up W 329 (Int.toNat (c : Int)) v) (fun r V' => r = none ∧ K V') := by
      intro v hv
      refine ih _ ⟨fun j hj => ?_, fun b j hb => by rw [up_ne (by omega)]; exact g2 b j hb⟩
      rw [tn]
      by_cases e : j = c
      · subst e; rw [up_at, hv]
      · rw [up_ne (by omega)]; exact g1 j (by omega)
    have n1 : Int.toNat ((c : Int) + 2) = c + 2 := by omega
    have n2 : Int.toNat ((c : Int) - 2) = c - 2 := by omega
    refine b197_2 ⟨by omega, fun h => by omega, fun _ => ⟨fun h => ⟨by omega, fun h2 => ⟨by omega, fin _ ?_⟩, fun h2 => ⟨by omega, by omega, fin _ ?_⟩⟩, fun h => ⟨by omega, by omega, fun h2 => ⟨by omega, fin _ ?_⟩, fun h2 => ⟨by omega, by omega, fin _ ?_⟩⟩⟩⟩
    · rw [if_neg (by omega), if_neg (by omega)]; rfl
    · rw [if_neg (by omega), if_pos (by omega), n1, g2 _ _ (by omega)]; rfl
    · rw [if_pos (by omega), if_neg (by omega), n2, g2 _ _ (by omega)]
    · rw [if_pos (by omega), if_pos (by omega), n1, n2, g2 _ _ (by omega), g2 _ _ (by omega)]
theorem kME_mb {W V : km_V} (hE : kME V R) (h : ∀ b j, ¬ (322 ≤ b) → W b j = V b j) : kME W R := hE.fr (h _ _ (by omega)) (fun b j hb => h b j (by omega))
theorem sp_laysBracket {K : km_V → Prop} (ha : km_sh[a]? = some (11, 78)) (ha2 : ¬ (313 ≤ a ∧ a ≤ 318) ∧ a ≠ 322 ∧ ¬ (327 ≤ a ∧ a ≤ 329)) (hR : kRf (V a) R) (ok : rwOk R) (k : ∀ W, kMB W R → (∀ b j, ¬ (b = 299 ∧ j = 25 ∨ 313 ≤ b ∧ b ≤ 318 ∨ b = 322 ∨ 327 ≤ b ∧ b ≤ 329) → W b j = V b j) → K W) : kCV xs Lx (d + 2) 196 5 [.ref 299, .ref a] V K := by
  have o1 := ok.1
  have o2 := ok.2.1
  have pw := pow_256 o2
  have p1 : 1 ≤ 2 ^ rwn R := Nat.one_le_two_pow
  have a9 : a ≠ 299 := fun z => by subst z; exact absurd ha (by decide)
  obtain ⟨h1, h2, -, -, -⟩ := id hR
  refine b196_0 ha ?_
  refine kloop 201 (fun c W => (∀ j, j < c → W 327 j = 0) ∧ (∀ b j, b ≠ 327 → W b j = V b j)) (fun c W => kGo xs Lx (d + 2) 196 2 [some (.ref 299), some (.ref a), some (kI (c : Int)), none, none] [] W _) (fun W ⟨g1, g2⟩ => ?_) (fun c W hc ⟨g1, g2⟩ ih => ?_) 0 V (Nat.zero_le _) ⟨fun j hj => by omega, fun _ _ _ => rfl⟩
  · have e0 : W a (Int.toNat 0) = (R.1.length : Int) := (g2 _ _ (by omega)).trans h1
    refine b196_2 ha ⟨by omega, fun _ => ?_, fun h => by omega⟩
    rw [e0]
    refine ⟨by omega, fun hne => ?_, fun he => ⟨rfl, k W (fun j hj => ?_) (fun b j hb => g2 b j (by omega))⟩⟩
    · have hne : 0 < R.1.length := by omega
      have eqf : ∀ j, W a j = V a j := fun j => g2 a j (by omega)
      have hRW : kRf (W a) R := hR.fr ok (fun j _ => eqf j)
      refine sp_laysEdges ha ha2.1 hRW ok (fun W1 hE f1 => ?_)
      have key := kloop (2 ^ rwn R) (fun m W2 => kME W2 R ∧ (∀ j : Nat, j < 201 → W2 327 j = rsum (fun s => po (rwLoops R s - 1) ((j : Int) - 100 - ((rwn R : Int) - 2 * (rwBc s : Int)))) m) ∧ (∀ b j, ¬ (b = 322 ∨ 327 ≤ b ∧ b ≤ 329) → W2 b j = W1 b j)) (fun m W2 => kGo xs Lx (d + 2) 196 36 [some (.ref 299), some (.ref a), some (kI (m : Int)), none, none] [] W2 (fun r V' => r = none ∧ K V')) (fun W2 ⟨q1, q2, q3⟩ => ?_) (fun m W2 hm ⟨q1, q2, q3⟩ ih => ?_) 0 W1 (Nat.zero_le _) ⟨hE, fun j hj => by rw [f1 _ _ (by omega), g1 j hj]; rfl, fun _ _ _ => rfl⟩
      · exact key
      · have e1 : W2 a (Int.toNat 1) = (rwn R : Int) := by rw [q3 _ _ (by omega), f1 _ _ (by omega)]; exact (g2 _ _ (by omega)).trans h2
        refine b196_36 ha ?_
        rw [e1]
        simp only [tn]
        rw [Int.one_mul]
        refine ⟨by omega, by omega, by omega, fun _ => ⟨True.intro, k W2 (fun j hj => ?_) (fun b j hb => ?_)⟩, fun h => by omega⟩
        · rw [q2 j hj]; unfold rwBr; rw [if_neg (by omega)]
        · rw [q3 b j (by omega), f1 b j (by omega), g2 b j (by omega)]
      · have e1 : W2 a (Int.toNat 1) = (rwn R : Int) := by rw [q3 _ _ (by omega), f1 _ _ (by omega)]; exact (g2 _ _ (by omega)).trans h2
        have b1 := bc_le (rwn R) (by omega) m (by omega) hm
        have b2 := rwLoops_b ok hne m
        refine b196_36 ha ?_
        rw [e1]
        simp only [tn]
        rw [Int.one_mul]
        refine ⟨by omega, by omega, by omega, fun h => by omega, fun _ => ?_⟩
        refine kloop 201 (fun c W3 => (∀ j, j < c → W3 328 j = 0) ∧ (∀ b j, b ≠ 328 → W3 b j = W2 b j)) (fun c W3 => kGo xs Lx (d + 2) 196 47 [some (.ref 299), some (.ref a), some (kI (m : Int)), some (kI (c : Int)), none] [] W3 _) (fun W3 ⟨r1, r2⟩ => ?_) (fun c W3 hc ⟨r1, r2⟩ ih => ?_) 0 W2 (Nat.zero_le _) ⟨fun j hj => by omega, fun _ _ _ => rfl⟩
        · refine b196_47 ha ⟨by omega, fun _ => sp_bitsOf (by omega) ?_, fun h => by omega⟩
          have e2 : W3 a (Int.toNat 1) = (rwn R : Int) := (r2 _ _ (by omega)).trans e1
          rw [e2]
          have nc : Int.toNat (100 + (rwn R : Int) - 2 * (rwBc m : Int)) = 100 + rwn R - 2 * rwBc m := by omega
          rw [nc]
          generalize hC : 100 + rwn R - 2 * rwBc m = C
          have hRW3 : kRf ((up W3 328 C 1) a) R := hRW.fr ok (fun j _ => by rw [up_ne (by omega), r2 _ _ (by omega), q3 _ _ (by omega), f1 _ _ (by omega)])
          have hE3 : kME (up W3 328 C 1) R := q1.fr (by rw [up_ne (by omega)]; exact r2 _ _ (by omega)) (fun b j hb => by rw [up_ne (by omega)]; exact r2 _ _ (by omega))
          refine ⟨by omega, sp_mloopsOf ha ⟨ha2.1, ha2.2.1⟩ hRW3 ok hE3 (by omega) (fun W4 f4 => ?_)⟩
          generalize hL : rwLoops R m = L at *
          have st : ∀ j : Nat, j < 201 → W4 328 j = po 0 ((j : Int) - (C : Int)) := by
            intro j hj
            rw [f4 _ _ (by omega)]
            unfold po
            by_cases e : j = C
            · subst e; rw [up_at, if_pos (by omega)]
            · rw [up_ne (by omega), r1 j hj, if_neg (by omega)]
          have key2 := kloop L (fun c W5 => 1 ≤ c ∧ (∀ j : Nat, j < 201 → W5 328 j = po (c - 1) ((j : Int) - (C : Int))) ∧ (∀ b j, ¬ (b = 328 ∨ b = 329) → W5 b j = W4 b j)) (fun c W5 => kGo xs Lx (d + 2) 196 96 [some (.ref 299), some (.ref a), some (kI (m : Int)), some (kI (L : Int)), some (kI (c : Int))] [] W5 (fun r V' => r = none ∧ K V')) (fun W5 ⟨_, s1, s2⟩ => ?_) (fun c W5 hc ⟨hc1, s1, s2⟩ ih2 => ?_) 1 W4 (by omega) ⟨Nat.le_refl _, st, fun _ _ _ => rfl⟩
          · exact key2
          · refine b196_96 ha ⟨by omega, by omega, fun _ => ?_, fun h => by omega⟩
            have w27 : ∀ j, j < 201 → W5 327 j = rsum (fun s => po (rwLoops R s - 1) ((j : Int) - 100 - ((rwn R : Int) - 2 * (rwBc s : Int)))) m := by
              intro j hj
              rw [s2 _ _ (by omega), f4 _ _ (by omega), up_ne (by omega), r2 _ _ (by omega), q2 j hj]
            refine kloop 201 (fun c W6 => (∀ j : Nat, j < 201 → W6 327 j = rsum (fun s => po (rwLoops R s - 1) ((j : Int) - 100 - ((rwn R : Int) - 2 * (rwBc s : Int)))) (if j < c then m + 1 else m)) ∧ (∀ b j, b ≠ 327 → W6 b j = W5 b j)) (fun c W6 => kGo xs Lx (d + 2) 196 115 [some (.ref 299), some (.ref a), some (kI (m : Int)), none, some (kI (c : Int))] [] W6 _) (fun W6 ⟨t1, t2⟩ => ?_) (fun c W6 hc ⟨t1, t2⟩ ih3 => ?_) 0 W5 (Nat.zero_le _) ⟨fun j hj => by rw [w27 j hj, if_neg (by omega)], fun _ _ _ => rfl⟩
            · refine b196_115 ha ⟨by omega, fun _ => ih W6 ⟨?_, fun j hj => by rw [t1 j hj, if_pos hj], fun b j hb => ?_⟩, fun h => by omega⟩
              · exact hE3.fr (by rw [t2 _ _ (by omega), s2 _ _ (by omega), f4 _ _ (by omega)]) (fun b j hb => by rw [t2 _ _ (by omega), s2 _ _ (by omega), f4 _ _ (by omega)])
              · rw [t2 _ _ (by omega), s2 _ _ (by omega), f4 _ _ (by omega), up_ne (by omega), r2 _ _ (by omega)]; exact q3 b j hb
            · refine b196_115 ha ⟨by omega, fun h => by omega, fun _ => ⟨by omega, ih3 _ ⟨fun j hj => ?_, fun b j hb => by rw [up_ne (by omega)]; exact t2 b j hb⟩⟩⟩
              rw [tn]
              by_cases e : j = c
              · subst e
                rw [up_at, if_pos (by omega), t1 j hj, if_neg (by omega), t2 _ _ (by omega), s1 j hj, rsum_succ, hL]
                congr 2
                omega
              · rw [up_ne (by omega), t1 j hj]
                by_cases e2 : j < c
                · rw [if_pos e2, if_pos (by omega)]
                · rw [if_neg e2, if_neg (by omega)]
          · refine b196_96 ha ⟨by omega, by omega, fun h => by omega, fun _ => sp_timesLoop (fun W6 u1 u2 => ih2 W6 ⟨by omega, fun j hj => ?_, fun b j hb => by rw [u2 b j hb]; exact s2 b j hb⟩)⟩
            rw [u1 j hj, show c + 1 - 1 = (c - 1) + 1 by omega]
            show _ = - po (c - 1) ((j : Int) - (C : Int) - 2) - po (c - 1) ((j : Int) - (C : Int) + 2)
            congr 1
            · by_cases e : 2 ≤ j
              · rw [if_pos e, s1 _ (by omega)]; congr 2; omega
              · rw [if_neg e, po_supp (c - 1) _ (by omega)]; rfl
            · by_cases e : j + 2 < 201
              · rw [if_pos e, s1 _ (by omega)]; congr 1; omega
              · rw [if_neg e, po_supp (c - 1) _ (by omega)]
        · refine b196_47 ha ⟨by omega, fun h => by omega, fun _ => ⟨by omega, ih _ ⟨fun j hj => ?_, fun b j hb => by rw [up_ne (by omega)]; exact r2 b j hb⟩⟩⟩
          rw [tn]
          by_cases e : j = c
          · subst e; rw [up_at]
          · rw [up_ne (by omega)]; exact r1 j (by omega)
    · rw [g1 j hj]; unfold rwBr; rw [if_pos (by omega)]
  · refine b196_2 ha ⟨by omega, fun h => by omega, fun _ => ⟨by omega, ih _ ⟨fun j hj => ?_, fun b j hb => by rw [up_ne (by omega)]; exact g2 b j hb⟩⟩⟩
    rw [tn]
    by_cases e : j = c
    · subst e; rw [up_at]
    · rw [up_ne (by omega)]; exact g1 j (by omega)
theorem sp_mwrithe {K : Int → km_V → Prop} (ha : km_sh[a]? = some (11, 78)) (hR : kRf (V a) R) (ok : rwOk R) (k : K (rwWr R) V) : kCI xs Lx (d + 0) 198 3 [.ref a] V K := by
  obtain ⟨h1, h2, h3, h4, h5⟩ := id hR
  have o2 := ok.2.1
  refine b198_0 ha ?_
  refine kloop0 (rwn R) (fun c => kGo xs Lx (d + 0) 198 4 [some (.ref a), some (kI (R.2.take c).sum), some (kI (c : Int))] [] V _) ?_ (fun c hc ih => ?_) 0 (Nat.zero_le _)
  · refine b198_4 ha ?_
    rw [show Int.toNat 1 = 1 from rfl, h2]
    refine ⟨by omega, by omega, fun _ => ⟨_, rfl, ?_⟩, fun h => by omega⟩
    unfold rwn
    rw [List.take_length]
    exact k
  · have n1 : Int.toNat (70 + (c : Int)) = 70 + c := by omega
    refine b198_4 ha ?_
    rw [n1, show Int.toNat 1 = 1 from rfl, h2, h5 c hc]
    refine ⟨by omega, by omega, fun h => by omega, fun _ => ⟨by omega, fun z hz => ?_⟩⟩
    subst hz
    rw [take_gd 0 (by exact hc), List.sum_append] at ih
    simpa using ih
theorem sp_mknottedAt {x : Int} {K : Int → km_V → Prop} (ha : km_sh[a]? = some (11, 78)) (hR : kRf (V a) R) (ok : rwOk R) (hB : kMB V R) (hx : kR x) (k : K (rwKn R x) V) : kCI xs Lx (d + 1) 199 6 [.ref 299, .ref a, kI x] V K := by
  have w := rwWr_b ok
  have t2 := tmod2 (rwWr R)
  refine b199_0 ha (sp_mwrithe ha hR ok (fun z hz => ?_))
  have zero : rwKn R x = 0 → (kR (rwWr R)) ∧ (kR (Int.tmod (rwWr R) 2)) ∧ (((Int.tmod (rwWr R) 2) ≠ 0 → ∃ v : Int, some (kI (-0)) = some (kI v) ∧ K v V) ∧ ((Int.tmod (rwWr R) 2) = 0 → ∃ v : Int, some (kI 0) = some (kI v) ∧ K v V)) := by
    intro e
    rw [e] at k
    exact ⟨by omega, by omega, fun _ => ⟨_, rfl, k⟩, fun _ => ⟨_, rfl, k⟩⟩
  simp only [kin_eq]
  refine ⟨hx, by split <;> omega, fun h => ?_, fun h => ?_⟩
  · by_cases c : -99 ≤ x ∧ x ≤ 99
    · rw [if_pos c] at h; omega
    · exact zero (rwKn_supp ok (by omega))
  · have c : -99 ≤ x ∧ x ≤ 99 := by
      by_cases c : -99 ≤ x ∧ x ≤ 99
      · exact c
      · rw [if_neg c] at h; omega
    refine ⟨by omega, by split <;> omega, fun h2 => ?_, fun h2 => ?_⟩
    · by_cases c2 : 0 ≤ z ∧ z ≤ 200
      · rw [if_pos c2] at h2; omega
      · refine zero (rwKn_supp ok (by omega))
    · have c2 : 0 ≤ z ∧ z ≤ 200 := by
        by_cases c : 0 ≤ z ∧ z ≤ 200
        · exact c
        · rw [if_neg c] at h2; omega
      refine ⟨by omega, fun z3 hz3 => ?_⟩
      have e := hB (Int.toNat z) (by omega)
      rw [show ((Int.toNat z : Nat) : Int) - 100 = x + 3 * rwWr R by omega] at e
      rw [e] at hz3
      subst hz3
      unfold rwKn at k
      refine ⟨by omega, by omega, fun h3 => ?_, fun h3 => ?_⟩
      · rw [if_neg (fun z => h3 (t2.1.mpr z))] at k; exact ⟨_, rfl, k⟩
      · rw [if_pos (t2.1.mp h3)] at k; exact ⟨_, rfl, k⟩
end MBR

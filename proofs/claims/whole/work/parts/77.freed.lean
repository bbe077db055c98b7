/-! the fewest crossings by which all comes loose -/
theorem mod_bit (x c i : Nat) : x % 2 ^ c / 2 ^ i % 2 = if i < c then x / 2 ^ i % 2 else 0 := by
  have h := Nat.testBit_mod_two_pow x c i
  rw [Nat.testBit_eq_decide_div_mod_eq, Nat.testBit_eq_decide_div_mod_eq] at h
  by_cases e : i < c
  · rw [if_pos e]
    simp [e] at h
    omega
  · rw [if_neg e]
    simp [e] at h
    exact h
theorem rwTurn_mod1 {x c : Nat} (h : x / 2 ^ c % 2 = 1) (R : Rw) : rwTurn (2 ^ c) (rwTurn (x % 2 ^ c) R) = rwTurn (x % 2 ^ (c + 1)) R := by
  refine rwTurn_comp (fun i => ?_) R
  rw [bit_pow, mod_bit, mod_bit]
  by_cases e : i = c
  · subst e; rw [if_pos rfl, if_neg (by omega), if_pos (by omega), h]
  · by_cases e2 : i < c
    · rw [if_neg e, if_pos e2, if_pos (by omega)]; omega
    · rw [if_neg e, if_neg e2, if_neg (by omega)]
theorem rwTurn_mod0 {x c : Nat} (h : x / 2 ^ c % 2 ≠ 1) (R : Rw) : rwTurn (x % 2 ^ c) R = rwTurn (x % 2 ^ (c + 1)) R := by
  have e : x % 2 ^ (c + 1) = x % 2 ^ c := by
    rw [Nat.pow_succ, Nat.mod_mul]
    have : x / 2 ^ c % 2 = 0 := by omega
    rw [this, Nat.mul_zero, Nat.add_zero]
  rw [e]
section FRD
variable {xs : Nat → Int32} {Lx d : Nat} {V : km_V} {R S : Rw} {hs : Hs} {ps : List Rw}
theorem sp_comesLoose {b : Nat} {K : Int → km_V → Prop} (hb : b < 256) (hR : kRC V 13 R) (ok : rwOk R) (k1 : rwLse R b → ∀ W, (∀ a j, ¬ (209 ≤ a ∧ a ≤ 223) → W a j = V a j) → K 1 W) (k0 : ¬ rwLse R b → ∀ W, (∀ a j, ¬ (209 ≤ a ∧ a ≤ 223) → W a j = V a j) → K 0 W) : kCI xs Lx (d + 4) 123 2 [.ref 0, kI (b : Int)] V K := by
  refine b123_0 (sp_copy (d := d + 3) (by decide) (by decide) hR ok (fun W1 q1 f1 => ?_))
  refine sp_turnOver (by decide) q1 ok hb (fun W2 q2 f2 => ?_)
  have okT := rwTurn_ok (b := b) ok
  have oks := (rwShed_ok 8 _ okT).1
  have o2 := oks.2.1
  refine sp_shed (by decide) (by decide) (by omega) q2 okT (fun W3 q3 f3 => ?_)
  have fr : ∀ a j, ¬ (209 ≤ a ∧ a ≤ 223) → W3 a j = V a j := fun a j ha => by rw [f3 _ _ (by omega), f2 _ _ (by omega), f1 _ _ (by omega)]
  have e : W3 209 1 = (rwn (rwShed 8 (rwTurn b R)) : Int) := q3.2.1
  rw [e]
  unfold rwLse at k1 k0
  exact ⟨by omega, fun h => ⟨_, rfl, k0 (by omega) W3 fr⟩, fun h => ⟨_, rfl, k1 (by omega) W3 fr⟩⟩
theorem sp_fewest {K : Int → km_V → Prop} (hR : kRC V 13 R) (ok : rwOk R) (k : ∀ v, rwFreeP R v → ∀ W, (∀ a j, ¬ (209 ≤ a ∧ a ≤ 223) → W a j = V a j) → K v W) : kCI xs Lx (d + 5) 122 3 [.ref 0] V K := by
  have o2 := ok.2.1
  have pw := pow_256 o2
  have p1 : 1 ≤ 2 ^ rwn R := Nat.one_le_two_pow
  refine b122_0 ?_
  refine kloop (rwn R + 1) (fun z W => (∀ c, c < 2 ^ rwn R → rwBc c < z → ¬ rwLse R c) ∧ (∀ a j, ¬ (209 ≤ a ∧ a ≤ 223) → W a j = V a j)) (fun z W => kGo xs Lx (d + 5) 122 2 [some (.ref 0), some (kI (z : Int)), none] [] W _) (fun W ⟨q1, q2⟩ => ?_) (fun z W hz ⟨q1, q2⟩ ih => ?_) 0 V (Nat.zero_le _) ⟨fun c _ h => by omega, fun _ _ _ => rfl⟩
  · have e : W 13 1 = (rwn R : Int) := (q2 _ _ (by omega)).trans hR.2.1
    refine b122_2 ?_
    rw [e]
    refine ⟨by omega, by omega, fun _ => ⟨_, rfl, k _ (Or.inl ⟨rfl, fun b hb => q1 b hb ?_⟩) W q2⟩, fun h => by omega⟩
    have := bc_le (rwn R) (by omega) b (by omega) hb
    omega
  · have e : W 13 1 = (rwn R : Int) := (q2 _ _ (by omega)).trans hR.2.1
    refine b122_2 ?_
    rw [e]
    refine ⟨by omega, by omega, fun h => by omega, fun _ => ?_⟩
    refine kloop (2 ^ rwn R) (fun b X => (∀ c, c < 2 ^ rwn R → (rwBc c < z ∨ rwBc c = z ∧ c < b) → ¬ rwLse R c) ∧ (∀ a j, ¬ (209 ≤ a ∧ a ≤ 223) → X a j = V a j)) (fun b X => kGo xs Lx (d + 5) 122 15 [some (.ref 0), some (kI (z : Int)), some (kI (b : Int))] [] X _) (fun X ⟨r1, r2⟩ => ?_) (fun b X hb ⟨r1, r2⟩ ih2 => ?_) 0 W (Nat.zero_le _) ⟨fun c hc h => q1 c hc (by omega), q2⟩
    · have e : X 13 1 = (rwn R : Int) := (r2 _ _ (by omega)).trans hR.2.1
      refine b122_15 ?_
      rw [e, tn, Int.one_mul]
      exact ⟨by omega, by omega, by omega, fun _ => ih X ⟨fun c hc h => r1 c hc (by omega), r2⟩, fun h => by omega⟩
    · have e : X 13 1 = (rwn R : Int) := (r2 _ _ (by omega)).trans hR.2.1
      have bl := bc_le (rwn R) (by omega) b (by omega) hb
      refine b122_15 ?_
      rw [e, tn, Int.one_mul, kbit_nat]
      refine ⟨by omega, by omega, by omega, fun h => by omega, fun _ => ⟨by omega, by omega, by omega, fun ne => ih2 X ⟨fun c hc h => r1 c hc ?_, r2⟩, fun eq => ?_⟩⟩
      · by_cases w : c = b
        · subst w; omega
        · omega
      · refine sp_comesLoose (by omega) (hR.fr (fun a j ha => r2 _ _ (by omega))) ok (fun l X2 f2 => ⟨by omega, fun h => absurd h (by omega), fun _ => ⟨_, rfl, ?_⟩⟩) (fun l X2 f2 => ⟨by omega, fun _ => ih2 X2 ⟨fun c hc h => ?_, fun a j ha => by rw [f2 a j ha]; exact r2 a j ha⟩, fun h => absurd rfl h⟩)
        · refine k _ (Or.inr ⟨b, hb, rfl, l, fun c hc lc => ?_⟩) X2 (fun a j ha => by rw [f2 a j ha]; exact r2 a j ha)
          by_cases w : rwBc b < rwBc c ∨ rwBc b = rwBc c ∧ b ≤ c
          · exact w
          · exact absurd lc (r1 c hc (by omega))
        · by_cases w : c = b
          · subst w; exact l
          · exact r1 c hc (by omega)
/-- what the model has found among the first x -/
def frI (R : Rw) (x : Nat) (y : Int) (v : Int) : Prop := (y = -1 ∧ ∀ b, b < x → ¬ rwLse R b) ∨ ∃ b : Nat, b < x ∧ y = (rwBc b : Int) ∧ v = (b : Int) ∧ rwLse R b ∧ ∀ c, c < x → rwLse R c → rwBc b < rwBc c ∨ rwBc b = rwBc c ∧ b ≤ c
theorem frI.next0 {x : Nat} {y v : Int} (h : frI R x y v) (l : ¬ rwLse R x) : frI R (x + 1) y v := by
  rcases h with ⟨e, h⟩ | ⟨b, hb, e1, e2, lb, h⟩
  · exact Or.inl ⟨e, fun b hb => by
      by_cases z : b = x
      · subst z; exact l
      · exact h b (by omega)⟩
  · exact Or.inr ⟨b, by omega, e1, e2, lb, fun c hc lc => by
      by_cases z : c = x
      · subst z; exact absurd lc l
      · exact h c (by omega) lc⟩
theorem frI.skip {x : Nat} {y v : Int} (h : frI R x y v) (y0 : 0 ≤ y) (l : y ≤ (rwBc x : Int)) : frI R (x + 1) y v := by
  rcases h with ⟨e, h⟩ | ⟨b, hb, e1, e2, lb, h⟩
  · omega
  · exact Or.inr ⟨b, by omega, e1, e2, lb, fun c hc lc => by
      by_cases z : c = x
      · subst z; omega
      · exact h c (by omega) lc⟩
theorem frI.take {x : Nat} {y v : Int} (h : frI R x y v) (l : rwLse R x) (hy : y < 0 ∨ (rwBc x : Int) < y) : frI R (x + 1) (rwBc x : Int) (x : Int) := by
  refine Or.inr ⟨x, by omega, rfl, rfl, l, fun c hc lc => ?_⟩
  by_cases z : c = x
  · subst z; omega
  · rcases h with ⟨e, h⟩ | ⟨b, hb, e1, e2, lb, h⟩
    · exact absurd lc (h c (by omega))
    · have := h c (by omega) lc
      omega
theorem sp_mfewest {K : Int → km_V → Prop} (hM : kM V R ps hs) (ok : kOk R ps hs) (k : ∀ W, kM W R ps hs → mFr V W → ∀ y, frI R (2 ^ rwn R) y (W 299 49) → K y W) : kCI xs Lx (d + 5) 210 4 [.ref 299] V K := by
  have o2 := ok.1.2.1
  have pw := pow_256 o2
  have p1 : 1 ≤ 2 ^ rwn R := Nat.one_le_two_pow
  refine b210_0 ?_
  have key := kloop (2 ^ rwn R) (fun x W => kM W R ps hs ∧ mFr V W) (fun x W => ∀ y, frI R x y (W 299 49) → kGo xs Lx (d + 5) 210 4 [some (.ref 299), some (kI y), some (kI (x : Int)), none] [] W (fun r V' => ∃ v : Int, r = some (kI v) ∧ K v V')) (fun W ⟨q1, q2⟩ y hy => ?_) (fun x W hx ⟨q1, q2⟩ ih y hy => ?_) 0 V (Nat.zero_le _) ⟨hM, fun _ _ _ => rfl⟩ (-1) (Or.inl ⟨rfl, fun b hb => by omega⟩)
  · exact key
  · have e : W 307 (Int.toNat 1) = (rwn R : Int) := q1.1.2.1
    refine b210_4 ?_
    rw [e, tn, Int.one_mul]
    exact ⟨by omega, by omega, by omega, fun _ => ⟨_, rfl, k W q1 q2 y hy⟩, fun h => by omega⟩
  · have e : W 307 (Int.toNat 1) = (rwn R : Int) := q1.1.2.1
    have bl := bc_le (rwn R) (by omega) x (by omega) hx
    have yb : -1 ≤ y ∧ y ≤ 8 := by
      rcases hy with ⟨e, -⟩ | ⟨b, hb, e, -⟩
      · omega
      · have := bc_le (rwn R) (by omega) b (by omega) (by omega)
        omega
    refine b210_4 ?_
    rw [e, tn, Int.one_mul]
    have go : (y < 0 ∨ (rwBc x : Int) < y) → kCV xs Lx (d + 4) 156 3 [.ref 307, .ref 326] W (fun W1 => kGo xs Lx (d + 5) 210 44 [some (.ref 299), some (kI y), some (kI (x : Int)), some (kI 0)] [] W1 (fun r V' => ∃ v : Int, r = some (kI v) ∧ K v V')) := by
      intro hyb
      refine sp_copies (d := d + 4) (by decide) (by decide) (by decide) (fun W1 c1 f1 => ?_)
      refine kloop (rwn R) (fun c X => kRf (X 326) (rwTurn (x % 2 ^ c) R) ∧ (∀ b j, b ≠ 326 → X b j = W b j)) (fun c X => kGo xs Lx (d + 5) 210 44 [some (.ref 299), some (kI y), some (kI (x : Int)), some (kI (c : Int))] [] X _) (fun X ⟨r1, r2⟩ => ?_) (fun c X hc ⟨r1, r2⟩ ih2 => ?_) 0 W1 (Nat.zero_le _) ⟨by rw [show x % 2 ^ 0 = 0 from Nat.mod_one x, rwTurn_0]; exact q1.1.fr ok.1 (fun j hj => c1 j hj), f1⟩
      · have e : X 307 (Int.toNat 1) = (rwn R : Int) := (r2 _ _ (by omega)).trans e
        rw [Nat.mod_eq_of_lt hx] at r1
        have okT := rwTurn_ok (b := x) ok.1
        have oks := (rwShed_ok 8 _ okT).1
        have oo := oks.2.1
        refine b210_44 ?_
        rw [e]
        refine ⟨by omega, by omega, fun _ => ?_, fun h => by omega⟩
        refine sp_loosens (by decide) (by omega) r1 okT (fun Y s1 s2 => ?_)
        have e2 : Y 326 (Int.toNat 1) = (rwn (rwShed 8 (rwTurn x R)) : Int) := s1.2.1
        have hMY : kM Y R ps hs := q1.fr ok.1 (fun b j hb => by rw [s2 _ _ (by omega), r2 _ _ (by omega)])
        have frY : mFr V Y := fun b j hb => by rw [s2 _ _ (by omega), r2 _ _ (by omega)]; exact q2 b j hb
        have e3 : Y 299 49 = W 299 49 := by rw [s2 _ _ (by omega), r2 _ _ (by omega)]
        rw [e2]
        refine ⟨by omega, fun h => ?_, fun h => ?_⟩
        · refine sp_bitsOf (d := d + 4) (by omega) (ih (up Y 299 49 (x : Int)) ⟨?_, ?_⟩ _ ?_)
          · exact hMY.fr ok.1 (fun b j hb => up_ne (by omega))
          · exact fun b j hb => by rw [up_ne (by omega)]; exact frY b j hb
          · rw [up_at]; exact hy.take (show rwn _ = 0 by omega) hyb
        · exact ih Y ⟨hMY, frY⟩ y (by rw [e3]; exact hy.next0 (fun l => by unfold rwLse at l; omega))
      · have e : X 307 (Int.toNat 1) = (rwn R : Int) := (r2 _ _ (by omega)).trans e
        refine b210_44 ?_
        rw [e, khas_eq]
        refine ⟨by omega, by omega, fun h => by omega, fun _ => ⟨⟨by omega, by omega⟩, by split <;> omega, fun h => ?_, fun h => ?_⟩⟩
        · have nb : x / 2 ^ c % 2 ≠ 1 := fun z => by rw [if_pos z] at h; omega
          exact ih2 X ⟨by rw [← rwTurn_mod0 nb]; exact r1, r2⟩
        · have yb : x / 2 ^ c % 2 = 1 := by
            by_cases z : x / 2 ^ c % 2 = 1
            · exact z
            · rw [if_neg z] at h; omega
          refine sp_switchesAt (d := d + 4) (by decide) r1 (rwTurn_ok ok.1) (by rw [rwTurn_n]; exact hc) (fun Y s1 s2 => ih2 Y ⟨?_, fun b j hb => by rw [s2 b j hb]; exact r2 b j hb⟩)
          rw [rwTurn_mod1 yb] at s1
          exact s1
    refine ⟨by omega, by omega, by omega, fun h => by omega, fun _ => ⟨by omega, fun h => go (Or.inl h), fun h => ?_⟩⟩
    refine sp_bitsOf (d := d + 4) (by omega) ⟨by omega, fun h2 => go (Or.inr h2), fun h2 => ih W ⟨q1, q2⟩ y (hy.skip h h2)⟩
def qFreed (a v : Int) : Int := if a = 0 then (if v < 0 then v else kbit v) else v
theorem sp_cfreed {a : Int} {K : Int → km_V → Prop} (ha : kR a) (hC : kC V R ps hs) (ok : kOk R ps hs) (k1 : (a = 0 ∨ a = 1) → ∀ v, rwFreeP R v → ∀ W, kC W R ps hs → cFr V W → K (qFreed a v) W) (k0 : ¬ (a = 0 ∨ a = 1) → K (-1) V) : kCI xs Lx (d + 6) 111 2 [.ref 0, kI a] V K := by
  obtain ⟨h1, h2, h3, h4, h5, h6, h7⟩ := id hC
  have o2 := ok.1.2.1
  have pw := pow_256 o2
  have fb : ∀ v, rwFreeP R v → -2 ≤ v ∧ v < 256 := by
    intro v hv
    rcases hv with ⟨e, -⟩ | ⟨b, hb, e, -⟩
    · omega
    · omega
  have fresh : ∀ v, rwFreeP R v → ∀ W, (∀ a j, ¬ (209 ≤ a ∧ a ≤ 223) → W a j = V a j) → kC (up (up W 0 15 v) 0 14 1) R ps hs ∧ cFr V (up (up W 0 15 v) 0 14 1) := by
    intro v hv W f
    refine ⟨⟨h1.fr (fun b j hb => by rw [up_ne (by omega), up_ne (by omega), f _ _ (by omega)]), h2.fr (fun b j hb => by rw [up_ne (by omega), up_ne (by omega), f _ _ (by omega)]), h3.fr (by rw [up_ne (by omega), up_ne (by omega), f _ _ (by omega)]) (fun j => by rw [up_ne (by omega), up_ne (by omega), f _ _ (by omega)]), h4.fr (fun b j hb => by rw [up_ne (by omega), up_ne (by omega), f _ _ (by omega)]), h5.fr (fun b j hb => by rw [up_ne (by omega), up_ne (by omega), f _ _ (by omega)]), ?_, Or.inr ⟨up_at _ _ _ _, by rw [up_ne (by omega), up_at]; exact hv⟩⟩, fun b j hb => by rw [up_ne (by omega), up_ne (by omega), f _ _ (by omega)]⟩
    rw [up_ne (by omega), up_ne (by omega), f _ _ (by omega)]
    rcases h6 with h | h
    · exact Or.inl h
    · exact Or.inr ⟨h.1, h.2.fr (by rw [up_ne (by omega), up_ne (by omega), f _ _ (by omega)]) (fun j => by rw [up_ne (by omega), up_ne (by omega), f _ _ (by omega)])⟩
  have e15 : ∀ (W : km_V) (v : Int), up (up W 0 15 v) 0 14 1 0 15 = v := fun W v => by rw [up_ne (by omega), up_at]
  refine b111_0 ⟨ha, fun e => ?_, fun e => ⟨fun e1 => ?_, fun e1 => ⟨_, rfl, k0 (by omega)⟩⟩⟩
  · unfold qFreed at k1
    simp only [if_pos e] at k1
    refine ⟨by rcases h7 with h | h <;> omega, fun h => ?_, fun h => ?_⟩
    · have hv : rwFreeP R (V 0 15) := by
        rcases h7 with z | z
        · exact absurd z h
        · exact z.2
      have b := fb _ hv
      have y := k1 (Or.inl e) _ hv V hC (fun _ _ _ => rfl)
      exact ⟨by omega, fun h => ⟨_, rfl, by rw [if_pos h] at y; exact y⟩, fun h => ⟨by omega, _, rfl, by rw [if_neg (by omega)] at y; exact y⟩⟩
    · refine sp_fewest h1 ok.1 (fun v hv W f => ?_)
      obtain ⟨c1, c2⟩ := fresh v hv W f
      have b := fb _ hv
      have y := k1 (Or.inl e) v hv _ c1 c2
      rw [e15]
      exact ⟨by omega, fun h => ⟨_, rfl, by rw [if_pos h] at y; exact y⟩, fun h => ⟨by omega, _, rfl, by rw [if_neg (by omega)] at y; exact y⟩⟩
  · unfold qFreed at k1
    simp only [if_neg e] at k1
    refine ⟨by rcases h7 with h | h <;> omega, fun h => ?_, fun h => ?_⟩
    · have hv : rwFreeP R (V 0 15) := by
        rcases h7 with z | z
        · exact absurd z h
        · exact z.2
      exact ⟨_, rfl, k1 (Or.inr e1) _ hv V hC (fun _ _ _ => rfl)⟩
    · refine sp_fewest h1 ok.1 (fun v hv W f => ?_)
      obtain ⟨c1, c2⟩ := fresh v hv W f
      rw [e15]
      exact ⟨_, rfl, k1 (Or.inr e1) v hv _ c1 c2⟩
theorem sp_mfreed {a : Int} {K : Int → km_V → Prop} (ha : kR a) (hM : kM V R ps hs) (ok : kOk R ps hs) (k1 : (a = 0 ∨ a = 1) → ∀ v, rwFreeP R v → ∀ W, kM W R ps hs → mFr V W → K (qFreed a v) W) (k0 : ¬ (a = 0 ∨ a = 1) → K (-1) V) : kCI xs Lx (d + 6) 211 3 [.ref 299, kI a] V K := by
  have o2 := ok.1.2.1
  have pw := pow_256 o2
  refine b211_0 ?_
  simp only [kin_eq]
  refine ⟨ha, by split <;> omega, fun h => ?_, fun h => ⟨_, rfl, k0 (fun c => by rw [if_pos (by omega)] at h; omega)⟩⟩
  have c : a = 0 ∨ a = 1 := by
    by_cases c : 0 ≤ a ∧ a ≤ 1
    · omega
    · rw [if_neg c] at h; omega
  refine sp_mfewest hM ok (fun W q1 q2 y hy => ?_)
  rcases hy with ⟨e, hn⟩ | ⟨b, hb, e1, e2, lb, hm⟩
  · have y2 := k1 c (-2) (Or.inl ⟨rfl, hn⟩) W q1 q2
    have q : qFreed a (-2) = -2 := by
      unfold qFreed
      split
      · exact if_pos (by decide)
      · rfl
    rw [q] at y2
    exact ⟨by omega, fun h => by omega, fun h => ⟨_, rfl, y2⟩⟩
  · have bl := bc_le (rwn R) (by omega) b (by omega) hb
    have y2 := k1 c (b : Int) (Or.inr ⟨b, hb, rfl, lb, hm⟩) W q1 q2
    unfold qFreed at y2
    rw [if_neg (show ¬ ((b : Int) < 0) by omega), kbit_nat] at y2
    refine ⟨by omega, fun h => ⟨fun n0 => ⟨_, rfl, by rw [if_neg n0] at y2; rw [e2]; exact y2⟩, fun e0 => ⟨_, rfl, by rw [if_pos e0] at y2; rw [e1]; exact y2⟩⟩, fun h => by omega⟩
end FRD

/-! the methods that answer and change nothing -/
def kin (v lo hi : Int) : Int := if lo ≤ v ∧ v ≤ hi then 1 else 0
def khas (s k : Int) : Int := if (s / ((2 ^ Int.toNat k : Nat) : Int)) % 2 = 1 then 1 else 0
def kdig (c : Int) : Int := if 48 ≤ c ∧ c ≤ 57 then 1 else 0
def klet (c : Int) : Int := if 97 ≤ c ∧ c ≤ 122 then 1 else 0
def kblk (c : Int) : Int := if c = 9 ∨ c = 10 ∨ c = 13 ∨ c = 32 then 1 else 0
def kmax (x y : Int) : Int := if x < y then y else x
def kmin (x y : Int) : Int := if y < x then y else x
def kbit (x : Int) : Int := ((((List.range 8).map (fun i => x.toNat / 2 ^ i % 2)).sum : Nat) : Int)
def kis (V : km_V) (k : Int) : Int := if V 299 12 = 0 ∧ V 302 (Int.toNat (V 299 11)) = k then 1 else 0
def kisC (V : km_V) (k : Int) : Prop := kR (V 299 12) ∧ kR k ∧ (V 299 12 = 0 → (0 ≤ V 299 11 ∧ V 299 11 < (403 : Nat)) ∧ kR (V 302 (Int.toNat (V 299 11))))
def kein (V : km_V) (r : Nat) (k : Int) : Int := if V 313 (Int.toNat k) % 2 = 0 then 0 else if V r (Int.toNat (70 + V 313 (Int.toNat k) / 2)) = 1 then 3 else 1
def keinC (V : km_V) (r : Nat) (k : Int) : Prop := (0 ≤ k ∧ k < (16 : Nat)) ∧ (0 ≤ V 313 (Int.toNat k) ∧ V 313 (Int.toNat k) < 16) ∧ kR (V r (Int.toNat (70 + V 313 (Int.toNat k) / 2)))
def kcb (V : km_V) (w : Int) : Int := V 313 (Int.toNat (if w % 2 = 0 then V 315 (Int.toNat (w / 2)) else w / 2)) / 2
def kcbC (V : km_V) (w : Int) : Prop := (0 ≤ w ∧ w < 32) ∧ (0 ≤ V 315 (Int.toNat (w / 2)) ∧ V 315 (Int.toNat (w / 2)) < (16 : Nat)) ∧ (∀ i, i < 16 → 0 ≤ V 313 i ∧ V 313 i < 16)
def kov (V : km_V) (e : Int) : Int := V 313 (Int.toNat e) % 2 + V 313 (Int.toNat (V 315 (Int.toNat e))) % 2
def kovC (V : km_V) (e : Int) : Prop := (0 ≤ e ∧ e < (16 : Nat)) ∧ (0 ≤ V 315 (Int.toNat e) ∧ V 315 (Int.toNat e) < (16 : Nat)) ∧ (∀ i, i < 16 → 0 ≤ V 313 i ∧ V 313 i < 16)
def kmby (V : km_V) (i : Int) : Int := if i < V 299 4 then V 301 (Int.toNat i) % 256 else 0
def kmbyC (V : km_V) (i : Int) : Prop := (0 ≤ i ∧ kR i) ∧ (0 ≤ V 299 4 ∧ V 299 4 ≤ 2000)
def kcby (V : km_V) (i : Int) : Int := if 0 ≤ i ∧ i < V 1 0 then V 2 (Int.toNat i) % 256 else -1
def kcbyC (V : km_V) (i : Int) : Prop := kR i ∧ (0 ≤ V 1 0 ∧ V 1 0 ≤ 2000)
section PU
variable {xs : Nat → Int32} {Lx d : Nat} {V : km_V} {Q : Option Value → km_V → Prop}
theorem sp_in {v lo hi : Int} (c1 : kR v) (c2 : kR lo) (c3 : kR hi) (k : Q (some (kI (kin v lo hi))) V) : kGo xs Lx d 153 0 [some (kI v), some (kI lo), some (kI hi)] [] V Q := by
  unfold kin at k
  exact b153_0 ⟨c1, c2, ⟨fun h => by rwa [if_neg (by omega)] at k, fun h => ⟨c1, c3, ⟨fun h2 => by rwa [if_neg (by omega)] at k, fun h2 => by rwa [if_pos (by omega)] at k⟩⟩⟩⟩
theorem sp_has {s b : Int} (c : kR s ∧ (0 ≤ b ∧ b < 32)) (k : Q (some (kI (khas s b))) V) : kGo xs Lx d 154 0 [some (kI s), some (kI b)] [] V Q := by
  unfold khas at k
  refine b154_0 ⟨c.1, c.2, by omega, ⟨fun h => by rwa [if_neg h] at k, fun h => by rwa [if_pos h] at k⟩⟩
theorem sp_mdig {x : Int} (c : kR x) (k : Q (some (kI (kdig x))) V) : kGo xs Lx d 129 0 [some (kI x)] [] V Q := by
  unfold kdig at k
  exact b129_0 ⟨c, ⟨fun h => by rwa [if_neg (by omega)] at k, fun h => ⟨c, ⟨fun h2 => by rwa [if_neg (by omega)] at k, fun h2 => by rwa [if_pos (by omega)] at k⟩⟩⟩⟩
theorem sp_mlet {x : Int} (c : kR x) (k : Q (some (kI (klet x))) V) : kGo xs Lx d 130 0 [some (kI x)] [] V Q := by
  unfold klet at k
  exact b130_0 ⟨c, ⟨fun h => by rwa [if_neg (by omega)] at k, fun h => ⟨c, ⟨fun h2 => by rwa [if_neg (by omega)] at k, fun h2 => by rwa [if_pos (by omega)] at k⟩⟩⟩⟩
theorem sp_cdig {x : Int} (c : kR x) (k : Q (some (kI (kdig x))) V) : kGo xs Lx d 89 0 [some (kI x)] [] V Q := by
  unfold kdig at k
  exact b89_0 ⟨c, ⟨fun h => by rwa [if_neg (by omega)] at k, fun h => ⟨c, ⟨fun h2 => by rwa [if_neg (by omega)] at k, fun h2 => by rwa [if_pos (by omega)] at k⟩⟩⟩⟩
theorem sp_clet {x : Int} (c : kR x) (k : Q (some (kI (klet x))) V) : kGo xs Lx d 88 0 [some (kI x)] [] V Q := by
  unfold klet at k
  exact b88_0 ⟨c, ⟨fun h => by rwa [if_neg (by omega)] at k, fun h => ⟨c, ⟨fun h2 => by rwa [if_neg (by omega)] at k, fun h2 => by rwa [if_pos (by omega)] at k⟩⟩⟩⟩
theorem sp_cblk {x : Int} (c : kR x) (k : Q (some (kI (kblk x))) V) : kGo xs Lx d 87 0 [some (kI x)] [] V Q := by
  unfold kblk at k
  exact b87_0 ⟨c, ⟨fun h => by rwa [if_pos (by omega)] at k, fun h => ⟨c, ⟨fun h => by rwa [if_pos (by omega)] at k, fun h => ⟨c, ⟨fun h => by rwa [if_pos (by omega)] at k, fun h => ⟨c, ⟨fun h => by rwa [if_neg (by omega)] at k, fun h => by rwa [if_pos (by omega)] at k⟩⟩⟩⟩⟩⟩⟩⟩
theorem sp_max {x y : Int} (c1 : kR x) (c2 : kR y) (k : Q (some (kI (kmax x y))) V) : kGo xs Lx d 221 0 [some (kI x), some (kI y)] [] V Q := by
  unfold kmax at k
  exact b221_0 ⟨c1, c2, ⟨fun h => by rwa [if_pos h] at k, fun h => by rwa [if_neg (by omega)] at k⟩⟩
theorem sp_min {x y : Int} (c1 : kR x) (c2 : kR y) (k : Q (some (kI (kmin x y))) V) : kGo xs Lx d 222 0 [some (kI x), some (kI y)] [] V Q := by
  unfold kmin at k
  exact b222_0 ⟨c1, c2, ⟨fun h => by rwa [if_pos h] at k, fun h => by rwa [if_neg (by omega)] at k⟩⟩
theorem sp_is {x : Int} (c : kisC V x) (k : Q (some (kI (kis V x))) V) : kGo xs Lx d 136 0 [some (.ref 299), some (kI x)] [] V Q := by
  obtain ⟨c1, c2, c3⟩ := c
  unfold kis at k
  refine b136_0 ⟨c1, ⟨fun h => by rwa [if_neg (fun z => h z.1)] at k, fun h => ⟨(c3 h).1, (c3 h).2, c2, ⟨fun h2 => by rwa [if_neg (fun z => h2 z.2)] at k, fun h2 => by rwa [if_pos ⟨h, h2⟩] at k⟩⟩⟩⟩
theorem sp_endIn {r : Nat} {x : Int} (hr : km_sh[r]? = some (11, 78)) (c : keinC V r x) (k : Q (some (kI (kein V r x))) V) : kGo xs Lx d 158 0 [some (.ref 299), some (.ref r), some (kI x)] [] V Q := by
  obtain ⟨c1, c2, c3⟩ := c
  unfold kein at k
  refine b158_0 hr ⟨c1, by omega, by omega, ⟨fun h => ⟨c1, by omega, by omega, c3, ⟨fun h2 => by rwa [if_neg h, if_neg h2] at k, fun h2 => by rwa [if_neg h, if_pos h2] at k⟩⟩, fun h => by rwa [if_pos h] at k⟩⟩
theorem sp_cb {w : Int} (c : kcbC V w) (k : Q (some (kI (kcb V w))) V) : kGo xs Lx d 160 0 [some (.ref 299), some (kI w)] [] V Q := by
  obtain ⟨c1, c2, c3⟩ := c
  unfold kcb at k
  refine b160_0 ⟨by omega, by omega, ⟨fun h => ?_, fun h => ?_⟩⟩
  · have := c3 (Int.toNat (w / 2)) (by omega)
    rw [if_neg h] at k
    exact ⟨by omega, by omega, by omega, k⟩
  · have := c3 (Int.toNat (V 315 (Int.toNat (w / 2)))) (by omega)
    rw [if_pos h] at k
    exact ⟨by omega, by omega, c2, by omega, k⟩
theorem sp_ov {x : Int} (c : kovC V x) (k : Q (some (kI (kov V x))) V) : kGo xs Lx d 165 0 [some (.ref 299), some (kI x)] [] V Q := by
  obtain ⟨c1, c2, c3⟩ := c
  unfold kov at k
  have h1 := c3 (Int.toNat x) (by omega)
  have h2 := c3 (Int.toNat (V 315 (Int.toNat x))) (by omega)
  exact b165_0 ⟨c1, by omega, c1, c2, by omega, k⟩
theorem sp_mby {x : Int} (c : kmbyC V x) (k : Q (some (kI (kmby V x))) V) : kGo xs Lx d 128 0 [some (.ref 299), some (kI x)] [] V Q := by
  obtain ⟨c1, c2⟩ := c
  unfold kmby at k
  exact b128_0 ⟨c1.2, by omega, ⟨fun h => by rwa [if_neg (by omega)] at k, fun h => ⟨by omega, by rwa [if_pos h] at k⟩⟩⟩
theorem sp_cby {x : Int} (c : kcbyC V x) (k : Q (some (kI (kcby V x))) V) : kGo xs Lx d 86 0 [some (.ref 1), some (kI x)] [] V Q := by
  obtain ⟨c1, c2⟩ := c
  unfold kcby at k
  exact b86_0 ⟨c1, ⟨fun h => by rwa [if_neg (by omega)] at k, fun h => ⟨c1, by omega, ⟨fun h2 => by rwa [if_neg (by omega)] at k, fun h2 => ⟨by omega, by rwa [if_pos (by omega)] at k⟩⟩⟩⟩⟩
set_option maxRecDepth 100000 in
set_option maxHeartbeats 4000000 in
theorem k_bitc : ∀ n : Nat, n < 256 → ((0 ≤ (n : Int) ∧ (n : Int) ≤ 2147483647) ∧ (0 ≤ ((n : Int) / 2)) ∧ (0 ≤ ((n : Int) - ((Int.toNat ((n : Int) / 2) &&& Int.toNat 1431655765 : Nat) : Int))) ∧ (0 ≤ ((n : Int) - ((Int.toNat ((n : Int) / 2) &&& Int.toNat 1431655765 : Nat) : Int)) ∧ ((n : Int) - ((Int.toNat ((n : Int) / 2) &&& Int.toNat 1431655765 : Nat) : Int)) ≤ 2147483647) ∧ (0 ≤ (((n : Int) - ((Int.toNat ((n : Int) / 2) &&& Int.toNat 1431655765 : Nat) : Int)) / 4)) ∧ (0 ≤ (((Int.toNat ((n : Int) - ((Int.toNat ((n : Int) / 2) &&& Int.toNat 1431655765 : Nat) : Int)) &&& Int.toNat 858993459 : Nat) : Int) + ((Int.toNat (((n : Int) - ((Int.toNat ((n : Int) / 2) &&& Int.toNat 1431655765 : Nat) : Int)) / 4) &&& Int.toNat 858993459 : Nat) : Int)) ∧ (((Int.toNat ((n : Int) - ((Int.toNat ((n : Int) / 2) &&& Int.toNat 1431655765 : Nat) : Int)) &&& Int.toNat 858993459 : Nat) : Int) + ((Int.toNat (((n : Int) - ((Int.toNat ((n : Int) / 2) &&& Int.toNat 1431655765 : Nat) : Int)) / 4) &&& Int.toNat 858993459 : Nat) : Int)) ≤ 2147483647) ∧ (0 ≤ ((((Int.toNat ((n : Int) - ((Int.toNat ((n : Int) / 2) &&& Int.toNat 1431655765 : Nat) : Int)) &&& Int.toNat 858993459 : Nat) : Int) + ((Int.toNat (((n : Int) - ((Int.toNat ((n : Int) / 2) &&& Int.toNat 1431655765 : Nat) : Int)) / 4) &&& Int.toNat 858993459 : Nat) : Int)) + ((((Int.toNat ((n : Int) - ((Int.toNat ((n : Int) / 2) &&& Int.toNat 1431655765 : Nat) : Int)) &&& Int.toNat 858993459 : Nat) : Int) + ((Int.toNat (((n : Int) - ((Int.toNat ((n : Int) / 2) &&& Int.toNat 1431655765 : Nat) : Int)) / 4) &&& Int.toNat 858993459 : Nat) : Int)) / 16))) ∧ (0 ≤ ((Int.toNat ((((Int.toNat ((n : Int) - ((Int.toNat ((n : Int) / 2) &&& Int.toNat 1431655765 : Nat) : Int)) &&& Int.toNat 858993459 : Nat) : Int) + ((Int.toNat (((n : Int) - ((Int.toNat ((n : Int) / 2) &&& Int.toNat 1431655765 : Nat) : Int)) / 4) &&& Int.toNat 858993459 : Nat) : Int)) + ((((Int.toNat ((n : Int) - ((Int.toNat ((n : Int) / 2) &&& Int.toNat 1431655765 : Nat) : Int)) &&& Int.toNat 858993459 : Nat) : Int) + ((Int.toNat (((n : Int) - ((Int.toNat ((n : Int) / 2) &&& Int.toNat 1431655765 : Nat) : Int)) / 4) &&& Int.toNat 858993459 : Nat) : Int)) / 16)) &&& Int.toNat 252645135 : Nat) : Int) ∧ ((Int.toNat ((((Int.toNat ((n : Int) - ((Int.toNat ((n : Int) / 2) &&& Int.toNat 1431655765 : Nat) : Int)) &&& Int.toNat 858993459 : Nat) : Int) + ((Int.toNat (((n : Int) - ((Int.toNat ((n : Int) / 2) &&& Int.toNat 1431655765 : Nat) : Int)) / 4) &&& Int.toNat 858993459 : Nat) : Int)) + ((((Int.toNat ((n : Int) - ((Int.toNat ((n : Int) / 2) &&& Int.toNat 1431655765 : Nat) : Int)) &&& Int.toNat 858993459 : Nat) : Int) + ((Int.toNat (((n : Int) - ((Int.toNat ((n : Int) / 2) &&& Int.toNat 1431655765 : Nat) : Int)) / 4) &&& Int.toNat 858993459 : Nat) : Int)) / 16)) &&& Int.toNat 252645135 : Nat) : Int) ≤ 2147483647) ∧ (0 ≤ (((Int.toNat ((((Int.toNat ((n : Int) - ((Int.toNat ((n : Int) / 2) &&& Int.toNat 1431655765 : Nat) : Int)) &&& Int.toNat 858993459 : Nat) : Int) + ((Int.toNat (((n : Int) - ((Int.toNat ((n : Int) / 2) &&& Int.toNat 1431655765 : Nat) : Int)) / 4) &&& Int.toNat 858993459 : Nat) : Int)) + ((((Int.toNat ((n : Int) - ((Int.toNat ((n : Int) / 2) &&& Int.toNat 1431655765 : Nat) : Int)) &&& Int.toNat 858993459 : Nat) : Int) + ((Int.toNat (((n : Int) - ((Int.toNat ((n : Int) / 2) &&& Int.toNat 1431655765 : Nat) : Int)) / 4) &&& Int.toNat 858993459 : Nat) : Int)) / 16)) &&& Int.toNat 252645135 : Nat) : Int) + (((Int.toNat ((((Int.toNat ((n : Int) - ((Int.toNat ((n : Int) / 2) &&& Int.toNat 1431655765 : Nat) : Int)) &&& Int.toNat 858993459 : Nat) : Int) + ((Int.toNat (((n : Int) - ((Int.toNat ((n : Int) / 2) &&& Int.toNat 1431655765 : Nat) : Int)) / 4) &&& Int.toNat 858993459 : Nat) : Int)) + ((((Int.toNat ((n : Int) - ((Int.toNat ((n : Int) / 2) &&& Int.toNat 1431655765 : Nat) : Int)) &&& Int.toNat 858993459 : Nat) : Int) + ((Int.toNat (((n : Int) - ((Int.toNat ((n : Int) / 2) &&& Int.toNat 1431655765 : Nat) : Int)) / 4) &&& Int.toNat 858993459 : Nat) : Int)) / 16)) &&& Int.toNat 252645135 : Nat) : Int) / 256)) ∧ (((Int.toNat ((((Int.toNat ((n : Int) - ((Int.toNat ((n : Int) / 2) &&& Int.toNat 1431655765 : Nat) : Int)) &&& Int.toNat 858993459 : Nat) : Int) + ((Int.toNat (((n : Int) - ((Int.toNat ((n : Int) / 2) &&& Int.toNat 1431655765 : Nat) : Int)) / 4) &&& Int.toNat 858993459 : Nat) : Int)) + ((((Int.toNat ((n : Int) - ((Int.toNat ((n : Int) / 2) &&& Int.toNat 1431655765 : Nat) : Int)) &&& Int.toNat 858993459 : Nat) : Int) + ((Int.toNat (((n : Int) - ((Int.toNat ((n : Int) / 2) &&& Int.toNat 1431655765 : Nat) : Int)) / 4) &&& Int.toNat 858993459 : Nat) : Int)) / 16)) &&& Int.toNat 252645135 : Nat) : Int) + (((Int.toNat ((((Int.toNat ((n : Int) - ((Int.toNat ((n : Int) / 2) &&& Int.toNat 1431655765 : Nat) : Int)) &&& Int.toNat 858993459 : Nat) : Int) + ((Int.toNat (((n : Int) - ((Int.toNat ((n : Int) / 2) &&& Int.toNat 1431655765 : Nat) : Int)) / 4) &&& Int.toNat 858993459 : Nat) : Int)) + ((((Int.toNat ((n : Int) - ((Int.toNat ((n : Int) / 2) &&& Int.toNat 1431655765 : Nat) : Int)) &&& Int.toNat 858993459 : Nat) : Int) + ((Int.toNat (((n : Int) - ((Int.toNat ((n : Int) / 2) &&& Int.toNat 1431655765 : Nat) : Int)) / 4) &&& Int.toNat 858993459 : Nat) : Int)) / 16)) &&& Int.toNat 252645135 : Nat) : Int) / 256)) ≤ 2147483647) ∧ (0 ≤ ((((Int.toNat ((((Int.toNat ((n : Int) - ((Int.toNat ((n : Int) / 2) &&& Int.toNat 1431655765 : Nat) : Int)) &&& Int.toNat 858993459 : Nat) : Int) + ((Int.toNat (((n : Int) - ((Int.toNat ((n : Int) / 2) &&& Int.toNat 1431655765 : Nat) : Int)) / 4) &&& Int.toNat 858993459 : Nat) : Int)) + ((((Int.toNat ((n : Int) - ((Int.toNat ((n : Int) / 2) &&& Int.toNat 1431655765 : Nat) : Int)) &&& Int.toNat 858993459 : Nat) : Int) + ((Int.toNat (((n : Int) - ((Int.toNat ((n : Int) / 2) &&& Int.toNat 1431655765 : Nat) : Int)) / 4) &&& Int.toNat 858993459 : Nat) : Int)) / 16)) &&& Int.toNat 252645135 : Nat) : Int) + (((Int.toNat ((((Int.toNat ((n : Int) - ((Int.toNat ((n : Int) / 2) &&& Int.toNat 1431655765 : Nat) : Int)) &&& Int.toNat 858993459 : Nat) : Int) + ((Int.toNat (((n : Int) - ((Int.toNat ((n : Int) / 2) &&& Int.toNat 1431655765 : Nat) : Int)) / 4) &&& Int.toNat 858993459 : Nat) : Int)) + ((((Int.toNat ((n : Int) - ((Int.toNat ((n : Int) / 2) &&& Int.toNat 1431655765 : Nat) : Int)) &&& Int.toNat 858993459 : Nat) : Int) + ((Int.toNat (((n : Int) - ((Int.toNat ((n : Int) / 2) &&& Int.toNat 1431655765 : Nat) : Int)) / 4) &&& Int.toNat 858993459 : Nat) : Int)) / 16)) &&& Int.toNat 252645135 : Nat) : Int) / 256)) + ((((Int.toNat ((((Int.toNat ((n : Int) - ((Int.toNat ((n : Int) / 2) &&& Int.toNat 1431655765 : Nat) : Int)) &&& Int.toNat 858993459 : Nat) : Int) + ((Int.toNat (((n : Int) - ((Int.toNat ((n : Int) / 2) &&& Int.toNat 1431655765 : Nat) : Int)) / 4) &&& Int.toNat 858993459 : Nat) : Int)) + ((((Int.toNat ((n : Int) - ((Int.toNat ((n : Int) / 2) &&& Int.toNat 1431655765 : Nat) : Int)) &&& Int.toNat 858993459 : Nat) : Int) + ((Int.toNat (((n : Int) - ((Int.toNat ((n : Int) / 2) &&& Int.toNat 1431655765 : Nat) : Int)) / 4) &&& Int.toNat 858993459 : Nat) : Int)) / 16)) &&& Int.toNat 252645135 : Nat) : Int) + (((Int.toNat ((((Int.toNat ((n : Int) - ((Int.toNat ((n : Int) / 2) &&& Int.toNat 1431655765 : Nat) : Int)) &&& Int.toNat 858993459 : Nat) : Int) + ((Int.toNat (((n : Int) - ((Int.toNat ((n : Int) / 2) &&& Int.toNat 1431655765 : Nat) : Int)) / 4) &&& Int.toNat 858993459 : Nat) : Int)) + ((((Int.toNat ((n : Int) - ((Int.toNat ((n : Int) / 2) &&& Int.toNat 1431655765 : Nat) : Int)) &&& Int.toNat 858993459 : Nat) : Int) + ((Int.toNat (((n : Int) - ((Int.toNat ((n : Int) / 2) &&& Int.toNat 1431655765 : Nat) : Int)) / 4) &&& Int.toNat 858993459 : Nat) : Int)) / 16)) &&& Int.toNat 252645135 : Nat) : Int) / 256)) / 65536)))) ∧ (((Int.toNat ((((Int.toNat ((((Int.toNat ((n : Int) - ((Int.toNat ((n : Int) / 2) &&& Int.toNat 1431655765 : Nat) : Int)) &&& Int.toNat 858993459 : Nat) : Int) + ((Int.toNat (((n : Int) - ((Int.toNat ((n : Int) / 2) &&& Int.toNat 1431655765 : Nat) : Int)) / 4) &&& Int.toNat 858993459 : Nat) : Int)) + ((((Int.toNat ((n : Int) - ((Int.toNat ((n : Int) / 2) &&& Int.toNat 1431655765 : Nat) : Int)) &&& Int.toNat 858993459 : Nat) : Int) + ((Int.toNat (((n : Int) - ((Int.toNat ((n : Int) / 2) &&& Int.toNat 1431655765 : Nat) : Int)) / 4) &&& Int.toNat 858993459 : Nat) : Int)) / 16)) &&& Int.toNat 252645135 : Nat) : Int) + (((Int.toNat ((((Int.toNat ((n : Int) - ((Int.toNat ((n : Int) / 2) &&& Int.toNat 1431655765 : Nat) : Int)) &&& Int.toNat 858993459 : Nat) : Int) + ((Int.toNat (((n : Int) - ((Int.toNat ((n : Int) / 2) &&& Int.toNat 1431655765 : Nat) : Int)) / 4) &&& Int.toNat 858993459 : Nat) : Int)) + ((((Int.toNat ((n : Int) - ((Int.toNat ((n : Int) / 2) &&& Int.toNat 1431655765 : Nat) : Int)) &&& Int.toNat 858993459 : Nat) : Int) + ((Int.toNat (((n : Int) - ((Int.toNat ((n : Int) / 2) &&& Int.toNat 1431655765 : Nat) : Int)) / 4) &&& Int.toNat 858993459 : Nat) : Int)) / 16)) &&& Int.toNat 252645135 : Nat) : Int) / 256)) + ((((Int.toNat ((((Int.toNat ((n : Int) - ((Int.toNat ((n : Int) / 2) &&& Int.toNat 1431655765 : Nat) : Int)) &&& Int.toNat 858993459 : Nat) : Int) + ((Int.toNat (((n : Int) - ((Int.toNat ((n : Int) / 2) &&& Int.toNat 1431655765 : Nat) : Int)) / 4) &&& Int.toNat 858993459 : Nat) : Int)) + ((((Int.toNat ((n : Int) - ((Int.toNat ((n : Int) / 2) &&& Int.toNat 1431655765 : Nat) : Int)) &&& Int.toNat 858993459 : Nat) : Int) + ((Int.toNat (((n : Int) - ((Int.toNat ((n : Int) / 2) &&& Int.toNat 1431655765 : Nat) : Int)) / 4) &&& Int.toNat 858993459 : Nat) : Int)) / 16)) &&& Int.toNat 252645135 : Nat) : Int) + (((Int.toNat ((((Int.toNat ((n : Int) - ((Int.toNat ((n : Int) / 2) &&& Int.toNat 1431655765 : Nat) : Int)) &&& Int.toNat 858993459 : Nat) : Int) + ((Int.toNat (((n : Int) - ((Int.toNat ((n : Int) / 2) &&& Int.toNat 1431655765 : Nat) : Int)) / 4) &&& Int.toNat 858993459 : Nat) : Int)) + ((((Int.toNat ((n : Int) - ((Int.toNat ((n : Int) / 2) &&& Int.toNat 1431655765 : Nat) : Int)) &&& Int.toNat 858993459 : Nat) : Int) + ((Int.toNat (((n : Int) - ((Int.toNat ((n : Int) / 2) &&& Int.toNat 1431655765 : Nat) : Int)) / 4) &&& Int.toNat 858993459 : Nat) : Int)) / 16)) &&& Int.toNat 252645135 : Nat) : Int) / 256)) / 65536)) &&& Int.toNat 63 : Nat) : Int)) = kbit (n : Int) := by decide +kernel
theorem sp_bit {x : Int} (c : 0 ≤ x ∧ x < 256) (k : Q (some (kI (kbit x))) V) : kGo xs Lx d 218 0 [some (kI x)] [] V Q := by
  obtain ⟨n, rfl⟩ : ∃ n : Nat, x = (n : Int) := ⟨x.toNat, by omega⟩
  obtain ⟨h1, h2⟩ := k_bitc n (by omega)
  rw [← h2] at k
  exact b218_0 (by
    simp only [and_assoc] at h1 ⊢
    simp only [h1, k, true_and, and_true, and_self])
end PU

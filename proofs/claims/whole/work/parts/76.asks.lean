/-! what is asked of rings, crossings, faces, states -/
def qRing (R : Rw) (a b : Int) : Int := if 0 ≤ a ∧ a < (R.1.length : Int) then (if b = -1 then (rwL R (Int.toNat a) : Int) else if 0 ≤ b ∧ b < (rwL R (Int.toNat a) : Int) then 2 * ((rwR R (Int.toNat a)).getD (Int.toNat b) 0 : Int) + (if R.2.getD ((rwR R (Int.toNat a)).getD (Int.toNat b) 0 / 2) 0 = 1 then 1 else 0) else -1) else -1
def qCross (R : Rw) (a b : Int) : Int := if 0 ≤ a ∧ a < (rwn R : Int) ∧ 0 ≤ b ∧ b ≤ 7 then (if b = 0 then R.2.getD (Int.toNat a) 0 else if b ≤ 4 then ((rwLv R (4 * Int.toNat a + Int.toNat b - 1) / 2 : Nat) : Int) else if b = 5 then (rwG R (rwPos R (2 * Int.toNat a + 1)) : Int) else if b = 6 then (rwG R (rwPos R (2 * Int.toNat a)) : Int) else (rwA R (rwPos R (2 * Int.toNat a + 1)) : Int)) else -100000
def qFace (R : Rw) (a b : Int) : Int := if a = -1 then ((rwFc R).length : Int) else if 0 ≤ a ∧ a < ((rwFc R).length : Int) ∧ 0 ≤ b then (if b = 0 then (rwL (rwV R) (Int.toNat a) : Int) else if b = 1 then (rwK R (Int.toNat a) : Int) else if b - 2 < (rwL (rwV R) (Int.toNat a) : Int) then ((rwR (rwV R) (Int.toNat a)).getD (Int.toNat (b - 2)) 0 : Int) else -1) else -1
def qLoops (R : Rw) (a : Int) : Int := if R.1.length ≠ 0 ∧ 0 ≤ a ∧ a < ((2 ^ rwn R : Nat) : Int) then (rwLoops R (Int.toNat a) : Int) else -1
section ASK
variable {xs : Nat → Int32} {Lx d : Nat} {V : km_V} {R S : Rw} {hs : Hs} {ps : List Rw}
theorem sp_cring {a b : Int} {K : Int → km_V → Prop} (ha : kR a) (hb : kR b) (hC : kC V R ps hs) (ok : kOk R ps hs) (k : K (qRing R a b) V) : kCI xs Lx (d + 1) 104 5 [.ref 0, kI a, kI b] V K := by
  obtain ⟨⟨h1, h2, h3, h4, h5⟩, -⟩ := id hC
  have o1 := ok.1.1
  have o2 := ok.1.2.1
  have o3 := ok.1.len
  unfold qRing at k
  refine b104_0 ?_
  rw [h1]
  refine ⟨ha, fun h => ?_, fun h => ⟨by omega, fun h' => ?_, fun h' => ?_⟩⟩
  · rw [if_neg (by omega)] at k; exact ⟨_, rfl, k⟩
  · obtain ⟨i, rfl⟩ : ∃ i : Nat, a = (i : Int) := ⟨Int.toNat a, by omega⟩
    have hi : i < R.1.length := by omega
    have fe := rwF_end hi
    have fs := rwF_succ hi
    rw [if_pos ⟨h, h'⟩, tn] at k
    rw [tn1, tn, h3 i (by omega), h3 (i + 1) (by omega)]
    refine ⟨by omega, by omega, fun z hz => ⟨hb, fun e => ⟨fun hb0 => ?_, fun hb0 => ⟨by omega, fun hb1 => ?_, fun hb1 => ?_⟩⟩, fun e => ?_⟩⟩
    · rw [if_neg e, if_neg (by omega)] at k; exact ⟨_, rfl, k⟩
    · rw [if_neg e, if_pos (by omega)] at k
      obtain ⟨j, rfl⟩ : ∃ j : Nat, b = (j : Int) := ⟨Int.toNat b, by omega⟩
      rw [tn] at k
      intro z2 hz2
      obtain rfl : z2 = ((rwF R i + j : Nat) : Int) := by omega
      have lt := ok.1.lt (rwF R i + j) (by omega)
      have e15 : V 15 (rwF R i + j) = ((rwR R i).getD j 0 : Int) := by rw [h4 _ (by omega), rwP_at hi (by omega)]
      rw [rwP_at hi (by omega)] at lt
      rw [tn, e15]
      generalize hx : (rwR R i).getD j 0 = x at *
      have nx : Int.toNat ((x : Int) / 2) = x / 2 := by omega
      have sg := ok.1.sg (x / 2) (by omega)
      rw [nx, h5 _ (by omega)]
      refine ⟨by omega, by omega, by omega, by omega, fun h6 => ?_, fun h6 => ?_⟩
      · rw [if_neg (by omega)] at k; exact ⟨_, rfl, k⟩
      · rw [if_pos (by omega)] at k; exact ⟨_, rfl, k⟩
    · rw [if_neg e, if_neg (by omega)] at k; exact ⟨_, rfl, k⟩
    · rw [if_pos e] at k; exact ⟨z, rfl, by rw [show z = (rwL R i : Int) by omega]; exact k⟩
  · rw [if_neg (by omega)] at k; exact ⟨_, rfl, k⟩
theorem sp_mring {a b : Int} {K : Int → km_V → Prop} (ha : kR a) (hb : kR b) (hM : kM V R ps hs) (ok : kOk R ps hs) (k : K (qRing R a b) V) : kCI xs Lx (d + 1) 189 5 [.ref 299, kI a, kI b] V K := by
  obtain ⟨⟨h1, h2, h3, h4, h5⟩, -⟩ := id hM
  have o1 := ok.1.1
  have o2 := ok.1.2.1
  have o3 := ok.1.len
  unfold qRing at k
  refine b189_0 ?_
  simp only [show Int.toNat 0 = 0 from rfl]
  rw [h1]
  simp only [kin_eq]
  refine ⟨ha, by omega, by split <;> omega, fun h => ?_, fun h => ?_⟩
  · have c : 0 ≤ a ∧ a < (R.1.length : Int) := by
      by_cases c : 0 ≤ a ∧ a ≤ (R.1.length : Int) - 1
      · omega
      · rw [if_neg c] at h; omega
    obtain ⟨i, rfl⟩ : ∃ i : Nat, a = (i : Int) := ⟨Int.toNat a, by omega⟩
    have hi : i < R.1.length := by omega
    have fe := rwF_end hi
    rw [if_pos c, tn] at k
    have n1 : Int.toNat (2 + (i : Int)) = 2 + i := by omega
    rw [n1, h3 i hi]
    refine ⟨by omega, fun z hz => ⟨hb, fun e => ⟨by omega, by split <;> omega, fun h2 => ?_, fun h2 => ?_⟩, fun e => ?_⟩⟩
    · rw [if_neg e] at k
      have c2 : 0 ≤ b ∧ b < (rwL R i : Int) := by
        by_cases c : 0 ≤ b ∧ b ≤ z - 1
        · omega
        · rw [if_neg c] at h2; omega
      rw [if_pos c2] at k
      obtain ⟨j, rfl⟩ : ∃ j : Nat, b = (j : Int) := ⟨Int.toNat b, by omega⟩
      rw [tn] at k
      have lt := ok.1.lt (rwF R i + j) (by omega)
      rw [rwP_at hi (by omega)] at lt
      have n2 : Int.toNat (6 + 16 * (i : Int) + (j : Int)) = 6 + 16 * i + j := by omega
      rw [n2, h4 i j hi (by omega)]
      generalize hx : (rwR R i).getD j 0 = x at *
      refine ⟨by omega, fun z2 hz2 => ?_⟩
      subst hz2
      have n3 : Int.toNat (70 + (x : Int) / 2) = 70 + x / 2 := by omega
      have sg := ok.1.sg (x / 2) (by omega)
      rw [n3, h5 _ (by omega)]
      refine ⟨by omega, by omega, by omega, fun h6 => ?_, fun h6 => ?_⟩
      · rw [if_neg h6] at k; exact ⟨_, rfl, by rw [show 4 * ((x : Int) / 2) + 2 * ((x : Int) % 2) + 0 = 2 * (x : Int) + 0 by omega]; exact k⟩
      · rw [if_pos h6] at k; exact ⟨_, rfl, by rw [show 4 * ((x : Int) / 2) + 2 * ((x : Int) % 2) + 1 = 2 * (x : Int) + 1 by omega]; exact k⟩
    · rw [if_neg e, if_neg (fun c => by rw [if_pos (by omega)] at h2; omega)] at k; exact ⟨_, rfl, k⟩
    · rw [if_pos e] at k; exact ⟨z, rfl, by rw [hz]; exact k⟩
  · rw [if_neg (fun c => by rw [if_pos (by omega)] at h; omega)] at k; exact ⟨_, rfl, k⟩
theorem sp_ccross {a b : Int} {K : Int → km_V → Prop} (ha : kR a) (hb : kR b) (hC : kC V R ps hs) (ok : kOk R ps hs) (k : K (qCross R a b) V) : kCI xs Lx (d + 1) 105 3 [.ref 0, kI a, kI b] V K := by
  obtain ⟨⟨h1, h2, h3, h4, h5⟩, ⟨⟨d1, d2, d3, d4⟩, -⟩, ⟨-, a2⟩, -⟩ := id hC
  have o1 := ok.1.1
  have o2 := ok.1.2.1
  have o3 := ok.1.len
  unfold qCross at k
  refine b105_0 ?_
  rw [h2]
  have no : ¬ (0 ≤ a ∧ a < (rwn R : Int) ∧ 0 ≤ b ∧ b ≤ 7) → ∃ v : Int, some (kI (-100000)) = some (kI v) ∧ K v V := fun h => ⟨_, rfl, by rw [if_neg h] at k; exact k⟩
  refine ⟨ha, fun h => no (by omega), fun h => ⟨by omega, fun h' => ?_, fun h' => no (by omega)⟩⟩
  obtain ⟨c, rfl⟩ : ∃ c : Nat, a = (c : Int) := ⟨Int.toNat a, by omega⟩
  have hc : c < rwn R := by omega
  obtain ⟨p1, p2⟩ := rwPos_s ok.1 (x := 2 * c + 1) (by omega)
  obtain ⟨u1, u2⟩ := rwPos_s ok.1 (x := 2 * c) (by omega)
  have v1 : V 21 c = (rwPos R (2 * c + 1) : Int) := by
    have := (d2 _ p1).1 (by omega)
    rw [p2, show (2 * c + 1) / 2 = c by omega] at this
    exact this
  have v2 : V 22 c = (rwPos R (2 * c) : Int) := by
    have := (d2 _ u1).2 (by omega)
    rw [u2, show 2 * c / 2 = c by omega] at this
    exact this
  have yes : 0 ≤ b ∧ b ≤ 7 → K (if b = 0 then R.2.getD c 0 else if b ≤ 4 then ((rwLv R (4 * c + Int.toNat b - 1) / 2 : Nat) : Int) else if b = 5 then (rwG R (rwPos R (2 * c + 1)) : Int) else if b = 6 then (rwG R (rwPos R (2 * c)) : Int) else (rwA R (rwPos R (2 * c + 1)) : Int)) V := fun h => by
    rw [if_pos ⟨by omega, by omega, h.1, h.2⟩] at k; exact k
  have edge : ∀ b' : Nat, b = (b' : Int) → 1 ≤ b' → b' ≤ 4 → (0 ≤ 4 * (c : Int) + (b - 1) ∧ 4 * (c : Int) + (b - 1) < (32 : Nat)) ∧ (kR (V 23 (Int.toNat (4 * (c : Int) + (b - 1))))) ∧ ∃ v : Int, some (kI ((V 23 (Int.toNat (4 * (c : Int) + (b - 1)))) / 2)) = some (kI v) ∧ K v V := by
    intro b' e l1 l2
    have y := yes (by omega)
    rw [if_neg (by omega), if_pos (by omega)] at y
    have n1 : Int.toNat (4 * (c : Int) + (b - 1)) = 4 * c + Int.toNat b - 1 := by omega
    have lv := rwLv_lt ok.1 (e := 4 * c + Int.toNat b - 1) (by omega)
    have ev := d3 (4 * c + Int.toNat b - 1) (by omega)
    rw [n1, ev]
    exact ⟨by omega, by omega, _, rfl, by rw [show ((rwLv R (4 * c + Int.toNat b - 1) : Nat) : Int) / 2 = ((rwLv R (4 * c + Int.toNat b - 1) / 2 : Nat) : Int) by omega]; exact y⟩
  simp only [tn]
  rw [v1, v2]
  simp only [tn]
  refine ⟨hb, fun h => no (by omega), fun e => ?_, fun e => edge 1 (by omega) (by omega) (by omega), fun e => edge 2 (by omega) (by omega) (by omega), fun e => edge 3 (by omega) (by omega) (by omega), fun e => edge 4 (by omega) (by omega) (by omega), fun e => ?_, fun e => ?_, fun e => ?_⟩
  · have y := yes (by omega)
    rw [if_pos e, ← h5 c hc] at y
    exact ⟨by omega, _, rfl, y⟩
  · have y := yes (by omega)
    rw [if_neg (by omega), if_neg (by omega), if_pos e, ← (d1 _ p1).2.2] at y
    exact ⟨by omega, by omega, _, rfl, y⟩
  · have y := yes (by omega)
    rw [if_neg (by omega), if_neg (by omega), if_neg (by omega), if_pos e, ← (d1 _ u1).2.2] at y
    exact ⟨by omega, by omega, _, rfl, y⟩
  · have y := yes (by omega)
    rw [if_neg (by omega), if_neg (by omega), if_neg (by omega), if_neg (by omega), ← a2 _ p1] at y
    exact ⟨by omega, by omega, _, rfl, y⟩
theorem sp_mcross {a b : Int} {K : Int → km_V → Prop} (ha : kR a) (hb : kR b) (hM : kM V R ps hs) (ok : kOk R ps hs) (k : ∀ W, kM W R ps hs → mFr V W → K (qCross R a b) W) : kCI xs Lx (d + 3) 191 4 [.ref 299, kI a, kI b] V K := by
  obtain ⟨⟨h1, h2, h3, h4, h5⟩, -⟩ := id hM
  have o1 := ok.1.1
  have o2 := ok.1.2.1
  have o3 := ok.1.len
  refine b191_0 ?_
  rw [show Int.toNat 1 = 1 from rfl, h2]
  simp only [kin_eq]
  have no : ¬ (0 ≤ a ∧ a < (rwn R : Int) ∧ 0 ≤ b ∧ b ≤ 7) → ∃ v : Int, some (kI (-100000)) = some (kI v) ∧ K v V := fun h => ⟨_, rfl, by
    have := k V hM (fun _ _ _ => rfl)
    unfold qCross at this
    rw [if_neg h] at this; exact this⟩
  refine ⟨ha, by omega, by split <;> omega, fun h => no (fun c => by rw [if_pos (by omega)] at h; omega), fun h => ⟨hb, by split <;> omega, fun h2 => ?_, fun h2 => no (fun c => by rw [if_pos (by omega)] at h2; omega)⟩⟩
  have ca : 0 ≤ a ∧ a < (rwn R : Int) := by
    by_cases c : 0 ≤ a ∧ a ≤ (rwn R : Int) - 1
    · omega
    · rw [if_neg c] at h; omega
  have cb : 0 ≤ b ∧ b ≤ 7 := by
    by_cases c : 0 ≤ b ∧ b ≤ 7
    · omega
    · rw [if_neg c] at h2; omega
  obtain ⟨c, rfl⟩ : ∃ c : Nat, a = (c : Int) := ⟨Int.toNat a, by omega⟩
  have hc : c < rwn R := by omega
  obtain ⟨p1, p2⟩ := rwPos_s ok.1 (x := 2 * c + 1) (by omega)
  obtain ⟨u1, u2⟩ := rwPos_s ok.1 (x := 2 * c) (by omega)
  refine sp_laysArcs (by decide) (by omega) hM.1 ok.1 (fun W hE w1 f1 => ?_)
  have hM1 : kM W R ps hs := hM.fr ok.1 (fun b j hb => f1 b j (by omega))
  have y := k W hM1 (fun b j hb => f1 b j (by omega))
  unfold qCross at y
  rw [if_pos ⟨ca.1, ca.2, cb.1, cb.2⟩, tn] at y
  refine ⟨fun n0 => ⟨fun l5 => ⟨fun n5 => ⟨fun n6 => ?_, fun e6 => ?_⟩, fun e5 => ?_⟩, fun l4 => ?_⟩, fun e0 => ?_⟩
  · rw [if_neg n0, if_neg (by omega), if_neg n5, if_neg n6] at y
    refine sp_passAt (o := 1) ok.1 hE hc (by omega) (fun p hp ep => ?_)
    have : rwPos R (2 * c + 1) = p := rwPos_eq ok.1 hp ep
    rw [this] at y
    rw [tn, w1 p hp]
    exact ⟨by omega, _, rfl, y⟩
  · rw [if_neg n0, if_neg (by omega), if_neg n5, if_pos e6] at y
    refine sp_passAt (o := 0) ok.1 hE hc (by omega) (fun p hp ep => ?_)
    have : rwPos R (2 * c) = p := rwPos_eq ok.1 hp ep
    rw [this] at y
    rw [tn, (hE.2.1 p hp).2.1]
    exact ⟨by omega, _, rfl, y⟩
  · rw [if_neg n0, if_neg (by omega), if_pos e5] at y
    refine sp_passAt (o := 1) ok.1 hE hc (by omega) (fun p hp ep => ?_)
    have : rwPos R (2 * c + 1) = p := rwPos_eq ok.1 hp ep
    rw [this] at y
    rw [tn, (hE.2.1 p hp).2.1]
    exact ⟨by omega, _, rfl, y⟩
  · rw [if_neg n0, if_pos (by omega)] at y
    have n1 : Int.toNat (4 * (c : Int) + b - 1) = 4 * c + Int.toNat b - 1 := by omega
    rw [n1, (hE.2.2 (4 * c + Int.toNat b - 1) (by omega)).1]
    exact ⟨by omega, _, rfl, y⟩
  · rw [if_pos e0] at y
    have n1 : Int.toNat (70 + (c : Int)) = 70 + c := by omega
    have e : W 307 (70 + c) = R.2.getD c 0 := hM1.1.2.2.2.2 c hc
    rw [n1, e]
    exact ⟨by omega, _, rfl, y⟩
theorem sp_cface {a b : Int} {K : Int → km_V → Prop} (ha : kR a) (hb : kR b) (hC : kC V R ps hs) (ok : kOk R ps hs) (k : K (qFace R a b) V) : kCI xs Lx (d + 1) 106 4 [.ref 0, kI a, kI b] V K := by
  obtain ⟨-, ⟨-, ⟨f1, f2, f3⟩, f4⟩, -⟩ := id hC
  have o2 := ok.1.2.1
  have o3 := ok.1.len
  have fl := rwFc_len R
  have vl := rwV_len ok.1
  unfold qFace at k
  refine b106_0 ?_
  rw [f1]
  refine ⟨ha, fun e => ?_, fun e => ?_⟩
  · rw [if_neg e] at k
    have no : ¬ (0 ≤ a ∧ a < ((rwFc R).length : Int) ∧ 0 ≤ b) → ∃ v : Int, some (kI (-1)) = some (kI v) ∧ K v V := fun h => ⟨_, rfl, by rw [if_neg h] at k; exact k⟩
    refine ⟨fun h => no (by omega), fun h => ⟨by omega, fun h' => no (by omega), fun h' => ⟨hb, fun hb0 => ?_, fun h => no (by omega)⟩⟩⟩
    rw [if_pos ⟨h, h', hb0⟩] at k
    obtain ⟨f, rfl⟩ : ∃ f : Nat, a = (f : Int) := ⟨Int.toNat a, by omega⟩
    have hf : f < (rwV R).1.length := by show f < (rwFc R).length; omega
    have hf2 : f < (rwFc R).length := by omega
    have fs := rwF_succ hf
    have fe := rwF_end hf
    rw [tn] at k
    rw [tn1, tn, f2 f (by omega), f2 (f + 1) (by omega)]
    refine ⟨by omega, by omega, fun z hz => ⟨hb, fun n0 => ⟨fun n1 => ⟨by omega, by omega, fun h => ?_, fun h => ⟨by omega, ?_⟩⟩, fun e1 => ⟨by omega, ?_⟩⟩, fun e0 => ?_⟩⟩
    · rw [if_neg n0, if_neg n1, if_neg (by omega)] at k; exact ⟨_, rfl, k⟩
    · rw [if_neg n0, if_neg n1, if_pos (by omega)] at k
      have n2 : Int.toNat ((rwF (rwV R) f : Int) + b - 2) = rwF (rwV R) f + Int.toNat (b - 2) := by omega
      rw [n2, f3 _ (by omega), rwP_at hf (by omega)]
      exact ⟨by omega, _, rfl, k⟩
    · rw [if_neg n0, if_pos e1, ← f4 f hf2] at k; exact ⟨_, rfl, k⟩
    · rw [if_pos e0] at k; exact ⟨z, rfl, by rw [show z = (rwL (rwV R) f : Int) by omega]; exact k⟩
  · rw [if_pos e] at k; exact ⟨_, rfl, k⟩
theorem sp_mface {a b : Int} {K : Int → km_V → Prop} (ha : kR a) (hb : kR b) (hM : kM V R ps hs) (ok : kOk R ps hs) (k : ∀ W, kM W R ps hs → mFr V W → K (qFace R a b) W) : kCI xs Lx (d + 3) 192 6 [.ref 299, kI a, kI b] V K := by
  have o2 := ok.1.2.1
  have o3 := ok.1.len
  have fl := rwFc_len R
  refine b192_0 (sp_laysFaces (by decide) (by omega) hM.1 ok.1 (fun W q1 f1 => ?_))
  have hM1 : kM W R ps hs := hM.fr ok.1 (fun b j hb => f1 b j (by omega))
  have k := k W hM1 (fun b j hb => f1 b j (by omega))
  unfold qFace at k
  simp only [kin_eq]
  refine ⟨ha, fun e => ?_, fun e => ?_⟩
  · rw [if_neg e] at k
    have no : ¬ (0 ≤ a ∧ a < ((rwFc R).length : Int) ∧ 0 ≤ b) → ∃ v : Int, some (kI (-1)) = some (kI v) ∧ K v W := fun h => ⟨_, rfl, by rw [if_neg h] at k; exact k⟩
    refine ⟨by omega, by split <;> omega, fun h => no (fun c => by rw [if_pos (by omega)] at h; omega), fun h => ⟨hb, fun hb0 => ?_, fun h => no (by omega)⟩⟩
    have c : 0 ≤ a ∧ a < ((rwFc R).length : Int) := by
      by_cases c : 0 ≤ a ∧ a ≤ ((rwFc R).length : Int) - 1
      · omega
      · rw [if_neg c] at h; omega
    rw [if_pos ⟨c.1, c.2, hb0⟩] at k
    obtain ⟨f, rfl⟩ : ∃ f : Nat, a = (f : Int) := ⟨Int.toNat a, by omega⟩
    have hf2 : f < (rwFc R).length := by omega
    have hf : f < (rwV R).1.length := hf2
    have fe := rwF_end hf
    have vl := rwV_len ok.1
    obtain ⟨g1, g2⟩ := q1.2.2 f hf2
    rw [tn] at k
    rw [tn, g1, g2]
    refine ⟨fun n0 => ⟨fun n1 => ⟨by omega, by omega, by omega, fun h => ?_, fun h => ?_⟩, fun e1 => ?_⟩, fun e0 => ?_⟩
    · rw [if_neg n0, if_neg n1, if_pos h] at k
      intro z hz
      subst hz
      have key := kloop0 (Int.toNat (b - 2)) (fun j => kGo xs Lx (d + 3) 192 84 [some (.ref 299), none, some (kI b), none, some (kI (((rwR (rwV R) f).getD j 0 : Nat) : Int)), some (kI (j : Int))] [] W (fun r V' => ∃ v : Int, r = some (kI v) ∧ K v V')) ?_ (fun j hj ih => ?_) 0 (Nat.zero_le _)
      · exact key
      · refine b192_84 ⟨by omega, by omega, fun _ => ⟨_, rfl, k⟩, fun h => by omega⟩
      · have lt := rwV_lt ok.1 (f := f) (i := j) hf2 (by omega)
        obtain ⟨t1, t2⟩ := kturn_eq hM1.1 ok.1 q1.1 lt
        refine b192_84 ⟨by omega, by omega, fun h => by omega, fun _ => ⟨t2, fun z hz => ?_⟩⟩
        rw [t1, ← rwV_at hf2 (by omega)] at hz
        subst hz
        exact ih
    · rw [if_neg n0, if_neg n1, if_neg (by omega)] at k; exact ⟨_, rfl, k⟩
    · rw [if_neg n0, if_pos e1] at k
      exact sp_kindOf (by decide) hM1.1 ok.1 q1 hf2 ⟨_, rfl, k⟩
    · rw [if_pos e0] at k; exact ⟨by omega, _, rfl, k⟩
  · rw [if_pos e] at k; exact ⟨_, rfl, k⟩
theorem sp_cloops {a : Int} {K : Int → km_V → Prop} (ha : kR a) (hC : kC V R ps hs) (ok : kOk R ps hs) (k : K (qLoops R a) V) : kCI xs Lx (d + 2) 107 2 [.ref 0, kI a] V K := by
  obtain ⟨⟨h1, h2, h3, h4, h5⟩, ⟨hE, -⟩, -⟩ := id hC
  have o1 := ok.1.1
  have o2 := ok.1.2.1
  have pw := pow_256 o2
  have p1 : 1 ≤ 2 ^ rwn R := Nat.one_le_two_pow
  unfold qLoops at k
  refine b107_0 ?_
  rw [h1, h2, tn, Int.one_mul]
  have no : ¬ (R.1.length ≠ 0 ∧ 0 ≤ a ∧ a < ((2 ^ rwn R : Nat) : Int)) → ∃ v : Int, some (kI (-1)) = some (kI v) ∧ K v V := fun h => ⟨_, rfl, by rw [if_neg h] at k; exact k⟩
  refine ⟨by omega, fun h => no (by omega), fun h => ⟨ha, fun h => no (by omega), fun h0 => ⟨by omega, ha, by omega, fun h' => ?_, fun h => no (by omega)⟩⟩⟩
  rw [if_pos ⟨by omega, h0, by omega⟩] at k
  obtain ⟨s, rfl⟩ : ∃ s : Nat, a = (s : Int) := ⟨Int.toNat a, by omega⟩
  exact sp_loopsOf (by decide) (by decide) hC.1 ok.1 hE (by omega) ⟨_, rfl, k⟩
theorem sp_mloops {a : Int} {K : Int → km_V → Prop} (ha : kR a) (hM : kM V R ps hs) (ok : kOk R ps hs) (k : ∀ W, kM W R ps hs → mFr V W → K (qLoops R a) W) : kCI xs Lx (d + 2) 195 2 [.ref 299, kI a] V K := by
  obtain ⟨⟨h1, h2, h3, h4, h5⟩, -⟩ := id hM
  have o1 := ok.1.1
  have o2 := ok.1.2.1
  have pw := pow_256 o2
  have p1 : 1 ≤ 2 ^ rwn R := Nat.one_le_two_pow
  refine b195_0 ?_
  simp only [show Int.toNat 0 = 0 from rfl, show Int.toNat 1 = 1 from rfl]
  rw [h1, h2, tn, Int.one_mul]
  simp only [kin_eq]
  have no : ¬ (R.1.length ≠ 0 ∧ 0 ≤ a ∧ a < ((2 ^ rwn R : Nat) : Int)) → ∃ v : Int, some (kI (-1)) = some (kI v) ∧ K v V := fun h => ⟨_, rfl, by
    have := k V hM (fun _ _ _ => rfl)
    unfold qLoops at this
    rw [if_neg h] at this; exact this⟩
  refine ⟨by omega, fun h => no (by omega), fun h => ⟨by omega, ha, by omega, by split <;> omega, fun h' => ?_, fun h' => no (fun c => by rw [if_pos (by omega)] at h'; omega)⟩⟩
  have c : 0 ≤ a ∧ a < ((2 ^ rwn R : Nat) : Int) := by
    by_cases c : 0 ≤ a ∧ a ≤ ((2 ^ rwn R : Nat) : Int) - 1
    · omega
    · rw [if_neg c] at h'; omega
  refine sp_laysEdges (by decide) (by omega) hM.1 ok.1 (fun W hE f1 => ?_)
  obtain ⟨s, rfl⟩ : ∃ s : Nat, a = (s : Int) := ⟨Int.toNat a, by omega⟩
  have hM1 : kM W R ps hs := hM.fr ok.1 (fun b j hb => f1 b j (by omega))
  refine sp_mloopsOf (by decide) (by omega) hM1.1 ok.1 hE (by omega) (fun W2 f2 => ⟨_, rfl, ?_⟩)
  have := k W2 (hM1.fr ok.1 (fun b j hb => f2 b j (by omega))) (fun b j hb => by rw [f2 _ _ (by omega), f1 _ _ (by omega)])
  unfold qLoops at this
  rw [if_pos ⟨by omega, c.1, c.2⟩] at this
  exact this
end ASK

/-! the moves of the model -/
def kM (V : km_V) (R : Rw) (ps : List Rw) (hs : Hs) : Prop := kRf (V 307) R ∧ kPm V ps ∧ kHm V hs
def mFr (V W : km_V) : Prop := ∀ b j, (b < 299 ∨ b = 300 ∨ b = 306 ∨ b = 299 ∧ (j = 2 ∨ j = 16)) → W b j = V b j
def kOk (R : Rw) (ps : List Rw) (hs : Hs) : Prop := rwOk R ∧ rwOks ps ∧ hOk hs
theorem kM.fr {V W : km_V} {R : Rw} {ps : List Rw} {hs : Hs} (h : kM V R ps hs) (ok : rwOk R) (hf : ∀ b j, (b = 307 ∨ b = 323 ∨ b = 324 ∨ b = 325 ∨ b = 299 ∧ (j = 38 ∨ j = 39)) → W b j = V b j) : kM W R ps hs :=
  ⟨h.1.fr ok (fun j _ => hf _ _ (by omega)), h.2.1.fr (hf _ _ (by omega)) (hf _ _ (by omega)) (fun j => hf _ _ (by omega)), h.2.2.fr (fun j => hf _ _ (by omega)) (fun j => hf _ _ (by omega))⟩
theorem kM.mk2 {V W : km_V} {R : Rw} {ps : List Rw} {hs : Hs} (h1 : kRf (W 307) R) (h2 : kPm W ps) (h3 : kHm V hs) (hf : ∀ b j, (b = 324 ∨ b = 325) → W b j = V b j) : kM W R ps hs :=
  ⟨h1, h2, h3.fr (fun j => hf _ _ (by omega)) (fun j => hf _ _ (by omega))⟩
theorem rwTurnP_comp {a b c : Nat} (h : ∀ i, a / 2 ^ i % 2 + b / 2 ^ i % 2 = c / 2 ^ i % 2) (x : Nat) : rwTurnP a (rwTurnP b x) = rwTurnP c x := by
  unfold rwTurnP
  have hh := h (x / 2)
  have x2 : ∀ u, u < 2 → (x ^^^ u) / 2 = x / 2 := by
    intro u hu
    rw [Nat.xor_div_two]
    have : u / 2 = 0 := by omega
    rw [this, Nat.xor_zero]
  rw [x2 _ (by omega), Nat.xor_assoc]
  congr 1
  rw [← hh]
  have : ∀ u, u < 2 → ∀ v, v < 2 → u + v < 2 → v ^^^ u = u + v := by decide
  exact this _ (by omega) _ (by omega) (by omega)
theorem rwTurn_comp {a b c : Nat} (h : ∀ i, a / 2 ^ i % 2 + b / 2 ^ i % 2 = c / 2 ^ i % 2) (R : Rw) : rwTurn a (rwTurn b R) = rwTurn c R := by
  refine Prod.ext ?_ ?_
  · show ((R.1.map (fun l => l.map (rwTurnP b))).map (fun l => l.map (rwTurnP a))) = R.1.map (fun l => l.map (rwTurnP c))
    rw [List.map_map]
    refine List.map_congr_left (fun l _ => ?_)
    show (l.map (rwTurnP b)).map (rwTurnP a) = l.map (rwTurnP c)
    rw [List.map_map]
    exact List.map_congr_left (fun x _ => rwTurnP_comp h x)
  · show (List.range (rwn (rwTurn b R))).map _ = (List.range (rwn R)).map _
    rw [rwTurn_n]
    refine List.map_congr_left (fun q hq => ?_)
    have e : (rwTurn b R).2.getD q 0 = if b / 2 ^ q % 2 = 1 then - R.2.getD q 0 else R.2.getD q 0 := gd_rmap (List.mem_range.mp hq)
    have hh := h q
    rw [e]
    by_cases z : a / 2 ^ q % 2 = 1
    · rw [if_pos z, if_neg (by omega), if_pos (by omega)]
    · rw [if_neg z]
      by_cases z2 : b / 2 ^ q % 2 = 1
      · rw [if_pos z2, if_pos (by omega)]
      · rw [if_neg z2, if_neg (by omega)]
theorem all_bit (c i : Nat) : (2 ^ c - 1) / 2 ^ i % 2 = if i < c then 1 else 0 := by
  have h := Nat.testBit_two_pow_sub_one c i
  rw [Nat.testBit_eq_decide_div_mod_eq] at h
  by_cases e : i < c
  · rw [if_pos e]
    simp [e] at h
    exact h
  · rw [if_neg e]
    simp [e] at h
    exact h
theorem rwTurn_all (c : Nat) (R : Rw) : rwTurn (2 ^ c) (rwTurn (2 ^ c - 1) R) = rwTurn (2 ^ (c + 1) - 1) R := by
  refine rwTurn_comp (fun i => ?_) R
  rw [bit_pow, all_bit, all_bit]
  by_cases e : i = c
  · subst e; rw [if_pos rfl, if_neg (by omega), if_pos (by omega)]
  · by_cases e2 : i < c
    · rw [if_neg e, if_pos e2, if_pos (by omega)]
    · rw [if_neg e, if_neg e2, if_neg (by omega)]
theorem rwTurn_0 {R : Rw} : rwTurn 0 R = R := by
  refine Prod.ext ?_ ?_
  · show R.1.map (fun l => l.map (rwTurnP 0)) = R.1
    have : ∀ l : List Nat, l.map (rwTurnP 0) = l := by
      intro l
      have e : rwTurnP 0 = id := by
        funext x
        unfold rwTurnP
        rw [Nat.zero_div, Nat.zero_mod, Nat.xor_zero]; rfl
      rw [e, List.map_id]
    simp only [this]
    exact List.map_id _
  · refine gd_ext 0 (by show ((List.range (rwn R)).map _).length = _; rw [List.length_map, List.length_range]; rfl) (fun i hi => ?_)
    have hi2 : i < rwn R := by
      have : (rwTurn 0 R).2.length = rwn R := rwTurn_n 0 R
      omega
    have e : (rwTurn 0 R).2.getD i 0 = if 0 / 2 ^ i % 2 = 1 then - R.2.getD i 0 else R.2.getD i 0 := gd_rmap hi2
    rw [e, if_neg (by rw [Nat.zero_div]; omega)]
section MCM
variable {xs : Nat → Int32} {Lx d : Nat} {V : km_V} {R S : Rw} {hs : Hs} {ps : List Rw}
theorem sp_mout {a : Int} {K : Int → km_V → Prop} (ha : kR a) (hM : kM V R ps hs) (ok : kOk R ps hs) (k1 : ∀ f : Nat, a = (f : Int) → f < (rwFc R).length → (rwK R f = 1 ∨ rwK R f = 2) → ∀ W, kM W (rwOut R f) (rwPush R ps) hs → mFr V W → K (rwn (rwOut R f) : Int) W) (k0 : (¬ ∃ f : Nat, a = (f : Int) ∧ f < (rwFc R).length ∧ (rwK R f = 1 ∨ rwK R f = 2)) → ∀ W, kM W R ps hs → mFr V W → K (-1) W) : kCI xs Lx (d + 3) 181 3 [.ref 299, kI a] V K := by
  obtain ⟨m1, m2, m3⟩ := id hM
  have fl := rwFc_len R
  have vl := rwV_len ok.1
  have oo := ok.1.2.1
  have ol := ok.1.len
  refine b181_0 (sp_laysFaces (by decide) (by omega) m1 ok.1 (fun W1 q1 f1 => ?_))
  have hM1 : kM W1 R ps hs := hM.fr ok.1 (fun b j hb => f1 b j (by omega))
  have fr1 : mFr V W1 := fun b j hb => f1 b j (by omega)
  simp only [kin_eq]
  refine ⟨ha, by omega, by split <;> omega, fun h => ?_, fun h => ⟨_, rfl, k0 (fun ⟨f, e1, e2, _⟩ => by rw [if_pos (by omega)] at h; omega) W1 hM1 fr1⟩⟩
  have c : 0 ≤ a ∧ a < ((rwFc R).length : Int) := by
    by_cases c : 0 ≤ a ∧ a ≤ ((rwFc R).length : Int) - 1
    · omega
    · rw [if_neg c] at h; omega
  obtain ⟨f, rfl⟩ : ∃ f : Nat, a = (f : Int) := ⟨Int.toNat a, by omega⟩
  have hf : f < (rwFc R).length := by omega
  have k4 := rwK_le R f
  refine sp_kindOf (by decide) hM1.1 ok.1 q1 hf ?_
  have go : (rwK R f = 1 ∨ rwK R f = 2) → kCV xs Lx (d + 2) 176 3 [.ref 299] W1 (fun W3 => kCV xs Lx (d + 2) 170 5 [.ref 299, .ref 307, kI (f : Int)] W3 (fun W4 => ∃ v : Int, some (kI (W4 307 (Int.toNat 1))) = some (kI v) ∧ K v W4)) := by
    intro hk
    refine sp_marks (d := d + 2) hM1.1 ok.1 hM1.2.1 ok.2.1 (fun W3 p3 f3 => ?_)
    refine sp_goesOut (by decide) (by omega) (hM1.1.fr ok.1 (fun j _ => f3 _ _ (by omega))) ok.1 (q1.fr (f3 _ _ (by omega)) (f3 _ _ (by omega)) (fun b j hb => f3 _ _ (by omega))) hf hk (fun W4 r4 f4 => ⟨_, rfl, ?_⟩)
    have e : W4 307 (Int.toNat 1) = (rwn (rwOut R f) : Int) := r4.2.1
    rw [e]
    exact k1 f rfl hf hk W4 (kM.mk2 (V := W1) r4 (p3.fr (f4 _ _ (by omega)) (f4 _ _ (by omega)) (fun j => f4 _ _ (by omega))) hM1.2.2 (fun b j hb => by rw [f4 _ _ (by omega), f3 _ _ (by omega)])) (fun b j hb => by rw [f4 _ _ (by omega), f3 _ _ (by omega)]; exact fr1 b j hb)
  refine ⟨by omega, fun e => go (by omega), fun e => ⟨fun e2 => go (by omega), fun e2 => ⟨_, rfl, k0 (fun ⟨g, e3, _, e4⟩ => ?_) W1 hM1 fr1⟩⟩⟩
  have : g = f := by omega
  subst this
  omega
theorem sp_mslide {a : Int} {K : Int → km_V → Prop} (ha : kR a) (hM : kM V R ps hs) (ok : kOk R ps hs) (k1 : ∀ f : Nat, a = (f : Int) → f < (rwFc R).length → rwK R f = 3 → ∀ W, kM W (rwSlide R f) (rwPush R ps) hs → mFr V W → K 1 W) (k0 : (¬ ∃ f : Nat, a = (f : Int) ∧ f < (rwFc R).length ∧ rwK R f = 3) → ∀ W, kM W R ps hs → mFr V W → K 0 W) : kCI xs Lx (d + 3) 182 2 [.ref 299, kI a] V K := by
  obtain ⟨m1, m2, m3⟩ := id hM
  have fl := rwFc_len R
  have vl := rwV_len ok.1
  have oo := ok.1.2.1
  have ol := ok.1.len
  refine b182_0 (sp_laysFaces (by decide) (by omega) m1 ok.1 (fun W1 q1 f1 => ?_))
  have hM1 : kM W1 R ps hs := hM.fr ok.1 (fun b j hb => f1 b j (by omega))
  have fr1 : mFr V W1 := fun b j hb => f1 b j (by omega)
  simp only [kin_eq]
  refine ⟨ha, by omega, by split <;> omega, fun h => ⟨_, rfl, k0 (fun ⟨f, e1, e2, _⟩ => by rw [if_pos (by omega)] at h; omega) W1 hM1 fr1⟩, fun h => ?_⟩
  have c : 0 ≤ a ∧ a < ((rwFc R).length : Int) := by
    by_cases c : 0 ≤ a ∧ a ≤ ((rwFc R).length : Int) - 1
    · omega
    · rw [if_neg c] at h; omega
  obtain ⟨f, rfl⟩ : ∃ f : Nat, a = (f : Int) := ⟨Int.toNat a, by omega⟩
  have hf : f < (rwFc R).length := by omega
  have k4 := rwK_le R f
  refine sp_kindOf (by decide) hM1.1 ok.1 q1 hf ⟨by omega, fun e => ?_, fun e => ⟨_, rfl, k0 (fun ⟨g, e3, _, e4⟩ => ?_) W1 hM1 fr1⟩⟩
  · have hk : rwK R f = 3 := by omega
    refine sp_marks (d := d + 2) hM1.1 ok.1 hM1.2.1 ok.2.1 (fun W3 p3 f3 => ?_)
    refine sp_slides (by decide) (by omega) (hM1.1.fr ok.1 (fun j _ => f3 _ _ (by omega))) ok.1 (q1.fr (f3 _ _ (by omega)) (f3 _ _ (by omega)) (fun b j hb => f3 _ _ (by omega))) hf hk (fun W4 r4 f4 => ⟨_, rfl, ?_⟩)
    exact k1 f rfl hf hk W4 (kM.mk2 (V := W1) r4 (p3.fr (f4 _ _ (by omega)) (f4 _ _ (by omega)) (fun j => f4 _ _ (by omega))) hM1.2.2 (fun b j hb => by rw [f4 _ _ (by omega), f3 _ _ (by omega)])) (fun b j hb => by rw [f4 _ _ (by omega), f3 _ _ (by omega)]; exact fr1 b j hb)
  · have : g = f := by omega
    subst this
    omega
theorem sp_mloosen {K : Int → km_V → Prop} (hM : kM V R ps hs) (ok : kOk R ps hs) (k1 : rwn R ≠ rwn (rwShed 8 R) → ∀ W, kM W (rwShed 8 R) (rwPush R ps) hs → mFr V W → K ((rwn R : Int) - (rwn (rwShed 8 R) : Int)) W) (k0 : rwn R = rwn (rwShed 8 R) → ∀ W, kM W R ps hs → mFr V W → K 0 W) : kCI xs Lx (d + 5) 184 2 [.ref 299] V K := by
  obtain ⟨m1, m2, m3⟩ := id hM
  have oo := ok.1.2.1
  have oks := (rwShed_ok 8 R ok.1).1
  have oo2 := (rwShed_ok 8 R ok.1).2
  refine b184_0 (sp_copies (d := d + 4) (by decide) (by decide) (by decide) (fun W1 c1 f1 => ?_))
  refine sp_loosens (by decide) (by omega) (m1.fr ok.1 (fun j hj => c1 j hj)) ok.1 (fun W2 r2 f2 => ?_)
  have hM2 : kM W2 R ps hs := hM.fr ok.1 (fun b j hb => by rw [f2 _ _ (by omega), f1 _ _ (by omega)])
  have fr2 : mFr V W2 := fun b j hb => by rw [f2 _ _ (by omega), f1 _ _ (by omega)]
  refine ⟨by omega, fun e => ?_, fun e => ⟨_, rfl, k0 (by omega) W2 hM2 fr2⟩⟩
  refine sp_marks (d := d + 4) hM2.1 ok.1 hM2.2.1 ok.2.1 (fun W3 p3 f3 => ?_)
  refine sp_copies (d := d + 4) (by decide) (by decide) (by decide) (fun W4 c4 f4 => ⟨_, rfl, ?_⟩)
  exact k1 (by omega) W4 (kM.mk2 (V := W2) (r2.fr oks (fun j hj => by rw [c4 j hj, f3 _ _ (by omega)])) (p3.fr (f4 _ _ (by omega)) (f4 _ _ (by omega)) (fun j => f4 _ _ (by omega))) hM2.2.2 (fun b j hb => by rw [f4 _ _ (by omega), f3 _ _ (by omega)])) (fun b j hb => by rw [f4 _ _ (by omega), f3 _ _ (by omega)]; exact fr2 b j hb)
theorem sp_mmirror {K : Int → km_V → Prop} (hM : kM V R ps hs) (ok : kOk R ps hs) (k1 : R.1.length ≠ 0 → ∀ W, kM W (rwTurn (2 ^ rwn R - 1) R) (rwPush R ps) hs → mFr V W → K 1 W) (k0 : R.1.length = 0 → K 0 V) : kCI xs Lx (d + 1) 185 2 [.ref 299] V K := by
  obtain ⟨m1, m2, m3⟩ := id hM
  have o1 := ok.1.1
  have oo := ok.1.2.1
  have e0 : V 307 (Int.toNat 0) = (R.1.length : Int) := m1.1
  refine b185_0 ?_
  rw [e0]
  refine ⟨by omega, fun e => ?_, fun e => ⟨_, rfl, k0 (by omega)⟩⟩
  refine sp_marks m1 ok.1 m2 ok.2.1 (fun W1 p1 f1 => ?_)
  refine kloop (rwn R) (fun c W => kRf (W 307) (rwTurn (2 ^ c - 1) R) ∧ (∀ b j, b ≠ 307 → W b j = W1 b j)) (fun c W => kGo xs Lx (d + 1) 185 17 [some (.ref 299), some (kI (c : Int))] [] W _) (fun W ⟨q1, q2⟩ => ?_) (fun c W hc ⟨q1, q2⟩ ih => ?_) 0 W1 (Nat.zero_le _) ⟨by rw [show 2 ^ 0 - 1 = 0 from rfl, rwTurn_0]; exact m1.fr ok.1 (fun j _ => f1 _ _ (by omega)), fun _ _ _ => rfl⟩
  · have e1 : W 307 (Int.toNat 1) = (rwn (rwTurn (2 ^ rwn R - 1) R) : Int) := q1.2.1
    rw [rwTurn_n] at e1
    refine b185_17 ?_
    rw [e1]
    exact ⟨by omega, by omega, fun _ => ⟨_, rfl, k1 (by omega) W (kM.mk2 (V := V) q1 (p1.fr (q2 _ _ (by omega)) (q2 _ _ (by omega)) (fun j => q2 _ _ (by omega))) m3 (fun b j hb => by rw [q2 _ _ (by omega), f1 _ _ (by omega)])) (fun b j hb => by rw [q2 _ _ (by omega), f1 _ _ (by omega)])⟩, fun h => by omega⟩
  · have e1 : W 307 (Int.toNat 1) = (rwn (rwTurn (2 ^ c - 1) R) : Int) := q1.2.1
    rw [rwTurn_n] at e1
    refine b185_17 ?_
    rw [e1]
    refine ⟨by omega, by omega, fun h => by omega, fun _ => ?_⟩
    refine sp_switchesAt (by decide) q1 (rwTurn_ok ok.1) (by rw [rwTurn_n]; exact hc) (fun W2 r2 f2 => ?_)
    rw [rwTurn_all] at r2
    exact ih W2 ⟨r2, fun b j hb => by rw [f2 b j hb]; exact q2 b j hb⟩
theorem sp_mswitches {a : Int} {K : Int → km_V → Prop} (ha : kR a) (hM : kM V R ps hs) (ok : kOk R ps hs) (k1 : ∀ c : Nat, a = (c : Int) → c < rwn R → ∀ W, kM W (rwTurn (2 ^ c) R) (rwPush R ps) hs → mFr V W → K 1 W) (k0 : ¬ (0 ≤ a ∧ a < (rwn R : Int)) → K 0 V) : kCI xs Lx (d + 1) 187 2 [.ref 299, kI a] V K := by
  obtain ⟨m1, m2, m3⟩ := id hM
  have oo := ok.1.2.1
  have e1 : V 307 (Int.toNat 1) = (rwn R : Int) := m1.2.1
  refine b187_0 ?_
  rw [e1]
  simp only [kin_eq]
  refine ⟨ha, by omega, by split <;> omega, fun h => ?_, fun h => ⟨_, rfl, k0 (fun c => by rw [if_pos (by omega)] at h; omega)⟩⟩
  have c : 0 ≤ a ∧ a < (rwn R : Int) := by
    by_cases c : 0 ≤ a ∧ a ≤ (rwn R : Int) - 1
    · omega
    · rw [if_neg c] at h; omega
  obtain ⟨i, rfl⟩ : ∃ i : Nat, a = (i : Int) := ⟨Int.toNat a, by omega⟩
  refine sp_marks m1 ok.1 m2 ok.2.1 (fun W1 p1 f1 => ?_)
  refine sp_switchesAt (by decide) (m1.fr ok.1 (fun j _ => f1 _ _ (by omega))) ok.1 (by omega) (fun W2 r2 f2 => ⟨_, rfl, ?_⟩)
  exact k1 i rfl (by omega) W2 (kM.mk2 (V := V) r2 (p1.fr (f2 _ _ (by omega)) (f2 _ _ (by omega)) (fun j => f2 _ _ (by omega))) m3 (fun b j hb => by rw [f2 _ _ (by omega), f1 _ _ (by omega)])) (fun b j hb => by rw [f2 _ _ (by omega), f1 _ _ (by omega)])
theorem sp_msum {a : Int} {K : Int → km_V → Prop} (ha : kR a) (hM : kM V R ps hs) (ok : kOk R ps hs) (k1 : ∀ S, hget hs a = some S → rwCan R S → ∀ W, kM W (rwTake R S) (rwPush R ps) hs → mFr V W → K 1 W) (k0 : (¬ ∃ S, hget hs a = some S ∧ rwCan R S) → ∀ W, kM W R ps hs → mFr V W → K 0 W) : kCI xs Lx (d + 2) 188 6 [.ref 299, kI a] V K := by
  obtain ⟨m1, m2, m3⟩ := id hM
  have o1 := ok.1.1
  have o2 := ok.1.2.1
  refine b188_0 (sp_hasHeld ha m3 ok.2.2 (fun S e W q1 q2 => ⟨by omega, fun h => by omega, fun _ => ?_⟩) (fun e => ⟨by omega, fun _ => ⟨_, rfl, k0 (fun ⟨S, e2, _⟩ => by rw [e] at e2; exact absurd e2 (by simp)) V hM (fun _ _ _ => rfl)⟩, fun h => absurd rfl h⟩))
  have okS := hget_ok ok.2.2 e
  have p1 := okS.1
  have p2 := okS.2.1
  have hMW : kM W R ps hs := hM.fr ok.1 (fun b j hb => q2 _ _ (by omega))
  have frW : mFr V W := fun b j hb => q2 _ _ (by omega)
  have no : ¬ rwCan R S → ∃ v : Int, some (kI 0) = some (kI v) ∧ K v W := fun nc => ⟨_, rfl, k0 (fun ⟨S', e2, c2⟩ => by rw [e] at e2; cases e2; exact nc c2) W hMW frW⟩
  have e0 : W 307 (Int.toNat 0) = (R.1.length : Int) := hMW.1.1
  have e1 : W 307 (Int.toNat 1) = (rwn R : Int) := hMW.1.2.1
  have g0 : W 326 (Int.toNat 0) = (S.1.length : Int) := q1.1
  have g1 : W 326 (Int.toNat 1) = (rwn S : Int) := q1.2.1
  rw [e0, g0, e1, g1]
  refine ⟨by omega, fun h => no (fun c => by unfold rwCan at c; omega), fun h => ⟨by omega, fun h2 => ⟨by omega, fun h3 => no (fun c => by unfold rwCan at c; omega), fun h3 => ⟨by omega, fun h4 => ?_, fun h4 => no (fun c => by unfold rwCan at c; omega)⟩⟩, fun h2 => no (fun c => by unfold rwCan at c; omega)⟩⟩
  have c : rwCan R S := by unfold rwCan; omega
  refine sp_marks (d := d + 1) hMW.1 ok.1 hMW.2.1 ok.2.1 (fun W2 p2 f2 => ?_)
  have e2 : W2 307 (Int.toNat 1) = (rwn R : Int) := (f2 _ _ (by omega)).trans e1
  intro z3 hz3
  rw [e2] at hz3
  subst hz3
  exact mt_take (hMW.1.fr ok.1 (fun j _ => f2 _ _ (by omega))) (q1.fr okS (fun j _ => f2 _ _ (by omega))) ok.1 okS c (fun W4 r4 f4 => k1 S e c W4 (kM.mk2 (V := W) r4 (p2.fr (f4 _ _ (by omega)) (f4 _ _ (by omega)) (fun j => f4 _ _ (by omega))) hMW.2.2 (fun b j hb => by rw [f4 _ _ (by omega), f2 _ _ (by omega)])) (fun b j hb => by rw [f4 _ _ (by omega), f2 _ _ (by omega)]; exact frW b j hb))
end MCM

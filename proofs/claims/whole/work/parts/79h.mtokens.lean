/-! the tokens that the model lays -/
def kTt (V : km_V) (tp : List Int) : Prop := V 299 4 = (tp.length : Int) ∧ ∀ j, j < tp.length → V 301 j % 256 = tp.getD j 0 % 256
def keyV : Nat → Int
  | 0 => ((18 * 27 + 9) * 27 + 14) * 27 + 7
  | 1 => ((15 * 27 + 22) * 27 + 5) * 27 + 18
  | 2 => (((21 * 27 + 14) * 27 + 4) * 27 + 5) * 27 + 18
  | _ => (((2 * 27 + 18) * 27 + 1) * 27 + 9) * 27 + 4
def kKy (V : km_V) : Prop := ∀ k, k < 4 → V 306 k = keyV k
def nameV (tp : List Int) (q : Nat) : Nat → Int
  | 0 => 0
  | n + 1 => 27 * nameV tp q n + (bs tp (q + n) - 97 + 1)
def wordM (tp : List Int) (q n : Nat) : Int := if keyV 3 = nameV tp q n then 23 else if keyV 2 = nameV tp q n then 22 else if keyV 1 = nameV tp q n then 21 else if keyV 0 = nameV tp q n then 20 else 1
def mtK (tp : List Int) (q : Nat) : Int := if bs tp q = -1 then 0 else if isL (bs tp q) then (if runN isL tp q ≤ 8 then wordM tp q (runN isL tp q) else 3) else if isD (bs tp q) then (if runN isD tp q ≤ 4 then 2 else 3) else if bs tp q = 59 then 4 else if bs tp q = 43 then 5 else if bs tp q = 45 then 6 else 3
def tkP (tp : List Int) : Nat → Nat
  | 0 => 0
  | t + 1 => tkE tp (tkQ tp (tkP tp t))
def kTk (V : km_V) (tp : List Int) (T : Nat) : Prop := V 299 10 = (T : Int) ∧ ∀ t, t < T → V 302 t = mtK tp (tkQ tp (tkP tp t)) ∧ V 303 t = (tkQ tp (tkP tp t) : Int) ∧ (mtK tp (tkQ tp (tkP tp t)) = 2 → V 304 t = tkV tp (tkQ tp (tkP tp t)))
theorem isL_r {c : Int} : isL c = true ↔ 97 ≤ c ∧ c ≤ 122 := by
  rw [isL_1]; unfold klet
  by_cases h : 97 ≤ c ∧ c ≤ 122
  · rw [if_pos h]; exact ⟨fun _ => h, fun _ => by omega⟩
  · rw [if_neg h]; exact ⟨fun z => absurd rfl z, fun z => absurd z h⟩
theorem isD_r {c : Int} : isD c = true ↔ 48 ≤ c ∧ c ≤ 57 := by
  rw [isD_1]; unfold kdig
  by_cases h : 48 ≤ c ∧ c ≤ 57
  · rw [if_pos h]; exact ⟨fun _ => h, fun _ => by omega⟩
  · rw [if_neg h]; exact ⟨fun z => absurd rfl z, fun z => absurd z h⟩
theorem isB_r {c : Int} : isB c = true ↔ c = 9 ∨ c = 10 ∨ c = 13 ∨ c = 32 := by
  rw [isB_1]; unfold kblk
  by_cases h : c = 9 ∨ c = 10 ∨ c = 13 ∨ c = 32
  · rw [if_pos h]; exact ⟨fun _ => h, fun _ => by omega⟩
  · rw [if_neg h]; exact ⟨fun z => absurd rfl z, fun z => absurd z h⟩
theorem nameV_b {tp : List Int} {q : Nat} : ∀ n, (∀ i, i < n → isL (bs tp (q + i)) = true) → 0 ≤ nameV tp q n ∧ nameV tp q n < ((27 ^ n : Nat) : Int) := by
  intro n
  induction n with
  | zero => intro _; exact ⟨Int.le_refl _, by show (0 : Int) < ((27 ^ 0 : Nat) : Int); decide⟩
  | succ n ih =>
    intro h
    have a := ih (fun i hi => h i (by omega))
    have b := isL_r.mp (h n (by omega))
    have e : nameV tp q (n + 1) = 27 * nameV tp q n + (bs tp (q + n) - 97 + 1) := rfl
    have p : (27 ^ (n + 1) : Nat) = 27 ^ n * 27 := Nat.pow_succ _ _
    rw [e, p]
    omega
theorem pow27 {n : Nat} (h : n ≤ 8) : 27 ^ n ≤ 282429536481 := by
  have := Nat.pow_le_pow_right (n := 27) (by omega) h
  exact this
section MTK
variable {xs : Nat → Int32} {Lx d : Nat} {V : km_V} {tp : List Int}
theorem kmby_bs (hT : kTt V tp) (hl : tp.length ≤ 2000) {i : Nat} (hi : i ≤ 4000) : kmby V (i : Int) = (if i < tp.length then bs tp i else 0) ∧ kmbyC V (i : Int) := by
  unfold kmby kmbyC bs
  rw [hT.1, tn]
  refine ⟨?_, by omega, by omega⟩
  by_cases h : i < tp.length
  · rw [if_pos (by omega), if_pos h, if_pos h, hT.2 i h]
  · rw [if_neg (by omega), if_neg h]
theorem u10 (W : km_V) (a i : Nat) (y : Int) (h : 302 ≤ a ∧ a ≤ 305) : up W a i y 299 10 = W 299 10 := up_ne (by omega)
theorem kTk.lay {T : Nat} {k x v nm : Int} (h : kTk V tp T) (hk : k = mtK tp (tkQ tp (tkP tp T))) (hx : x = (tkQ tp (tkP tp T) : Int)) (hv : mtK tp (tkQ tp (tkP tp T)) = 2 → v = tkV tp (tkQ tp (tkP tp T))) : kTk (up (up (up (up (up V 302 T k) 303 T x) 304 T v) 305 T nm) 299 10 ((T : Int) + 1)) tp (T + 1) := by
  refine ⟨by rw [up_at]; omega, fun t ht => ?_⟩
  by_cases z : t = T
  · subst z
    refine ⟨?_, ?_, fun e => ?_⟩
    · rw [up_ne (by omega), up_ne (by omega), up_ne (by omega), up_ne (by omega), up_at]; exact hk
    · rw [up_ne (by omega), up_ne (by omega), up_ne (by omega), up_at]; exact hx
    · rw [up_ne (by omega), up_ne (by omega), up_at]; exact hv e
  · obtain ⟨a, b, c⟩ := h.2 t (by omega)
    refine ⟨?_, ?_, fun e => ?_⟩
    · rw [up_ne (by omega), up_ne (by omega), up_ne (by omega), up_ne (by omega), up_ne (by omega)]; exact a
    · rw [up_ne (by omega), up_ne (by omega), up_ne (by omega), up_ne (by omega), up_ne (by omega)]; exact b
    · rw [up_ne (by omega), up_ne (by omega), up_ne (by omega), up_ne (by omega), up_ne (by omega)]; exact c e
theorem sp_appends {x c : Int} {K : Int → km_V → Prop} (hc : 97 ≤ c ∧ c ≤ 122) (k : K (27 * x + (c - 97 + 1)) V) : kCJ xs Lx (d + 0) 131 3 [kJ x, kI c] V K :=
  b131_0 ⟨by omega, fun _ => ⟨by omega, _, rfl, k⟩, fun h => by omega⟩
/-- what is left to lay, from a place on -/
theorem mt_cut {Q : Option Value → km_V → Prop} (hl : tp.length ≤ 2000) (k : ∀ W T, 1 ≤ T → T ≤ 401 → kTk W tp T → (∀ t, t + 1 < T → mtK tp (tkQ tp (tkP tp t)) ≠ 0) → (T = 401 ∨ mtK tp (tkQ tp (tkP tp (T - 1))) = 0) → (∀ b j, ¬ (b = 299 ∧ j = 10 ∨ 302 ≤ b ∧ b ≤ 305) → W b j = V b j) → Q none W) : ∀ (r : Nat) (T j : Nat) (W : km_V), tkP tp T + j + r = tp.length → (∀ i, i < j → isB (bs tp (tkP tp T + i)) = true) → T ≤ 401 → kTk W tp T → (∀ t, t < T → mtK tp (tkQ tp (tkP tp t)) ≠ 0) → kTt W tp → kKy W → (∀ b j, ¬ (b = 299 ∧ j = 10 ∨ 302 ≤ b ∧ b ≤ 305) → W b j = V b j) → kGo xs Lx (d + 2) 134 7 [some (.ref 299), some (kI ((tkP tp T + j : Nat) : Int)), none, none, none, none, none, none] [] W Q := by
  intro r
  induction r using Nat.strongRecOn with
  | ind r ih =>
    intro T j W hr hb hT hK hn hx hky f
    have e10 : W 299 10 = (T : Int) := hK.1
    obtain ⟨c1, c2⟩ := kmby_bs hx hl (i := tkP tp T + j) (by omega)
    have br := bs_r tp (tkP tp T + j)
    refine b134_7 ?_
    simp only [u10 _ 302 _ _ ⟨by omega, by omega⟩, u10 _ 303 _ _ ⟨by omega, by omega⟩, u10 _ 304 _ _ ⟨by omega, by omega⟩, u10 _ 305 _ _ ⟨by omega, by omega⟩]
    rw [e10]
    simp only [tn]
    refine ⟨by omega, fun h => ?_, fun h => ⟨c2, by omega, by rw [hx.1]; omega, fun hlt => ?_, fun hge => ?_⟩⟩
    · have h401 : T = 401 := by omega
      subst h401
      exact k W 401 (by omega) (by omega) hK (fun t ht => hn t (by omega)) (Or.inl rfl) f
    · rw [hx.1] at hlt
      have hlt : tkP tp T + j < tp.length := by omega
      rw [if_pos hlt] at c1
      have skip : isB (bs tp (tkP tp T + j)) = true → kGo xs Lx (d + 2) 134 67 [some (.ref 299), some (kI ((tkP tp T + j : Nat) : Int)), none, none, none, none, none, none] [] W Q := by
        intro hB
        have := ih (r - 1) (by omega) T (j + 1) W (by omega) (fun i hi => by
          by_cases z : i = j
          · subst z; exact hB
          · exact hb i (by omega)) hT hK hn hx hky f
        exact b134_67 (b134_283 this)
      -- a token laid, and on
      have lay : ∀ (kk v nm : Int) (e : Nat), isB (bs tp (tkP tp T + j)) = false → (∀ q, tkQ tp (tkP tp T) = q → kk = mtK tp q ∧ (mtK tp q = 2 → v = tkV tp q) ∧ tkE tp q = e) → mtK tp (tkP tp T + j) ≠ 0 → tkP tp T + j < e → e ≤ tp.length → kGo xs Lx (d + 2) 134 283 [some (.ref 299), some (kI (e : Int)), none, none, none, none, none, none] [] (up (up (up (up (up W 302 T kk) 303 T ((tkP tp T + j : Nat) : Int)) 304 T v) 305 T nm) 299 10 ((T : Int) + 1)) Q := by
        intro kk v nm e hB hh h0 he he2
        have hQ : tkQ tp (tkP tp T) = tkP tp T + j := by unfold tkQ; rw [runN_eq (by omega) hb (fun _ => hB)]
        obtain ⟨a1, a2, a3⟩ := hh _ hQ
        have hP : tkP tp (T + 1) = e := by show tkE tp (tkQ tp (tkP tp T)) = e; rw [hQ]; exact a3
        have L := hK.lay (k := kk) (x := ((tkP tp T + j : Nat) : Int)) (v := v) (nm := nm) (by rw [hQ]; exact a1) (by rw [hQ]) (by rw [hQ]; exact a2)
        have := ih (tp.length - e) (by omega) (T + 1) 0 _ (by omega) (fun i hi => by omega) (by omega) L (fun t ht => by
          by_cases z : t = T
          · subst z; rw [hQ]; exact h0
          · exact hn t (by omega)) ⟨by rw [up_ne (by omega), up_ne (by omega), up_ne (by omega), up_ne (by omega), up_ne (by omega)]; exact hx.1, fun i hi => by rw [up_ne (by omega), up_ne (by omega), up_ne (by omega), up_ne (by omega), up_ne (by omega)]; exact hx.2 i hi⟩ (fun i hi => by rw [up_ne (by omega), up_ne (by omega), up_ne (by omega), up_ne (by omega), up_ne (by omega)]; exact hky i hi) (fun b i hb => by rw [up_ne (by omega), up_ne (by omega), up_ne (by omega), up_ne (by omega), up_ne (by omega)]; exact f b i hb)
        rw [hP, Nat.add_zero] at this
        exact b134_283 this
      rw [c1]
      generalize hc : bs tp (tkP tp T + j) = c at *
      have nm1 : c ≠ -1 := by
        have : bs tp (tkP tp T + j) = tp.getD (tkP tp T + j) 0 % 256 := by unfold bs; rw [if_pos hlt]
        omega
      refine ⟨by omega, fun e => skip (isB_r.mpr (by omega)), fun n9 => ⟨fun e => skip (isB_r.mpr (by omega)), fun n10 => ⟨fun e => skip (isB_r.mpr (by omega)), fun n13 => ⟨fun n32 => ?_, fun e => skip (isB_r.mpr (by omega))⟩⟩⟩⟩
      have nB : isB c = false := not_1 (fun z => by have := isB_r.mp z; omega)
      refine ⟨by unfold klet; split <;> omega, fun nl => ⟨by unfold kdig; split <;> omega, fun nd => ?_, fun yd => ?_⟩, fun yl => ?_⟩
      · have a1 : ¬ isL c = true := fun z => isL_1.mp z nl
        have a2 : ¬ isD c = true := fun z => isD_1.mp z nd
        have one : ∀ v : Int, (if c = 59 then 4 else if c = 43 then 5 else if c = 45 then 6 else 3) = v → v ≠ 0 → v ≠ 2 → kGo xs Lx (d + 2) 134 283 [some (.ref 299), some (kI (((tkP tp T + j + 1 : Nat)) : Int)), none, none, none, none, none, none] [] (up (up (up (up (up W 302 T v) 303 T ((tkP tp T + j : Nat) : Int)) 304 T 0) 305 T 0) 299 10 ((T : Int) + 1)) Q := by
          intro v hv v0 v2
          have mk : mtK tp (tkP tp T + j) = v := by unfold mtK; rw [hc, if_neg nm1, if_neg a1, if_neg a2]; exact hv
          refine lay v 0 0 (tkP tp T + j + 1) nB (fun q hq => ?_) (by rw [mk]; exact v0) (by omega) (by omega)
          have hQ : tkQ tp (tkP tp T) = tkP tp T + j := by unfold tkQ; rw [runN_eq (by omega) hb (fun _ => by rw [hc]; exact nB)]
          rw [hQ] at hq
          subst hq
          refine ⟨mk.symm, fun z => absurd (mk.symm.trans z) v2, ?_⟩
          unfold tkE
          rw [hc, if_neg nm1, if_neg a1, if_neg a2]
        exact ⟨fun n59 => ⟨fun n43 => ⟨fun n45 => ⟨by omega, by omega, by omega, by omega, one 3 (by rw [if_neg n59, if_neg n43, if_neg n45]) (by omega) (by omega)⟩, fun e45 => ⟨by omega, by omega, by omega, by omega, one 6 (by rw [if_neg n59, if_neg n43, if_pos e45]) (by omega) (by omega)⟩⟩, fun e43 => ⟨by omega, by omega, by omega, by omega, one 5 (by rw [if_neg n59, if_pos e43]) (by omega) (by omega)⟩⟩, fun e59 => ⟨by omega, by omega, by omega, by omega, one 4 (by rw [if_pos e59]) (by omega) (by omega)⟩⟩
      · have a1 : ¬ isL c = true := fun z => isL_1.mp z nl
        have a2 : isD c = true := isD_1.mpr yd
        have fin : ∀ (n : Nat) (x4 : Int), runN isD tp (tkP tp T + j) = n → 1 ≤ n → tkP tp T + j + n ≤ tp.length → (n ≤ 4 → x4 = dval tp (tkP tp T + j) n) → ∀ kk : Int, kk = (if n ≤ 4 then 2 else 3) → kGo xs Lx (d + 2) 134 283 [some (.ref 299), some (kI ((tkP tp T + j + n : Nat) : Int)), none, none, none, none, none, none] [] (up (up (up (up (up W 302 T kk) 303 T ((tkP tp T + j : Nat) : Int)) 304 T x4) 305 T 0) 299 10 ((T : Int) + 1)) Q := by
          intro n x4 hrn hn1 hle hx4 kk hkk
          have mk : mtK tp (tkP tp T + j) = kk := by unfold mtK; rw [hc, if_neg nm1, if_neg a1, if_pos a2, hrn, hkk]
          refine lay kk x4 0 (tkP tp T + j + n) nB (fun q hq => ?_) (by rw [mk, hkk]; split <;> omega) (by omega) hle
          have hQ : tkQ tp (tkP tp T) = tkP tp T + j := by unfold tkQ; rw [runN_eq (by omega) hb (fun _ => by rw [hc]; exact nB)]
          rw [hQ] at hq
          subst hq
          refine ⟨mk.symm, fun z => ?_, ?_⟩
          · have l4 : n ≤ 4 := by
              by_cases y : n ≤ 4
              · exact y
              · rw [mk, hkk, if_neg y] at z; omega
            unfold tkV
            rw [hrn]; exact hx4 l4
          · unfold tkE
            rw [hc, if_neg nm1, if_neg a1, if_pos a2, hrn]
        have key := kloop0 (tp.length - (tkP tp T + j)) (fun n => (∀ i, i < n → isD (bs tp (tkP tp T + j + i)) = true) → ∀ x4 : Int, (n ≤ 4 → x4 = dval tp (tkP tp T + j) n) → kGo xs Lx (d + 2) 134 207 [some (.ref 299), some (kI ((tkP tp T + j : Nat) : Int)), none, some (kI (n : Int)), some (kI x4), none, none, none] [] W Q) (fun hh x4 hx4 => ?_) (fun n hn2 ihn hh x4 hx4 => ?_) 0 (Nat.zero_le _) (fun i hi => by omega) 0 (fun _ => rfl)
        · exact key
        · obtain ⟨g1, g2⟩ := kmby_bs hx hl (i := tkP tp T + j + (tp.length - (tkP tp T + j))) (by omega)
          rw [if_neg (by omega)] at g1
          have rn := runN_eq (P := isD) (tp := tp) (p := tkP tp T + j) (j := tp.length - (tkP tp T + j)) (by omega) hh (fun h => by omega)
          refine b134_207 ?_
          simp only [u10 _ 302 _ _ ⟨by omega, by omega⟩, u10 _ 303 _ _ ⟨by omega, by omega⟩, u10 _ 304 _ _ ⟨by omega, by omega⟩, u10 _ 305 _ _ ⟨by omega, by omega⟩]
          rw [e10, show ((tkP tp T + j : Nat) : Int) + ((tp.length - (tkP tp T + j) : Nat) : Int) = ((tkP tp T + j + (tp.length - (tkP tp T + j)) : Nat) : Int) by omega, g1]
          simp only [tn]
          exact ⟨g2, by decide, by decide, fun _ => ⟨by omega, fun l4 => ⟨by omega, by omega, by omega, by omega, fin _ x4 rn (by omega) (by omega) hx4 2 (by rw [if_pos (by omega)])⟩, fun l4 => ⟨by omega, by omega, by omega, by omega, fin _ x4 rn (by omega) (by omega) hx4 3 (by rw [if_neg (by omega)])⟩⟩, fun h => absurd (by decide) h⟩
        · obtain ⟨g1, g2⟩ := kmby_bs hx hl (i := tkP tp T + j + n) (by omega)
          rw [if_pos (by omega)] at g1
          have br2 := bs_r tp (tkP tp T + j + n)
          refine b134_207 ?_
          simp only [u10 _ 302 _ _ ⟨by omega, by omega⟩, u10 _ 303 _ _ ⟨by omega, by omega⟩, u10 _ 304 _ _ ⟨by omega, by omega⟩, u10 _ 305 _ _ ⟨by omega, by omega⟩]
          rw [e10, show ((tkP tp T + j : Nat) : Int) + (n : Int) = ((tkP tp T + j + n : Nat) : Int) by omega, g1]
          simp only [tn]
          refine ⟨g2, by omega, by unfold kdig; split <;> omega, fun e => ?_, fun ne => ?_⟩
          · have rn := runN_eq (P := isD) (tp := tp) (p := tkP tp T + j) (j := n) (by omega) hh (fun _ => not_1 (fun z => isD_1.mp z e))
            have n1 : 1 ≤ n := by
              by_cases y : n = 0
              · subst y
                rw [Nat.add_zero, hc] at e
                exact absurd e yd
              · omega
            exact ⟨by omega, fun l4 => ⟨by omega, by omega, by omega, by omega, fin _ x4 rn n1 (by omega) hx4 2 (by rw [if_pos (by omega)])⟩, fun l4 => ⟨by omega, by omega, by omega, by omega, fin _ x4 rn n1 (by omega) hx4 3 (by rw [if_neg (by omega)])⟩⟩
          · have hh2 : ∀ i, i < n + 1 → isD (bs tp (tkP tp T + j + i)) = true := fun i hi => by
              by_cases z : i = n
              · subst z; exact isD_1.mpr ne
              · exact hh i (by omega)
            refine ⟨by omega, fun l4 => b134_243 (ihn hh2 x4 (fun h => by omega)), fun l4 z hz => b134_243 (ihn hh2 z (fun h => ?_))⟩
            rw [hz, hx4 (by omega)]
            rfl
      · have a1 : isL c = true := isL_1.mpr yl
        have fin : ∀ (n : Nat) (x4 kk : Int), runN isL tp (tkP tp T + j) = n → 1 ≤ n → tkP tp T + j + n ≤ tp.length → kk = (if n ≤ 8 then wordM tp (tkP tp T + j) n else 3) → kGo xs Lx (d + 2) 134 178 [some (.ref 299), some (kI ((tkP tp T + j : Nat) : Int)), none, some (kI (n : Int)), some (kJ x4), none, some (kI kk), none] [] W Q := by
          intro n x4 kk hrn hn1 hle hkk
          have mk : mtK tp (tkP tp T + j) = kk := by unfold mtK; rw [hc, if_neg nm1, if_pos a1, hrn, hkk]
          have k0 : kk ≠ 0 ∧ kk ≠ 2 := by
            rw [hkk]
            unfold wordM
            (repeat' split) <;> omega
          have L := lay kk 0 x4 (tkP tp T + j + n) nB (fun q hq => by
            have hQ : tkQ tp (tkP tp T) = tkP tp T + j := by unfold tkQ; rw [runN_eq (by omega) hb (fun _ => by rw [hc]; exact nB)]
            rw [hQ] at hq
            subst hq
            refine ⟨mk.symm, fun z => absurd (mk.symm.trans z) k0.2, ?_⟩
            unfold tkE
            rw [hc, if_neg nm1, if_pos a1, hrn]) (by rw [mk]; exact k0.1) (by omega) hle
          refine b134_178 ?_
          simp only [u10 _ 302 _ _ ⟨by omega, by omega⟩, u10 _ 303 _ _ ⟨by omega, by omega⟩, u10 _ 304 _ _ ⟨by omega, by omega⟩, u10 _ 305 _ _ ⟨by omega, by omega⟩]
          rw [e10, show ((tkP tp T + j : Nat) : Int) + (n : Int) = ((tkP tp T + j + n : Nat) : Int) by omega]
          simp only [tn]
          exact ⟨by omega, by omega, by omega, by omega, L⟩
        have word : ∀ (n : Nat), n ≤ 8 → (∀ i, i < n → isL (bs tp (tkP tp T + j + i)) = true) → (∀ kk : Int, kk = wordM tp (tkP tp T + j) n → kGo xs Lx (d + 2) 134 178 [some (.ref 299), some (kI ((tkP tp T + j : Nat) : Int)), none, some (kI (n : Int)), some (kJ (nameV tp (tkP tp T + j) n)), none, some (kI kk), none] [] W Q) → kGo xs Lx (d + 2) 134 146 [some (.ref 299), some (kI ((tkP tp T + j : Nat) : Int)), none, some (kI (n : Int)), some (kJ (nameV tp (tkP tp T + j) n)), none, some (kI 1), some (kI 0)] [] W Q := by
          intro n hn8 hh hk
          have nb := nameV_b n hh
          have p27 := pow27 hn8
          have kb : ∀ k, k < 4 → 0 ≤ keyV k ∧ keyV k ≤ 100000000 := by decide
          have st : ∀ (k : Nat) (x6 : Int), k < 4 → kGo xs Lx (d + 2) 134 146 [some (.ref 299), some (kI ((tkP tp T + j : Nat) : Int)), none, some (kI (n : Int)), some (kJ (nameV tp (tkP tp T + j) n)), none, some (kI (if keyV k = nameV tp (tkP tp T + j) n then 20 + (k : Int) else x6)), some (kI ((k : Int) + 1))] [] W Q → kGo xs Lx (d + 2) 134 146 [some (.ref 299), some (kI ((tkP tp T + j : Nat) : Int)), none, some (kI (n : Int)), some (kJ (nameV tp (tkP tp T + j) n)), none, some (kI x6), some (kI (k : Int))] [] W Q := by
            intro k x6 hk4 h
            have kk := kb k hk4
            refine b134_146 ⟨by omega, fun h => by omega, fun _ => ?_⟩
            rw [tn, hky k hk4]
            refine ⟨by omega, by omega, by omega, kcmp_r _ _, fun ne => ?_, fun e => ?_⟩
            · rw [if_neg (fun z => ne ((kcmp0 _ _).mpr z))] at h
              exact b134_172 h
            · rw [if_pos ((kcmp0 _ _).mp e)] at h
              exact b134_172 h
          refine st 0 1 (by omega) (st 1 _ (by omega) (st 2 _ (by omega) (st 3 _ (by omega) ?_)))
          exact b134_146 ⟨by omega, fun _ => hk _ rfl, fun h => by omega⟩
        have key := kloop0 (tp.length - (tkP tp T + j)) (fun n => (∀ i, i < n → isL (bs tp (tkP tp T + j + i)) = true) → ∀ x4 : Int, (n ≤ 8 → x4 = nameV tp (tkP tp T + j) n) → kGo xs Lx (d + 2) 134 85 [some (.ref 299), some (kI ((tkP tp T + j : Nat) : Int)), none, some (kI (n : Int)), some (kJ x4), none, none, none] [] W Q) (fun hh x4 hx4 => ?_) (fun n hn2 ihn hh x4 hx4 => ?_) 0 (Nat.zero_le _) (fun i hi => by omega) 0 (fun _ => rfl)
        · exact key
        · obtain ⟨g1, g2⟩ := kmby_bs hx hl (i := tkP tp T + j + (tp.length - (tkP tp T + j))) (by omega)
          rw [if_neg (by omega)] at g1
          have rn := runN_eq (P := isL) (tp := tp) (p := tkP tp T + j) (j := tp.length - (tkP tp T + j)) (by omega) hh (fun h => by omega)
          refine b134_85 ?_
          rw [show ((tkP tp T + j : Nat) : Int) + ((tp.length - (tkP tp T + j) : Nat) : Int) = ((tkP tp T + j + (tp.length - (tkP tp T + j)) : Nat) : Int) by omega, g1]
          refine ⟨g2, by decide, by decide, fun _ => ⟨by omega, fun l8 => ?_, fun l8 => fin _ x4 3 rn (by omega) (by omega) (by rw [if_neg (by omega)])⟩, fun h => absurd (by decide) h⟩
          rw [hx4 (by omega)]
          exact word _ (by omega) hh (fun kk hkk => fin _ _ kk rn (by omega) (by omega) (by rw [if_pos (by omega)]; exact hkk))
        · obtain ⟨g1, g2⟩ := kmby_bs hx hl (i := tkP tp T + j + n) (by omega)
          rw [if_pos (by omega)] at g1
          have br2 := bs_r tp (tkP tp T + j + n)
          refine b134_85 ?_
          rw [show ((tkP tp T + j : Nat) : Int) + (n : Int) = ((tkP tp T + j + n : Nat) : Int) by omega, g1]
          refine ⟨g2, by omega, by unfold klet; split <;> omega, fun e => ?_, fun ne => ?_⟩
          · have rn := runN_eq (P := isL) (tp := tp) (p := tkP tp T + j) (j := n) (by omega) hh (fun _ => not_1 (fun z => isL_1.mp z e))
            have n1 : 1 ≤ n := by
              by_cases y : n = 0
              · subst y
                rw [Nat.add_zero, hc] at e
                exact absurd e yl
              · omega
            refine ⟨by omega, fun l8 => ?_, fun l8 => fin _ x4 3 rn n1 (by omega) (by rw [if_neg (by omega)])⟩
            rw [hx4 (by omega)]
            exact word _ (by omega) hh (fun kk hkk => fin _ _ kk rn n1 (by omega) (by rw [if_pos (by omega)]; exact hkk))
          · have hh2 : ∀ i, i < n + 1 → isL (bs tp (tkP tp T + j + i)) = true := fun i hi => by
              by_cases z : i = n
              · subst z; exact isL_1.mpr ne
              · exact hh i (by omega)
            refine ⟨by omega, fun l8 => b134_118 (ihn hh2 x4 (fun h => by omega)), fun l8 => sp_appends (d := d + 1) (isL_r.mp (isL_1.mpr ne)) (b134_118 (ihn hh2 _ (fun h => ?_)))⟩
            rw [hx4 (by omega)]
            rfl
    · rw [hx.1] at hge
      have hend : tkP tp T + j = tp.length := by omega
      have hB : bs tp (tkP tp T + j) = -1 := bs_end (by omega)
      have hQ : tkQ tp (tkP tp T) = tkP tp T + j := by unfold tkQ; rw [runN_eq (by omega) hb (fun h => by omega)]
      have mk : mtK tp (tkP tp T + j) = 0 := by unfold mtK; rw [if_pos hB]
      refine ⟨by omega, by omega, by omega, by omega, k _ (T + 1) (by omega) (by omega) (hK.lay (by rw [hQ, mk]) (by rw [hQ, hx.1, hend]) (fun z => by rw [hQ, mk] at z; exact absurd z (by decide))) (fun t ht => hn t (by omega)) (Or.inr (by rw [show T + 1 - 1 = T by omega, hQ]; exact mk)) (fun b i hb => by rw [up_ne (by omega), up_ne (by omega), up_ne (by omega), up_ne (by omega), up_ne (by omega)]; exact f b i hb)⟩
end MTK

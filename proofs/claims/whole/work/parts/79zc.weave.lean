section WEV
variable {xs : Nat → Int32} {Lx d : Nat} {V : km_V} {K W : Nat → Int} {P : Nat → Nat} {L : List Nat} {r : Nat}
def brA (W : Nat → Int) (L : List Nat) (c : Nat) : Nat := (W (L.getD c 0)).toNat - 1
def brB (K : Nat → Int) (L : List Nat) (c : Nat) : Nat := (rdSg K (L.getD c 0)).toNat
theorem sp_placeBehind {c x : Nat} {G : Int → km_V → Prop} (hB : kBv V K W P L) (hl : L.length ≤ 8) (hc : c < L.length) (hx : x ≤ 4) (hw : 1 ≤ W (L.getD c 0) ∧ W (L.getD c 0) ≤ 9999) (k : G ((brT (brA W L) c x : Int) + 1) V) : kCI xs Lx (d + 0) 55 3 [.ref 3, kI (c : Int), kI ((x : Int) + 1)] V G := by
  obtain ⟨s5, _, _⟩ := hB.2.2.2 c hc
  have eA : W (L.getD c 0) = (brA W L c : Int) + 1 := by unfold brA; omega
  refine b55_0 ?_
  rw [tn, s5, eA]
  refine ⟨⟨by omega, by omega⟩, by omega, by omega, fun n1 => ⟨by omega, fun n2 => ⟨_, rfl, ?_⟩, fun e2 => ⟨_, rfl, ?_⟩⟩, fun e1 => ⟨_, rfl, ?_⟩⟩
  · have : brT (brA W L) c x = x := by unfold brT; rw [if_neg (by omega), if_neg (by omega)]
    rw [this] at k; exact k
  · have : brT (brA W L) c x = x - 1 := by unfold brT; rw [if_neg (by omega), if_pos (by omega)]
    rw [this] at k
    rw [show ((x : Int) + 1) - 1 = ((x - 1 : Nat) : Int) + 1 by omega]; exact k
  · have : brT (brA W L) c x = x + 1 := by unfold brT; rw [if_pos (by omega)]
    rw [this] at k
    rw [show ((x : Int) + 1) + 1 = ((x + 1 : Nat) : Int) + 1 by omega]; exact k
theorem sp_weave {s : Nat} {G : km_V → Prop} (hr : km_sh[r]? = some (5, 5)) (hr2 : 12 < r) (hB : kBv V K W P L) (hl : L.length ≤ 8) (hs : W 1 = (s : Int)) (s2 : 2 ≤ s) (s4 : s ≤ 4) (hw : ∀ i, i < L.length → 1 ≤ W (L.getD i 0) ∧ W (L.getD i 0) < W 1) (ok : rwOk (brRw (brA W L) (brB K L) L.length s)) (k : ∀ X, kRC X r (brRw (brA W L) (brB K L) L.length s) → (∀ b j, ¬ (r ≤ b ∧ b ≤ r + 3) → X b j = V b j) → G X) : kCV xs Lx (d + 1) 54 9 [.ref 3, .ref r] V G := by
  have hB' := hB
  obtain ⟨h7, h4, h5, hI⟩ := hB'
  have ha : ∀ c, c < L.length → brA W L c + 2 ≤ s := fun c hc => by have := hw c hc; unfold brA; omega
  have rS : ∀ c, rdSg K (L.getD c 0) = 0 ∨ rdSg K (L.getD c 0) = 1 := fun c => rdSg_r K _
  have en : rwn (brRw (brA W L) (brB K L) L.length s) = L.length := by show ((List.range L.length).map _).length = _; rw [List.length_map, List.length_range]
  have e1 : (brRw (brA W L) (brB K L) L.length s).1 = (brR (brA W L) (brB K L) L.length s s).1 := rfl
  have lenP := ok.len
  rw [en] at lenP
  have lenP : (brR (brA W L) (brB K L) L.length s s).1.flatten.length = 2 * L.length := lenP
  have sgn : ∀ c, c < L.length → (brRw (brA W L) (brB K L) L.length s).2.getD c 0 = if rdSg K (L.getD c 0) = 1 then 1 else -1 := by
    intro c hc
    show ((List.range L.length).map _).getD c 0 = _
    rw [gd_rmap hc]
    unfold brB
    rcases rS c with e | e <;> rw [e] <;> rfl
  refine b54_0 hr ?_
  rw [up_ne (show ¬ (3 = r ∧ 7 = 0) by omega), h7]
  -- the signs
  refine kloop L.length (fun c X => X r 0 = 0 ∧ X r 1 = (L.length : Int) ∧ (∀ c', c' < c → X (r + 3) c' = (brRw (brA W L) (brB K L) L.length s).2.getD c' 0) ∧ (∀ b j, ¬ (r ≤ b ∧ b ≤ r + 3) → X b j = V b j)) (fun c X => kGo xs Lx (d + 1) 54 15 [some (.ref 3), some (.ref r), some (kI (c : Int)), none, none, none, none, none, none] [] X (fun r V' => r = none ∧ G V')) (fun X hX => ?_) (fun c X hc hX ih => ?_) 0 _ (Nat.zero_le _) ⟨?_, ?_, fun c' h => absurd h (Nat.not_lt_zero _), fun b j hb => ?_⟩
  rotate_left
  · obtain ⟨x1, x2, x3, x4⟩ := hX
    have next : ∀ v : Int, v = (brRw (brA W L) (brB K L) L.length s).2.getD c 0 → kGo xs Lx (d + 1) 54 15 [some (.ref 3), some (.ref r), some (kI ((c + 1 : Nat) : Int)), none, none, none, none, none, none] [] (up X (r + 3) c v) (fun r V' => r = none ∧ G V') := by
      intro v hv
      refine ih _ ⟨?_, ?_, fun c' hc' => ?_, fun b j hb => ?_⟩
      · rw [up_ne (by omega)]; exact x1
      · rw [up_ne (by omega)]; exact x2
      · by_cases e : c' = c
        · subst e; rw [up_at]; exact hv
        · rw [up_ne (by omega)]; exact x3 c' (by omega)
      · rw [up_ne (by omega)]; exact x4 b j hb
    refine b54_15 hr ?_
    have z9 : X 9 c = rdSg K (L.getD c 0) := by rw [x4 9 c (by omega)]; exact (hI c hc).2.2
    have rs := rS c
    rw [x4 3 7 (by omega), h7, tn, z9]
    refine ⟨by omega, by omega, fun l => by omega, fun _ => ⟨⟨by omega, by omega⟩, ⟨by omega, by omega⟩, fun e0 => ⟨⟨by omega, by omega⟩, next _ ?_⟩, fun n0 => ⟨⟨by omega, by omega⟩, next _ ?_⟩⟩⟩
    · rw [sgn c hc, if_neg (by omega)]
    · rw [sgn c hc, if_pos (by omega)]
  · rw [up_ne (by omega), up_at]
  · rw [up_at]
  · rw [up_ne (by omega), up_ne (by omega)]
  obtain ⟨x1, x2, x3, x4⟩ := hX
  refine b54_15 hr ?_
  rw [x4 3 7 (by omega), h7]
  refine ⟨by omega, by omega, fun _ => ?_, fun l => by omega⟩
  -- the strands
  refine kloop s (fun p X => X r 0 = ((brR (brA W L) (brB K L) L.length s p).1.length : Int) ∧ X r 1 = (L.length : Int) ∧ (∀ i, i < (brR (brA W L) (brB K L) L.length s p).1.length → X (r + 1) i = (((brR (brA W L) (brB K L) L.length s p).1.take i).flatten.length : Int)) ∧ (∀ j, j < (brR (brA W L) (brB K L) L.length s p).1.flatten.length → X (r + 2) j = ((brR (brA W L) (brB K L) L.length s p).1.flatten.getD j 0 : Int)) ∧ (∀ c, c < L.length → X (r + 3) c = (brRw (brA W L) (brB K L) L.length s).2.getD c 0) ∧ (∀ b j, ¬ (r ≤ b ∧ b ≤ r + 3) → X b j = V b j)) (fun p X => kGo xs Lx (d + 1) 54 56 [some (.ref 3), some (.ref r), some (kI ((2 * (brR (brA W L) (brB K L) L.length s p).2 : Nat) : Int)), some (kI ((brR (brA W L) (brB K L) L.length s p).1.flatten.length : Int)), some (kI ((p + 1 : Nat) : Int)), none, none, none, none] [] X (fun r V' => r = none ∧ G V')) (fun X hX => ?_) (fun p X hp hX ih => ?_) 0 X (Nat.zero_le _) ⟨x1, x2, fun i h => absurd h (Nat.not_lt_zero _), fun j h => absurd h (Nat.not_lt_zero _), x3, x4⟩
  · obtain ⟨y1, y2, y3, y4, y5, y6⟩ := hX
    have lt := (brR_lt (b := brB K L) s4 ha s (Nat.le_refl _)).2
    refine b54_56 hr ?_
    rw [y6 3 4 (by omega), h4, hs, y1, tn]
    refine ⟨by omega, by omega, fun _ => ⟨⟨by omega, by omega⟩, rfl, k _ ⟨?_, ?_, fun i hi => ?_, fun j hj => ?_, fun c hc => ?_⟩ (fun b j hb => ?_)⟩, fun l => by omega⟩
    · rw [up_ne (by omega)]; exact y1
    · rw [up_ne (by omega), en]; exact y2
    · rw [e1] at hi
      by_cases e : i = (brR (brA W L) (brB K L) L.length s s).1.length
      · subst e
        rw [up_at]
        show _ = ((rwF (brRw (brA W L) (brB K L) L.length s) (brRw (brA W L) (brB K L) L.length s).1.length : Nat) : Int)
        rw [rwF_all]; rfl
      · rw [up_ne (by omega)]; exact y3 i (by omega)
    · rw [up_ne (by omega)]; exact y4 j hj
    · rw [en] at hc
      rw [up_ne (by omega)]; exact y5 c hc
    · rw [up_ne (by omega)]; exact y6 b j hb
  · obtain ⟨y1, y2, y3, y4, y5, y6⟩ := hX
    obtain ⟨g16, lp⟩ := brR_lt (b := brB K L) s4 ha p (by omega)
    have mono := brR_mono (a := brA W L) (b := brB K L) (n := L.length) (s := s) (p := p + 1) s (by omega)
    refine b54_56 hr ?_
    rw [y6 3 4 (by omega), h4, hs, y1, tn, tn, kc_div, gone_bit]
    refine ⟨by omega, by omega, fun l => by omega, fun _ => ⟨by omega, ⟨by omega, by omega⟩, ⟨by omega, by omega⟩, fun nb => ⟨⟨by omega, by omega⟩, ?_⟩, fun eb => ?_⟩⟩
    rotate_left
    · have e : brR (brA W L) (brB K L) L.length s (p + 1) = brR (brA W L) (brB K L) L.length s p := by rw [brR_s, if_pos (by omega)]
      have := ih X (by rw [e]; exact ⟨y1, y2, y3, y4, y5, y6⟩)
      rw [e] at this
      exact this
    have eR : brR (brA W L) (brB K L) L.length s (p + 1) = ((brR (brA W L) (brB K L) L.length s p).1 ++ [(brG (brA W L) (brB K L) L.length s (brR (brA W L) (brB K L) L.length s p).2 p).1], (brG (brA W L) (brB K L) L.length s (brR (brA W L) (brB K L) L.length s p).2 p).2) := by rw [brR_s, if_neg (by omega)]
    generalize hq : brR (brA W L) (brB K L) L.length s p = q at *
    obtain ⟨rs, g⟩ := q
    dsimp only at *
    rw [eR, List.flatten_append, List.length_append] at mono
    have fl1 : ([(brG (brA W L) (brB K L) L.length s g p).1] : List (List Nat)).flatten = (brG (brA W L) (brB K L) L.length s g p).1 := by simp
    rw [fl1] at mono
    -- one ring
    have inner : ∀ f g' x (l : List Nat) (X' : km_V) (tu : Nat), f + tu = s → g' < 16 → x < s → (brG (brA W L) (brB K L) L.length s g p).1 = l ++ (brG (brA W L) (brB K L) L.length f g' x).1 → (brG (brA W L) (brB K L) L.length s g p).2 = (brG (brA W L) (brB K L) L.length f g' x).2 → (∀ j, j < (rs.flatten ++ l).length → X' (r + 2) j = ((rs.flatten ++ l).getD j 0 : Int)) → (∀ b j, b ≠ r + 2 → X' b j = up (up X (r + 1) rs.length (rs.flatten.length : Int)) r 0 ((rs.length : Int) + 1) b j) → kGo xs Lx (d + 1) 54 105 [some (.ref 3), some (.ref r), some (kI ((2 * g' : Nat) : Int)), some (kI ((rs.flatten ++ l).length : Int)), some (kI ((p + 1 : Nat) : Int)), some (kI ((x : Int) + 1)), some (kI (tu : Int)), none, none] [] X' (fun r V' => r = none ∧ G V') := by
      intro f
      have done : ∀ g' (l : List Nat) (X' : km_V), (brG (brA W L) (brB K L) L.length s g p).1 = l → (brG (brA W L) (brB K L) L.length s g p).2 = g' → (∀ j, j < (rs.flatten ++ l).length → X' (r + 2) j = ((rs.flatten ++ l).getD j 0 : Int)) → (∀ b j, b ≠ r + 2 → X' b j = up (up X (r + 1) rs.length (rs.flatten.length : Int)) r 0 ((rs.length : Int) + 1) b j) → kGo xs Lx (d + 1) 54 56 [some (.ref 3), some (.ref r), some (kI ((2 * g' : Nat) : Int)), some (kI ((rs.flatten ++ l).length : Int)), some (kI (((p + 1 : Nat) : Int) + 1)), none, none, none, none] [] X' (fun r V' => r = none ∧ G V') := by
        intro g' l X' h1 h2 h3 h6
        rw [h1] at eR fl1
        rw [h2] at eR
        have := ih X' (by
          rw [eR]
          dsimp only
          rw [List.flatten_append, fl1]
          refine ⟨?_, ?_, fun i hi => ?_, h3, fun c hc => ?_, fun b j hb => ?_⟩
          · rw [h6 r 0 (by omega), up_at, List.length_append, List.length_singleton]; rfl
          · rw [h6 r 1 (by omega), up_ne (by omega), up_ne (by omega)]; exact y2
          · rw [List.length_append, List.length_singleton] at hi
            rw [h6 (r + 1) i (by omega), up_ne (by omega)]
            by_cases e : i = rs.length
            · subst e; rw [up_at, List.take_left']; rfl
            · rw [up_ne (by omega), List.take_append_of_le_length (by omega)]; exact y3 i (by omega)
          · rw [h6 (r + 3) c (by omega), up_ne (by omega), up_ne (by omega)]; exact y5 c hc
          · rw [h6 b j (by omega), up_ne (by omega), up_ne (by omega)]; exact y6 b j hb)
        rw [eR] at this
        dsimp only at this
        rw [List.flatten_append, fl1] at this
        exact this
      induction f with
      | zero =>
        intro g' x l X' tu ht hg hx h1 h2 h3 h6
        refine b54_105 hr ?_
        rw [h6 3 4 (by omega), up_ne (by omega), up_ne (by omega), y6 3 4 (by omega), h4, hs]
        refine ⟨by omega, by omega, fun _ => ?_, fun q => by omega⟩
        exact done g' l X' (by rw [h1]; simp [brG]) (by rw [h2]; rfl) h3 h6
      | succ f IH =>
        intro g' x l X' tu ht hg hx h1 h2 h3 h6
        have uf : brG (brA W L) (brB K L) L.length (f + 1) g' x = if g' / 2 ^ x % 2 = 1 then ([], g') else (brL (brA W L) (brB K L) L.length x ++ (brG (brA W L) (brB K L) L.length f (g' ||| 2 ^ x) (brX (brA W L) L.length x)).1, (brG (brA W L) (brB K L) L.length f (g' ||| 2 ^ x) (brX (brA W L) L.length x)).2) := rfl
        have B' : kBv X' K W P L := by
          refine ⟨?_, ?_, ?_, fun i hi => ?_⟩
          · rw [h6 3 7 (by omega), up_ne (by omega), up_ne (by omega), y6 3 7 (by omega)]; exact h7
          · rw [h6 3 4 (by omega), up_ne (by omega), up_ne (by omega), y6 3 4 (by omega)]; exact h4
          · rw [h6 3 5 (by omega), up_ne (by omega), up_ne (by omega), y6 3 5 (by omega)]; exact h5
          · rw [h6 5 i (by omega), up_ne (by omega), up_ne (by omega), y6 5 i (by omega), h6 6 i (by omega), up_ne (by omega), up_ne (by omega), y6 6 i (by omega), h6 9 i (by omega), up_ne (by omega), up_ne (by omega), y6 9 i (by omega)]; exact hI i hi
        refine b54_105 hr ?_
        have t1 : Int.toNat ((x : Int) + 1) = x + 1 := tn1 x
        rw [B'.2.1, hs, t1, kc_div, gone_bit]
        refine ⟨by omega, by omega, fun q => by omega, fun _ => ⟨by omega, ⟨by omega, by omega⟩, ⟨by omega, by omega⟩, fun nb => ?_, fun eb => ?_⟩⟩
        · rw [uf, if_pos (by omega)] at h1 h2
          exact done g' l X' (by rw [h1, List.append_nil]) h2 h3 h6
        · rw [uf, if_neg (by omega)] at h1 h2
          dsimp only at h1 h2
          refine ⟨by omega, by rw [Int.one_mul]; exact Int.natCast_nonneg _, fun z1 ez => ?_⟩
          rw [tn, Int.one_mul, tn, gone_or g' hg x (by omega)] at ez
          subst ez
          have lring := congrArg List.length h1
          rw [List.length_append, List.length_append] at lring
          -- one strand
          have key := kloop L.length (fun c X'' => (∀ j, j < (rs.flatten ++ (l ++ brL (brA W L) (brB K L) c x)).length → X'' (r + 2) j = ((rs.flatten ++ (l ++ brL (brA W L) (brB K L) c x)).getD j 0 : Int)) ∧ (∀ b j, b ≠ r + 2 → X'' b j = X' b j)) (fun c X'' => kGo xs Lx (d + 1) 54 133 [some (.ref 3), some (.ref r), some (kI ((2 * (g' ||| 2 ^ x) : Nat) : Int)), some (kI ((rs.flatten ++ (l ++ brL (brA W L) (brB K L) c x)).length : Int)), some (kI ((p + 1 : Nat) : Int)), some (kI ((brX (brA W L) c x : Int) + 1)), some (kI (tu : Int)), some (kI (c : Int)), none] [] X'' (fun r V' => r = none ∧ G V')) (fun X'' hX => ?_) (fun c X'' hc hX ih2 => ?_) 0 X' (Nat.zero_le _) ⟨by rw [show l ++ brL (brA W L) (brB K L) 0 x = l from List.append_nil l]; exact h3, fun _ _ _ => rfl⟩
          · rw [show l ++ brL (brA W L) (brB K L) 0 x = l from List.append_nil l] at key
            exact key
          · obtain ⟨q1, q2⟩ := hX
            refine b54_133 hr ?_
            rw [q2 3 7 (by omega), B'.1]
            refine ⟨by omega, by omega, fun _ => ?_, fun q => by omega⟩
            exact IH (g' ||| 2 ^ x) (brX (brA W L) L.length x) (l ++ brL (brA W L) (brB K L) L.length x) X'' (tu + 1) (by omega) (or16 hg (by omega)) (brX_lt hx _ ha) (by rw [h1, List.append_assoc]) h2 q1 (fun b j hb => by rw [q2 b j hb]; exact h6 b j hb)
          · obtain ⟨q1, q2⟩ := hX
            have xl := brX_lt (a := brA W L) hx c (fun c' hc' => ha c' (by omega))
            have hwc := hw c hc
            have rs' := rS c
            have B2 : kBv X'' K W P L := by
              obtain ⟨b1, b2, b3, b4⟩ := B'
              refine ⟨by rw [q2 3 7 (by omega)]; exact b1, by rw [q2 3 4 (by omega)]; exact b2, by rw [q2 3 5 (by omega)]; exact b3, fun i hi => ?_⟩
              rw [q2 5 i (by omega), q2 6 i (by omega), q2 9 i (by omega)]; exact b4 i hi
            have eL : brL (brA W L) (brB K L) (c + 1) x = brL (brA W L) (brB K L) c x ++ brO (brA W L) (brB K L) c (brX (brA W L) c x) := rfl
            have eX : brX (brA W L) (c + 1) x = brT (brA W L) c (brX (brA W L) c x) := rfl
            have eA : W (L.getD c 0) = (brA W L c : Int) + 1 := by unfold brA; omega
            have eB : rdSg K (L.getD c 0) = (brB K L c : Int) := by unfold brB; omega
            have lm := brL_mono (a := brA W L) (b := brB K L) (x := x) (m := c + 1) L.length (by omega)
            have push : ∀ v : Nat, brO (brA W L) (brB K L) c (brX (brA W L) c x) = [v] → ∀ vi y : Int, vi = (v : Int) → y = (brT (brA W L) c (brX (brA W L) c x) : Int) + 1 → (0 ≤ ((rs.flatten ++ (l ++ brL (brA W L) (brB K L) c x)).length : Int) ∧ ((rs.flatten ++ (l ++ brL (brA W L) (brB K L) c x)).length : Int) < (16 : Nat)) ∧ kGo xs Lx (d + 1) 54 133 [some (.ref 3), some (.ref r), some (kI ((2 * (g' ||| 2 ^ x) : Nat) : Int)), some (kI (((rs.flatten ++ (l ++ brL (brA W L) (brB K L) c x)).length : Int) + 1)), some (kI ((p + 1 : Nat) : Int)), some (kI y), some (kI (tu : Int)), some (kI ((c : Int) + 1)), none] [] (up X'' (r + 2) (Int.toNat ((rs.flatten ++ (l ++ brL (brA W L) (brB K L) c x)).length : Int)) vi) (fun r V' => r = none ∧ G V') := by
              intro v hv vi y hvi hy
              subst hvi
              subst hy
              rw [eL, hv, List.length_append, List.length_singleton] at lm
              have l1 : (rs.flatten ++ (l ++ brL (brA W L) (brB K L) c x)).length = rs.flatten.length + (l.length + (brL (brA W L) (brB K L) c x).length) := by rw [List.length_append, List.length_append]
              refine ⟨⟨by omega, by omega⟩, ?_⟩
              have e2 : rs.flatten ++ (l ++ brL (brA W L) (brB K L) (c + 1) x) = (rs.flatten ++ (l ++ brL (brA W L) (brB K L) c x)) ++ [v] := by rw [eL, hv]; simp [List.append_assoc]
              have := ih2 (up X'' (r + 2) (rs.flatten ++ (l ++ brL (brA W L) (brB K L) c x)).length (v : Int)) (by
                rw [e2]
                refine ⟨fun j hj => ?_, fun b j hb => ?_⟩
                · rw [List.length_append, List.length_singleton] at hj
                  by_cases e : j = (rs.flatten ++ (l ++ brL (brA W L) (brB K L) c x)).length
                  · subst e; rw [up_at, gd_appr (Nat.le_refl _), Nat.sub_self]; rfl
                  · rw [up_ne (by omega), gd_appl (by omega)]; exact q1 j (by omega)
                · rw [up_ne (by omega)]; exact q2 b j hb)
              rw [e2, List.length_append, List.length_singleton, eX] at this
              exact this
            refine b54_133 hr ?_
            rw [B2.1]
            refine ⟨by omega, by omega, fun q => by omega, fun _ => ?_⟩
            refine sp_placeBehind (d := d) (x := brX (brA W L) c x) B2 hl hc (by omega) ⟨hwc.1, by omega⟩ ?_
            have z9 := (B2.2.2.2 c hc).2.2
            rw [tn, z9]
            have tv : brT (brA W L) c (brX (brA W L) c x) < s := brT_lt xl (ha c hc)
            refine ⟨by omega, by omega, fun ey => ?_, fun ny => ⟨⟨by omega, by omega⟩, fun ly => ⟨by omega, fun n0 => ?_, fun e0 => ?_⟩, fun gy => ⟨by omega, fun n1 => ?_, fun e1 => ?_⟩⟩⟩
            · have hv : brO (brA W L) (brB K L) c (brX (brA W L) c x) = [] := by
                unfold brT at ey
                unfold brO
                split at ey
                · omega
                · rename_i h1
                  split at ey
                  · omega
                  · rename_i h2
                    rw [if_neg h1, if_neg h2]
              have e2 : brL (brA W L) (brB K L) (c + 1) x = brL (brA W L) (brB K L) c x := by rw [eL, hv, List.append_nil]
              have := ih2 X'' (by rw [e2]; exact ⟨q1, q2⟩)
              rw [e2, eX] at this
              exact this
            · have hx1 : brX (brA W L) c x ≠ brA W L c ∧ brX (brA W L) c x = brA W L c + 1 := by
                unfold brT at ny ly
                split at ny
                · rename_i h1; rw [if_pos h1] at ly; omega
                · rename_i h1
                  split at ny
                  · rename_i h2; exact ⟨h1, h2⟩
                  · omega
              exact push (2 * c + (1 - brB K L c)) (by unfold brO; rw [if_neg hx1.1, if_pos hx1.2]) _ _ (by omega) rfl
            · have hx1 : brX (brA W L) c x ≠ brA W L c ∧ brX (brA W L) c x = brA W L c + 1 := by
                unfold brT at ny ly
                split at ny
                · rename_i h1; rw [if_pos h1] at ly; omega
                · rename_i h1
                  split at ny
                  · rename_i h2; exact ⟨h1, h2⟩
                  · omega
              exact push (2 * c + (1 - brB K L c)) (by unfold brO; rw [if_neg hx1.1, if_pos hx1.2]) _ _ (by omega) rfl
            · have hx1 : brX (brA W L) c x = brA W L c := by
                unfold brT at gy
                split at gy
                · assumption
                · split at gy <;> omega
              exact push (2 * c + brB K L c) (by unfold brO; rw [if_pos hx1]) _ _ (by omega) rfl
            · have hx1 : brX (brA W L) c x = brA W L c := by
                unfold brT at gy
                split at gy
                · assumption
                · split at gy <;> omega
              exact push (2 * c + brB K L c) (by unfold brO; rw [if_pos hx1]) _ _ (by omega) rfl
    have e0 : up X (r + 1) rs.length (rs.flatten.length : Int) r 0 = (rs.length : Int) := by rw [up_ne (by omega)]; exact y1
    rw [e0]
    have := inner s g p [] (up (up X (r + 1) rs.length (rs.flatten.length : Int)) r 0 ((rs.length : Int) + 1)) 0 rfl g16 hp (by rw [List.nil_append]) rfl (fun j hj => by
      rw [List.append_nil] at hj ⊢
      rw [up_ne (by omega), up_ne (by omega)]; exact y4 j hj) (fun _ _ _ => rfl)
    rw [List.append_nil] at this
    exact this
end WEV

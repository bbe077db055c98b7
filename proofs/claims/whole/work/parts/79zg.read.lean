/-! reading, in the class and in the model -/
def rdRes (tp : List Int) (f : Int) (p : Nat) (S : Rw) : Prop := ∃ t, (∀ j, j < t → rdPass (txK tp) (txW tp) j) ∧ ¬ rdPass (txK tp) (txW tp) t ∧ t ≤ 400 ∧ (rdFault (txK tp) t ≠ 0 ∧ f = rdFault (txK tp) t ∧ p = txP tp t ∨ rdFault (txK tp) t = 0 ∧ rdS (txK tp) t ≠ 8 ∧ (∃ f' p', rMean (txK tp) (txW tp) (txP tp) (rdT (txK tp) t) f' p' ∧ (f' ≠ 0 ∧ f = f' ∧ p = p' ∨ f' = 0 ∧ ¬ rwPl (rdRw (txK tp) (txW tp) t) ∧ f = 6 ∧ p = tp.length ∨ f' = 0 ∧ rwPl (rdRw (txK tp) (txW tp) t) ∧ f = 0 ∧ p = 0 ∧ S = rdRw (txK tp) (txW tp) t)) ∨ rdFault (txK tp) t = 0 ∧ rdS (txK tp) t = 8 ∧ (∃ f' p', bMean (txK tp) (txW tp) (txP tp) (rdT (txK tp) t) f' p' ∧ (f' ≠ 0 ∧ f = f' ∧ p = p' ∨ f' = 0 ∧ f = 0 ∧ p = 0 ∧ S = brRw (brA (txW tp) (rdT (txK tp) t)) (brB (txK tp) (rdT (txK tp) t)) (rdT (txK tp) t).length (txW tp 1).toNat)))
theorem rdRes.uni {tp : List Int} {f f' : Int} {p p' : Nat} {S S' : Rw} (h : rdRes tp f p S) (h' : rdRes tp f' p' S') : f = f' ∧ p = p' ∧ (f = 0 → S = S') := by
  obtain ⟨t, a1, a2, _, a4⟩ := h
  obtain ⟨t', b1, b2, _, b4⟩ := h'
  have e : t = t' := by
    apply Decidable.byContradiction
    intro n
    by_cases l : t < t'
    · exact a2 (b1 t l)
    · exact b2 (a1 t' (by omega))
  subst e
  rcases a4 with ⟨x1, x2, x3⟩ | ⟨x1, x2, g, q, xm, x3⟩ | ⟨x1, x2, g, q, xm, x3⟩
  · rcases b4 with ⟨y1, y2, y3⟩ | ⟨y1, _⟩ | ⟨y1, _⟩
    · exact ⟨by rw [x2, y2], by rw [x3, y3], fun z => by rw [x2] at z; exact absurd z x1⟩
    · exact absurd y1 x1
    · exact absurd y1 x1
  · rcases b4 with ⟨y1, _⟩ | ⟨y1, y2, g', q', ym, y3⟩ | ⟨y1, y2, _⟩
    · exact absurd x1 y1
    · obtain ⟨u1, u2⟩ := rMean_uni xm ym
      subst u1
      subst u2
      rcases x3 with ⟨c1, c2, c3⟩ | ⟨c1, c2, c3, c4⟩ | ⟨c1, c2, c3, c4, c5⟩
      · rcases y3 with ⟨e1, e2, e3⟩ | ⟨e1, _⟩ | ⟨e1, _⟩
        · exact ⟨by rw [c2, e2], by rw [c3, e3], fun z => by rw [c2] at z; exact absurd z c1⟩
        · exact absurd e1 c1
        · exact absurd e1 c1
      · rcases y3 with ⟨e1, _⟩ | ⟨_, e2, e3, e4⟩ | ⟨_, e2, _⟩
        · exact absurd c1 e1
        · exact ⟨by rw [c3, e3], by rw [c4, e4], fun z => by rw [c3] at z; exact absurd z (by decide)⟩
        · exact absurd e2 c2
      · rcases y3 with ⟨e1, _⟩ | ⟨_, e2, _⟩ | ⟨_, e2, e3, e4, e5⟩
        · exact absurd c1 e1
        · exact absurd c2 e2
        · exact ⟨by rw [c3, e3], by rw [c4, e4], fun _ => by rw [c5, e5]⟩
    · exact absurd y2 x2
  · rcases b4 with ⟨y1, _⟩ | ⟨y1, y2, _⟩ | ⟨y1, y2, g', q', ym, y3⟩
    · exact absurd x1 y1
    · exact absurd x2 y2
    · obtain ⟨u1, u2⟩ := bMean_uni xm ym
      subst u1
      subst u2
      rcases x3 with ⟨c1, c2, c3⟩ | ⟨c1, c3, c4, c5⟩
      · rcases y3 with ⟨e1, e2, e3⟩ | ⟨e1, _⟩
        · exact ⟨by rw [c2, e2], by rw [c3, e3], fun z => by rw [c2] at z; exact absurd z c1⟩
        · exact absurd e1 c1
      · rcases y3 with ⟨e1, _⟩ | ⟨_, e3, e4, e5⟩
        · exact absurd c1 e1
        · exact ⟨by rw [c3, e3], by rw [c4, e4], fun _ => by rw [c5, e5]⟩
section RDD
variable {xs : Nat → Int32} {Lx d : Nat} {V : km_V} {tp : List Int}
theorem rg_of {t : Nat} (h : ∀ j, j < t → rdPass (txK tp) (txW tp) j) (ht : t ≤ 400) (hf : rdFault (txK tp) t = 0) (h8 : rdS (txK tp) t ≠ 8) : rgS (txK tp) (txW tp) t ∧ txK tp t = 0 := by
  have w := rdWell_all t h
  have e : txK tp t = 0 ∧ (rdS (txK tp) t = 0 ∨ rdS (txK tp) t = 4 ∨ rdS (txK tp) t = 8) := by
    unfold rdFault at hf
    split at hf
    · rename_i z
      split at hf
      · rename_i z2; exact ⟨z, z2⟩
      · omega
    · split at hf <;> omega
  refine ⟨⟨h, ?_, ht, by omega⟩, e.1⟩
  by_cases z : t = 0
  · exact Or.inl z
  · have b := w.b (by omega)
    have := rdS_pos h (by omega)
    exact Or.inr (by omega)
theorem brL_ok {t s : Nat} (h : bgS (txK tp) (txW tp) t) (es : txW tp 1 = (s : Int)) (s2 : 2 ≤ s) (s4 : s ≤ 4) (hw : ∀ j, j < (rdT (txK tp) t).length → 1 ≤ txW tp ((rdT (txK tp) t).getD j 0) ∧ txW tp ((rdT (txK tp) t).getD j 0) < txW tp 1) : rwOk (brRw (brA (txW tp) (rdT (txK tp) t)) (brB (txK tp) (rdT (txK tp) t)) (rdT (txK tp) t).length s) ∧ rwPl (brRw (brA (txW tp) (rdT (txK tp) t)) (brB (txK tp) (rdT (txK tp) t)) (rdT (txK tp) t).length s) := by
  refine br_ok s2 s4 h.len (fun c hc => ?_) (fun c hc => ?_)
  · have := hw c hc; unfold brA; omega
  · unfold brB; rcases rdSg_r (txK tp) ((rdT (txK tp) t).getD c 0) with e | e <;> rw [e] <;> decide
theorem sp_reads {G : Int → km_V → Prop} (hT : kTc V tp) (hl : tp.length ≤ 2000) (k : ∀ f p S X, rdRes tp f p S → (f ≠ 0 → X 3 0 = f ∧ X 3 1 = (p : Int)) → (f = 0 → kRC X 209 S ∧ rwOk S) → (∀ b j, ¬ (3 ≤ b ∧ b ≤ 12 ∨ b = 1 ∧ 1 ≤ j ∧ j ≤ 4 ∨ 209 ≤ b ∧ b ≤ 223) → X b j = V b j) → G (if f = 0 then 1 else 0) X) : kCI xs Lx (d + 5) 41 4 [.ref 3, .ref 1, .ref 209, .ref 213] V G := by
  refine b41_0 (by decide +kernel) (by decide +kernel) ?_
  refine sp_takesTokens (d := d) (tp := tp) ?_ hl ?_ ?_ ?_ ?_ (fun t X h1 h2 h3 h4 h5 f1 => ?_)
  · exact hT.fr (fun b j hb => by rw [up_ne (by omega), up_ne (by omega), up_ne (by omega), up_ne (by omega)])
  · rw [up_ne (by omega), up_ne (by omega), up_ne (by omega), up_at]
  · rw [up_ne (by omega), up_ne (by omega), up_at]
  · rw [up_ne (by omega), up_at]
  · rw [up_at]
  have fX : ∀ b j, ¬ (3 ≤ b ∧ b ≤ 12 ∨ b = 1 ∧ 1 ≤ j ∧ j ≤ 4 ∨ 209 ≤ b ∧ b ≤ 223) → X b j = V b j := fun b j hb => by
    rw [f1 b j (by omega), up_ne (by omega), up_ne (by omega), up_ne (by omega), up_ne (by omega)]
  have len : ∀ Y : km_V, (∀ b j, ¬ (3 ≤ b ∧ b ≤ 12 ∨ b = 1 ∧ 1 ≤ j ∧ j ≤ 4 ∨ 209 ≤ b ∧ b ≤ 223) → Y b j = V b j) → Y 1 0 = (tp.length : Int) := fun Y hY => by rw [hY 1 0 (by omega)]; exact hT.1
  by_cases hf : rdFault (txK tp) t = 0
  rotate_left
  · rw [if_neg hf]
    have := k (rdFault (txK tp) t) (txP tp t) ([], []) X ⟨t, h1, h2, h3, Or.inl ⟨hf, rfl, rfl⟩⟩ h5 (fun q => absurd q hf) fX
    rw [if_neg hf] at this
    exact ⟨by decide, fun q => absurd rfl q, fun _ => ⟨_, rfl, this⟩⟩
  rw [if_pos hf]
  obtain ⟨c1, c2, c3, c4, c5, c6, cL⟩ := h4 hf
  obtain ⟨l1, l2, l3, l4, l5⟩ := cL
  have rW : ∀ j, txK tp j = 6 → kR (txW tp j) := fun j hj => by have := txW_r hj; exact ⟨by omega, by omega⟩
  refine ⟨by decide, fun _ => ?_, fun q => absurd q (by decide)⟩
  by_cases h8 : rdS (txK tp) t = 8
  · -- a braid
    have bg : bgS (txK tp) (txW tp) t := ⟨h1, h3, h8⟩
    have k3 := bg.k3
    have eO : rdO (txK tp) t = (rdT (txK tp) t).length := if_neg (by omega)
    have w1 := txW_r k3.2.2
    have hB : kBv X (txK tp) (txW tp) (txP tp) (rdT (txK tp) t) := ⟨by rw [c4, eO], (c6 (by omega)).1, (c6 (by omega)).2, fun i hi => ⟨(l3 i hi).1, (l3 i hi).2, l5 i (by omega)⟩⟩
    rw [c1, if_pos (by omega)]
    refine ⟨by decide, fun q => absurd q (by decide), fun _ => ?_⟩
    refine sp_braidStands (d := d + 3) hB bg.len ⟨by omega, by omega⟩ (fun i hi => rW _ (bg.at hi).2.2) (fun f p Y hm y1 fY => ?_)
    have fY' : ∀ b j, ¬ (3 ≤ b ∧ b ≤ 12 ∨ b = 1 ∧ 1 ≤ j ∧ j ≤ 4 ∨ 209 ≤ b ∧ b ≤ 223) → Y b j = V b j := fun b j hb => by rw [fY b j (by omega)]; exact fX b j hb
    by_cases z : f = 0
    rotate_left
    · rw [if_neg z]
      have := k f p ([], []) Y ⟨t, h1, h2, h3, Or.inr (Or.inr ⟨hf, h8, f, p, hm, Or.inl ⟨z, rfl, rfl⟩⟩)⟩ y1 (fun q => absurd q z) fY'
      rw [if_neg z] at this
      exact ⟨by decide, fun q => absurd rfl q, fun _ => ⟨_, rfl, this⟩⟩
    subst z
    rw [if_pos rfl]
    refine ⟨by decide, fun _ => ?_, fun q => absurd q (by decide)⟩
    have hg : (2 ≤ txW tp 1 ∧ txW tp 1 ≤ 4) ∧ ∀ j, j < (rdT (txK tp) t).length → 1 ≤ txW tp ((rdT (txK tp) t).getD j 0) ∧ txW tp ((rdT (txK tp) t).getD j 0) < txW tp 1 := by
      rcases hm with ⟨_, q, _⟩ | ⟨_, _, _, _, _, q, _⟩ | ⟨q1, q2, _⟩
      · exact absurd q (by decide)
      · exact absurd q (by decide)
      · exact ⟨q1, q2⟩
    obtain ⟨ok, pl⟩ := brL_ok (s := (txW tp 1).toNat) bg (by omega) (by omega) (by omega) hg.2
    have hB2 : kBv Y (txK tp) (txW tp) (txP tp) (rdT (txK tp) t) := by
      obtain ⟨b1, b2, b3, b4⟩ := hB
      refine ⟨by rw [fY 3 7 (by omega)]; exact b1, by rw [fY 3 4 (by omega)]; exact b2, by rw [fY 3 5 (by omega)]; exact b3, fun i hi => ?_⟩
      rw [fY 5 i (by omega), fY 6 i (by omega), fY 9 i (by omega)]; exact b4 i hi
    refine sp_weave (d := d + 3) (s := (txW tp 1).toNat) (by decide +kernel) (by decide) hB2 bg.len (by omega) (by omega) (by omega) hg.2 ok (fun Z zR fZ => ?_)
    refine sp_trace (d := d + 2) (by decide +kernel) (by decide +kernel) (by decide) zR ok (fun U uD fU => ?_)
    have uR := zR.fr (fun a j ha => fU a j (by omega))
    have fU' : ∀ b j, ¬ (3 ≤ b ∧ b ≤ 12 ∨ b = 1 ∧ 1 ≤ j ∧ j ≤ 4 ∨ 209 ≤ b ∧ b ≤ 223) → U b j = V b j := fun b j hb => by rw [fU b j (by omega), fZ b j (by omega)]; exact fY' b j hb
    refine sp_isPlane (d := d + 2) (by decide +kernel) (by decide +kernel) uR ok uD (fun _ => ⟨by decide, fun _ => ⟨_, rfl, ?_⟩, fun q => absurd q (by decide)⟩) (fun np => absurd pl np)
    have := k 0 0 _ U ⟨t, h1, h2, h3, Or.inr (Or.inr ⟨hf, h8, 0, p, hm, Or.inr ⟨rfl, rfl, rfl, rfl⟩⟩)⟩ (fun q => absurd rfl q) (fun _ => ⟨uR, ok⟩) fU'
    exact this
  · -- rings
    obtain ⟨rg, hE⟩ := rg_of h1 h3 hf h8
    have sS := rg.2.2.2
    obtain ⟨q1, q2, q3⟩ := rg.len
    have eO : rdO (txK tp) t = (rdT (txK tp) t).length := if_neg (by omega)
    have hV : kRv X (txK tp) (txW tp) (txP tp) (rdT (txK tp) t) (rdU (txK tp) (txW tp) t) := ⟨by rw [c4, eO], c3, fun i hi => ⟨(l3 i hi).1, (l3 i hi).2, (l4 (by omega) i hi).1, l5 i (by omega), (l4 (by omega) i hi).2⟩⟩
    rw [c1, if_neg (by omega)]
    refine ⟨by decide, fun _ => ?_, fun q => absurd rfl q⟩
    refine sp_ringsStand (d := d + 3) hV q1 q3 (rdU_nodup t) (fun i hi => rW _ (rg.at hi).2.2.1) (fun f p Y hm y1 fY => ?_)
    have fY' : ∀ b j, ¬ (3 ≤ b ∧ b ≤ 12 ∨ b = 1 ∧ 1 ≤ j ∧ j ≤ 4 ∨ 209 ≤ b ∧ b ≤ 223) → Y b j = V b j := fun b j hb => by rw [fY b j (by omega)]; exact fX b j hb
    by_cases z : f = 0
    rotate_left
    · rw [if_neg z]
      have := k f p ([], []) Y ⟨t, h1, h2, h3, Or.inr (Or.inl ⟨hf, h8, f, p, hm, Or.inl ⟨z, rfl, rfl⟩⟩)⟩ y1 (fun q => absurd q z) fY'
      rw [if_neg z] at this
      exact ⟨by decide, fun q => absurd rfl q, fun _ => ⟨_, rfl, this⟩⟩
    subst z
    rw [if_pos rfl]
    refine ⟨by decide, fun _ => ?_, fun q => absurd q (by decide)⟩
    have hg : rgG (txK tp) (txW tp) t := by
      rcases hm with ⟨i, _, _, a, b, _⟩ | ⟨_, _, _, _, _, q, _⟩ | ⟨q1, q2, _⟩
      · exact absurd b.symm a
      · exact absurd q (by decide)
      · exact ⟨rg, q1, q2⟩
    have ok := hg.ok
    refine sp_string (d := d + 4) (r := 209) (by decide +kernel) (by decide) hg (hV.fr (fun b j h1 h2 => fY b j (by omega))) (by rw [fY 3 3 (by omega)]; exact c2) (fun i hi => by rw [fY 4 i (by omega)]; exact l1 i hi) (fun Z zR fZ => ?_)
    refine sp_trace (d := d + 2) (by decide +kernel) (by decide +kernel) (by decide) zR ok (fun U uD fU => ?_)
    have uR := zR.fr (fun a j ha => fU a j (by omega))
    have fU' : ∀ b j, ¬ (3 ≤ b ∧ b ≤ 12 ∨ b = 1 ∧ 1 ≤ j ∧ j ≤ 4 ∨ 209 ≤ b ∧ b ≤ 223) → U b j = V b j := fun b j hb => by rw [fU b j (by omega), fZ b j (by omega)]; exact fY' b j hb
    refine sp_isPlane (d := d + 2) (by decide +kernel) (by decide +kernel) uR ok uD (fun pl => ⟨by decide, fun _ => ⟨_, rfl, ?_⟩, fun q => absurd q (by decide)⟩) (fun np => ⟨by decide, fun q => absurd rfl q, fun _ => ⟨_, rfl, ?_⟩⟩)
    · have := k 0 0 _ U ⟨t, h1, h2, h3, Or.inr (Or.inl ⟨hf, h8, 0, p, hm, Or.inr (Or.inr ⟨rfl, pl, rfl, rfl, rfl⟩)⟩)⟩ (fun q => absurd rfl q) (fun _ => ⟨uR, ok⟩) fU'
      exact this
    · rw [len U fU']
      have := k 6 tp.length ([], []) (up (up U 3 0 6) 3 1 (tp.length : Int)) ⟨t, h1, h2, h3, Or.inr (Or.inl ⟨hf, h8, 0, p, hm, Or.inr (Or.inl ⟨rfl, np, rfl, rfl⟩)⟩)⟩ (fun _ => ⟨by rw [up_ne (by omega), up_at], up_at _ _ _ _⟩) (fun q => absurd q (by decide)) (fun b j hb => by rw [up_ne (by omega), up_ne (by omega)]; exact fU' b j hb)
      exact this
end RDD
section MRD
variable {xs : Nat → Int32} {Lx d : Nat} {V : km_V} {tp : List Int} {R : Rw} {ps : List Rw} {hs : Hs}
theorem sp_mread {G : Int → km_V → Prop} (hM : kM V R ps hs) (okR : rwOk R) (hT : kTm V tp) (hl : tp.length ≤ 2000) (hky : kKy V) (k : ∀ f p S X, rdRes tp f p S → (∀ b j, b < 299 ∨ b = 300 ∨ b = 306 → X b j = V b j) → X 299 2 = 0 → (f ≠ 0 → X 299 16 = (p : Int) ∧ kM X R ps hs) → (f = 0 → X 299 16 = -1 ∧ kM X S [] (fun _ => none)) → G f X) : kCI xs Lx (d + 5) 141 2 [.ref 299] V G := by
  have Pr : ∀ t, (txP tp t : Int) ≤ 2000 := fun t => by have := txP_le (tp := tp) t; omega
  refine b141_0 ?_
  rw [hT.1]
  -- the bytes copied
  refine kloop tp.length (fun i X => (∀ j, j < i → X 301 j % 256 = tp.getD j 0 % 256) ∧ (∀ b j, b ≠ 301 → X b j = up V 299 4 (tp.length : Int) b j)) (fun i X => kGo xs Lx (d + 5) 141 10 [some (.ref 299), some (kI (i : Int))] [] X (fun r V' => ∃ v : Int, r = some (kI v) ∧ G v V')) (fun X hX => ?_) (fun i X hi hX ih => ?_) 0 _ (Nat.zero_le _) ⟨fun j h => absurd h (Nat.not_lt_zero _), fun _ _ _ => rfl⟩
  rotate_left
  · obtain ⟨x1, x2⟩ := hX
    refine b141_10 ?_
    rw [x2 299 4 (by omega), up_at, tn, x2 300 i (by omega), up_ne (show ¬ (300 = 299 ∧ i = 4) by omega), hT.2 i hi]
    refine ⟨by omega, by omega, fun q => by omega, fun _ => ⟨⟨by omega, by omega⟩, ih _ ⟨fun j hj => ?_, fun b j hb => ?_⟩⟩⟩
    · by_cases e : j = i
      · subst e; rw [up_at]; unfold k8; omega
      · rw [up_ne (by omega)]; exact x1 j (by omega)
    · rw [up_ne (by omega)]; exact x2 b j hb
  obtain ⟨x1, x2⟩ := hX
  refine b141_10 ?_
  rw [x2 299 4 (by omega), up_at]
  refine ⟨by omega, by omega, fun _ => ?_, fun q => by omega⟩
  refine sp_cutsText (d := d + 2) (tp := tp) hl ⟨by rw [up_ne (by omega), x2 299 4 (by omega), up_at], fun j hj => by rw [up_ne (by omega)]; exact x1 j hj⟩ (fun i hi => by rw [up_ne (by omega), x2 306 i (by omega), up_ne (by omega)]; exact hky i hi) (fun W1 N n1 n2 tk1 tk2 tk3 fW => ?_)
  generalize hW2 : (up (up (up (up (up W1 299 11 0) 299 12 0) 299 14 0) 299 20 0) 299 21 0) = W2
  have w2 : ∀ b j, ¬ (b = 299 ∧ (j = 11 ∨ j = 12 ∨ j = 14 ∨ j = 20 ∨ j = 21)) → W2 b j = W1 b j := fun b j hb => by
    rw [← hW2, up_ne (by omega), up_ne (by omega), up_ne (by omega), up_ne (by omega), up_ne (by omega)]
  have w11 : W2 299 11 = 0 := by rw [← hW2, up_ne (by omega), up_ne (by omega), up_ne (by omega), up_ne (by omega), up_at]
  have w12 : W2 299 12 = 0 := by rw [← hW2, up_ne (by omega), up_ne (by omega), up_ne (by omega), up_at]
  have w14 : W2 299 14 = 0 := by rw [← hW2, up_ne (by omega), up_ne (by omega), up_at]
  have w20 : W2 299 20 = 0 := by rw [← hW2, up_ne (by omega), up_at]
  have w21 : W2 299 21 = 0 := by rw [← hW2, up_at]
  have fV : ∀ b j, ¬ (b = 299 ∧ (j = 2 ∨ j = 4 ∨ j = 10 ∨ j = 11 ∨ j = 12 ∨ j = 14 ∨ j = 20 ∨ j = 21) ∨ 301 ≤ b ∧ b ≤ 305) → W2 b j = V b j := fun b j hb => by
    rw [w2 b j (by omega), fW b j (by omega), up_ne (by omega), x2 b j (by omega), up_ne (by omega)]
  have v2 : W2 299 2 = 0 := by rw [w2 299 2 (by omega), fW 299 2 (by omega), up_at]
  have v4 : W2 299 4 = (tp.length : Int) := by rw [w2 299 4 (by omega), fW 299 4 (by omega), up_ne (by omega), x2 299 4 (by omega), up_at]
  have inT : ∀ t, t ≤ 400 → (∀ j, j < t → txK tp j ≠ 0) → t < N := by
    intro t ht hj
    rcases tk3 with q | q
    · omega
    · apply Decidable.byContradiction
      intro n
      have z := hj (N - 1) (by omega)
      rw [txK_M] at z
      exact z (by show kOf (mtK tp (tkQ tp (tkP tp (N - 1)))) = 0; rw [q]; rfl)
  have hx : mTx W2 tp := fun t ht hj => by
    obtain ⟨a, b, c⟩ := tk1.2 t (inT t ht hj)
    rw [w2 302 t (by omega), w2 303 t (by omega), w2 304 t (by omega)]
    exact ⟨a, b, c⟩
  have v10 : ∀ t, t ≤ 400 → (∀ j, j < t → txK tp j ≠ 0) → txK tp t = 0 → W2 299 10 = (t : Int) + 1 := by
    intro t ht hj h0
    have l := inT t ht hj
    have e : N = t + 1 := by
      apply Decidable.byContradiction
      intro n
      exact tk2 t (by omega) ((txM_iff tp t).1.mpr h0)
    rw [w2 299 10 (by omega), tk1.1, e]; rfl
  have A0 : mAt W2 W2 tp 0 0 := ⟨fun _ _ _ => rfl, fun j hj => absurd hj (Nat.not_lt_zero _), by decide, w11, w12, w20, fun j hj => absurd hj (Nat.not_lt_zero _), w21⟩
  -- the end: out of the zeroing loop
  have fin : ∀ X : km_V, (∀ b j, ¬ (b = 299 ∧ (11 ≤ j ∧ j ≤ 13 ∨ j = 20 ∨ j = 21) ∨ b = 309) → X b j = W2 b j) → (∀ Y : km_V, (∀ b j, b ≠ 308 → Y b j = X b j) → (∀ j, j < 78 → Y 308 j = 0) → kGo xs Lx (d + 5) 141 110 [some (.ref 299), some (kI ((78 : Nat) : Int))] [] Y (fun r V' => ∃ v : Int, r = some (kI v) ∧ G v V')) → kGo xs Lx (d + 5) 141 110 [some (.ref 299), some (kI 0)] [] X (fun r V' => ∃ v : Int, r = some (kI v) ∧ G v V') := by
    intro X _ hY
    refine kloop 78 (fun i Y => (∀ j, j < i → Y 308 j = 0) ∧ (∀ b j, b ≠ 308 → Y b j = X b j)) (fun i Y => kGo xs Lx (d + 5) 141 110 [some (.ref 299), some (kI (i : Int))] [] Y (fun r V' => ∃ v : Int, r = some (kI v) ∧ G v V')) (fun Y hYY => hY Y hYY.2 hYY.1) (fun i Y hi hYY ih => ?_) 0 X (Nat.zero_le _) ⟨fun j h => absurd h (Nat.not_lt_zero _), fun _ _ _ => rfl⟩
    refine b141_110 ⟨by omega, fun q => by omega, fun _ => ⟨⟨by omega, by omega⟩, ih _ ⟨fun j hj => ?_, fun b j hb => ?_⟩⟩⟩
    · rw [tn]
      by_cases e : j = i
      · subst e; rw [up_at]
      · rw [up_ne (by omega)]; exact hYY.1 j (by omega)
    · rw [up_ne (by omega)]; exact hYY.2 b j hb
  have bad : ∀ X, mBd W2 X tp → kGo xs Lx (d + 5) 141 110 [some (.ref 299), some (kI 0)] [] X (fun r V' => ∃ v : Int, r = some (kI v) ∧ G v V') := by
    intro X ⟨b1, t, b2, b3, b4, b5, b6, b7, b8⟩
    refine fin X b1 (fun Y y1 y2 => ?_)
    have r := rdFault_r (txK tp) t
    have z12 : Y 299 12 = rdFault (txK tp) t := by rw [y1 299 12 (by omega)]; exact b7
    have z13 : Y 299 13 = (txP tp t : Int) := by rw [y1 299 13 (by omega)]; exact b8
    refine b141_110 ?_
    rw [up_ne (show ¬ (299 = 299 ∧ 12 = 16) by omega), up_ne (show ¬ (299 = 299 ∧ 12 = 16) by omega), up_ne (show ¬ (299 = 299 ∧ 12 = 16) by omega), z12, z13]
    refine ⟨by decide, fun _ => ⟨⟨by omega, by omega⟩, fun _ => ⟨fun q => by omega, fun _ => ⟨⟨by omega, by omega⟩, fun q => by omega, fun _ => ⟨_, rfl, ?_⟩⟩⟩, fun q => absurd q b5⟩, fun q => absurd q (by decide)⟩
    refine k (rdFault (txK tp) t) (txP tp t) ([], []) _ ⟨t, b2, b3, b4, Or.inl ⟨b5, rfl, rfl⟩⟩ (fun b j hb => ?_) ?_ (fun _ => ⟨up_at _ _ _ _, ?_⟩) (fun q => absurd q b5)
    · rw [up_ne (by omega), y1 b j (by omega), b1 b j (by omega)]; exact fV b j (by omega)
    · rw [up_ne (by omega), y1 299 2 (by omega), b1 299 2 (by omega)]; exact v2
    · exact hM.fr okR (fun b j hb => by rw [up_ne (by omega), y1 b j (by omega), b1 b j (by omega)]; exact fV b j (by omega))
  have good : ∀ t X, mAt W2 X tp t t → (rdS (txK tp) t = 0 ∨ rdS (txK tp) t = 4 ∨ rdS (txK tp) t = 8) → txK tp t = 0 → kGo xs Lx (d + 5) 141 110 [some (.ref 299), some (kI 0)] [] X (fun r V' => ∃ v : Int, r = some (kI v) ∧ G v V') := by
    intro t X ⟨b1, b2, b3, b4, b5, b6, b7, b8⟩ hs' hE
    refine fin X b1 (fun Y y1 y2 => ?_)
    have hf : rdFault (txK tp) t = 0 := by unfold rdFault; rw [if_pos hE, if_pos hs']
    have np : ¬ rdPass (txK tp) (txW tp) t := fun q => q.1 hE
    have nz : ∀ j, j < t → txK tp j ≠ 0 := fun j hj => (b2 j hj).1
    have fY : ∀ b j, ¬ (b = 299 ∧ (11 ≤ j ∧ j ≤ 13 ∨ j = 20 ∨ j = 21) ∨ b = 309 ∨ b = 308) → Y b j = W2 b j := fun b j hb => by rw [y1 b j (by omega)]; exact b1 b j (by omega)
    have hxY : mTx Y tp := fun u hu hj => by
      rw [fY 302 u (by omega), fY 303 u (by omega), fY 304 u (by omega)]; exact hx u hu hj
    have z12 : Y 299 12 = 0 := by rw [y1 299 12 (by omega)]; exact b5
    have z14 : Y 299 14 = 0 := by rw [fY 299 14 (by omega)]; exact w14
    -- what comes behind the meaning
    have behind : ∀ (f : Int) (p : Nat) (S : Rw) (U : km_V), rdRes tp f p S → (∀ b j, ¬ (b = 299 ∧ (j = 14 ∨ j = 15 ∨ j = 25 ∨ j = 32) ∨ b = 308 ∨ 310 ≤ b ∧ b ≤ 322) → U b j = Y b j) → 0 ≤ f → f ≤ 6 → U 299 14 = f → (f ≠ 0 → U 299 15 = (p : Int)) → (f = 0 → kRf (U 308) S ∧ rwOk S) → (kR (U 299 12)) ∧ (((U 299 12) ≤ 0 → (kR (U 299 14)) ∧ (((U 299 14) ≤ 0 → (kR ((up U 299 16 (-1)) 299 12)) ∧ ((((up U 299 16 (-1)) 299 12) ≤ 0 → (kR ((up U 299 16 (-1)) 299 14)) ∧ ((((up U 299 16 (-1)) 299 14) ≤ 0 → kCV xs Lx (d + 4) 156 3 [.ref 308, .ref 307] (up U 299 16 (-1)) (fun W5 => kGo xs Lx (d + 5) 141 215 [some (.ref 299), some (kI 0)] [] (up W5 299 39 0) (fun r V' => ∃ v : Int, r = some (kI v) ∧ G v V'))) ∧ (0 < ((up U 299 16 (-1)) 299 14) → ∃ v : Int, some (kI ((up U 299 16 (-1)) 299 14)) = some (kI v) ∧ G v (up U 299 16 (-1))))) ∧ (0 < ((up U 299 16 (-1)) 299 12) → ∃ v : Int, some (kI ((up U 299 16 (-1)) 299 12)) = some (kI v) ∧ G v (up U 299 16 (-1))))) ∧ (0 < (U 299 14) → (kR ((up U 299 16 (U 299 15)) 299 12)) ∧ ((((up U 299 16 (U 299 15)) 299 12) ≤ 0 → (kR ((up U 299 16 (U 299 15)) 299 14)) ∧ ((((up U 299 16 (U 299 15)) 299 14) ≤ 0 → kCV xs Lx (d + 4) 156 3 [.ref 308, .ref 307] (up U 299 16 (U 299 15)) (fun W6 => kGo xs Lx (d + 5) 141 215 [some (.ref 299), some (kI 0)] [] (up W6 299 39 0) (fun r V' => ∃ v : Int, r = some (kI v) ∧ G v V'))) ∧ (0 < ((up U 299 16 (U 299 15)) 299 14) → ∃ v : Int, some (kI ((up U 299 16 (U 299 15)) 299 14)) = some (kI v) ∧ G v (up U 299 16 (U 299 15))))) ∧ (0 < ((up U 299 16 (U 299 15)) 299 12) → ∃ v : Int, some (kI ((up U 299 16 (U 299 15)) 299 12)) = some (kI v) ∧ G v (up U 299 16 (U 299 15))))))) ∧ (0 < (U 299 12) → (kR ((up U 299 16 (U 299 13)) 299 12)) ∧ ((((up U 299 16 (U 299 13)) 299 12) ≤ 0 → (kR ((up U 299 16 (U 299 13)) 299 14)) ∧ ((((up U 299 16 (U 299 13)) 299 14) ≤ 0 → kCV xs Lx (d + 4) 156 3 [.ref 308, .ref 307] (up U 299 16 (U 299 13)) (fun W7 => kGo xs Lx (d + 5) 141 215 [some (.ref 299), some (kI 0)] [] (up W7 299 39 0) (fun r V' => ∃ v : Int, r = some (kI v) ∧ G v V'))) ∧ (0 < ((up U 299 16 (U 299 13)) 299 14) → ∃ v : Int, some (kI ((up U 299 16 (U 299 13)) 299 14)) = some (kI v) ∧ G v (up U 299 16 (U 299 13))))) ∧ (0 < ((up U 299 16 (U 299 13)) 299 12) → ∃ v : Int, some (kI ((up U 299 16 (U 299 13)) 299 12)) = some (kI v) ∧ G v (up U 299 16 (U 299 13)))))) := by
      intro f p S U hr fU f0 f6 u14 u15 uS
      have u12 : U 299 12 = 0 := by rw [fU 299 12 (by omega)]; exact z12
      have e12 : ∀ y, up U 299 16 y 299 12 = 0 := fun y => by rw [up_ne (by omega)]; exact u12
      have e14 : ∀ y, up U 299 16 y 299 14 = f := fun y => by rw [up_ne (by omega)]; exact u14
      simp only [e12, e14]
      rw [u12, u14]
      have fUV : ∀ b j, ¬ (b = 299 ∧ (j = 2 ∨ j = 4 ∨ 10 ≤ j ∧ j ≤ 15 ∨ j = 20 ∨ j = 21 ∨ j = 25 ∨ j = 32) ∨ 301 ≤ b ∧ b ≤ 305 ∨ 308 ≤ b ∧ b ≤ 322) → U b j = V b j := fun b j hb => by
        rw [fU b j (by omega), fY b j (by omega)]; exact fV b j (by omega)
      have u2 : U 299 2 = 0 := by rw [fU 299 2 (by omega), fY 299 2 (by omega)]; exact v2
      refine ⟨by decide, fun _ => ⟨⟨by omega, by omega⟩, fun l => ⟨by decide, fun _ => ⟨⟨by omega, by omega⟩, fun _ => ?_, fun q => by omega⟩, fun q => absurd q (by decide)⟩, fun g => ⟨by decide, fun _ => ⟨⟨by omega, by omega⟩, fun q => by omega, fun _ => ⟨_, rfl, ?_⟩⟩, fun q => absurd q (by decide)⟩⟩, fun q => absurd q (by decide)⟩
      · have fz : f = 0 := by omega
        obtain ⟨uR, uok⟩ := uS fz
        refine sp_copies (d := d + 4) (by decide +kernel) (by decide +kernel) (by decide) (fun C c1 c2 => ?_)
        refine kloop 3 (fun i X' => (∀ s, s < i → X' 325 s = 0) ∧ (∀ b j, b ≠ 325 → X' b j = up C 299 39 0 b j)) (fun i X' => kGo xs Lx (d + 5) 141 215 [some (.ref 299), some (kI (i : Int))] [] X' (fun r V' => ∃ v : Int, r = some (kI v) ∧ G v V')) (fun X' hX' => ?_) (fun i X' hi hX' ih => ?_) 0 _ (Nat.zero_le _) ⟨fun s h => absurd h (Nat.not_lt_zero _), fun _ _ _ => rfl⟩
        · obtain ⟨a1, a2⟩ := hX'
          have aC : ∀ b j, b ≠ 325 → b ≠ 307 → ¬ (b = 299 ∧ (j = 39 ∨ j = 16)) → X' b j = U b j := fun b j h1 h2 h3 => by
            rw [a2 b j h1, up_ne (by omega), c2 b j h2, up_ne (by omega)]
          refine b141_215 ⟨by decide, fun _ => ⟨_, rfl, ?_⟩, fun q => absurd q (by decide)⟩
          have hk := k f p S X' hr (fun b j hb => by rw [aC b j (by omega) (by omega) (by omega)]; exact fUV b j (by omega)) (by rw [aC 299 2 (by omega) (by omega) (by omega)]; exact u2) (fun q => absurd fz q) (fun _ => ⟨?_, ?_, ?_, ?_⟩)
          · rw [fz] at hk; exact hk
          · rw [a2 299 16 (by omega), up_ne (by omega), c2 299 16 (by omega), up_at]
          · refine uR.fr uok (fun j hj => ?_)
            rw [a2 307 j (by omega), up_ne (by omega), c1 j hj, up_ne (by omega)]
          · obtain ⟨_, e, he, e2, _⟩ := hM.2.1
            refine ⟨by rw [a2 299 39 (by omega), up_at]; rfl, e, he, ?_, fun i hi => absurd hi (Nat.not_lt_zero _)⟩
            rw [aC 299 38 (by omega) (by omega) (by omega), fUV 299 38 (by omega)]; exact e2
          · intro s hs'
            exact ⟨fun _ => a1 s hs', fun S' q => absurd q (by simp)⟩
        · refine b141_215 ⟨by omega, fun q => by omega, fun _ => ⟨⟨by omega, by omega⟩, ih _ ⟨fun s hs' => ?_, fun b j hb => ?_⟩⟩⟩
          · rw [tn]
            by_cases e : s = i
            · subst e; rw [up_at]
            · rw [up_ne (by omega)]; exact hX'.1 s (by omega)
          · rw [up_ne (by omega)]; exact hX'.2 b j hb
      · rw [u15 (by omega)]
        refine k f p S _ hr (fun b j hb => ?_) ?_ (fun _ => ⟨up_at _ _ _ _, ?_⟩) (fun q => by omega)
        · rw [up_ne (by omega)]; exact fUV b j (by omega)
        · rw [up_ne (by omega)]; exact u2
        · exact hM.fr okR (fun b j hb => by rw [up_ne (by omega)]; exact fUV b j (by omega))
    refine b141_110 ?_
    rw [z12]
    refine ⟨by decide, fun _ => ⟨by decide, fun q => absurd rfl q, fun _ => ?_⟩, fun q => absurd q (by decide)⟩
    by_cases h8 : rdS (txK tp) t = 8
    · have bg : bgS (txK tp) (txW tp) t := ⟨b2, b3, h8⟩
      refine sp_meansB (d := d) (T := t) bg hxY z12 z14 y2 hl (fun s es s2 s4 hw => (brL_ok bg es s2 s4 hw).1) (fun f p U hm fU u1 u2 => ?_)
      have hf6 : f = 0 ∨ f = 5 := by
        rcases hm with ⟨_, q, _⟩ | ⟨_, _, _, _, _, q, _⟩ | ⟨_, _, q, _⟩
        · exact Or.inr q
        · exact Or.inr q
        · exact Or.inl q
      rcases hf6 with z | z
      · have w1 := txW_r bg.k3.2.2
        have hg : (2 ≤ txW tp 1 ∧ txW tp 1 ≤ 4) ∧ ∀ j, j < (rdT (txK tp) t).length → 1 ≤ txW tp ((rdT (txK tp) t).getD j 0) ∧ txW tp ((rdT (txK tp) t).getD j 0) < txW tp 1 := by
          rcases hm with ⟨_, q, _⟩ | ⟨_, _, _, _, _, q, _⟩ | ⟨q1, q2, _⟩
          · omega
          · omega
          · exact ⟨q1, q2⟩
        have ok := (brL_ok (s := (txW tp 1).toNat) bg (by omega) (by omega) (by omega) hg.2).1
        exact behind 0 0 (brRw (brA (txW tp) (rdT (txK tp) t)) (brB (txK tp) (rdT (txK tp) t)) (rdT (txK tp) t).length (txW tp 1).toNat) U ⟨t, b2, np, b3, Or.inr (Or.inr ⟨hf, h8, f, p, hm, Or.inr ⟨z, rfl, rfl, rfl⟩⟩)⟩ (fun b j hb => fU b j (by omega)) (by decide) (by decide) (u2 z).1 (fun q => absurd rfl q) (fun _ => ⟨(u2 z).2 _ (by omega), ok⟩)
      · exact behind f p ([], []) U ⟨t, b2, np, b3, Or.inr (Or.inr ⟨hf, h8, f, p, hm, Or.inl ⟨by omega, rfl, rfl⟩⟩)⟩ (fun b j hb => fU b j (by omega)) (by omega) (by omega) (u1 (by omega)).1 (fun q => (u1 q).2) (fun q => by omega)
    · obtain ⟨rg, _⟩ := rg_of b2 b3 hf h8
      refine sp_meansR (d := d) (T := t) rg hE hxY (by rw [fY 299 10 (by omega)]; exact v10 t b3 nz hE) z12 z14 (by rw [y1 299 20 (by omega)]; exact b6) (fun j hj => by rw [y1 309 j (by omega)]; exact b7 j hj) y2 hl (by rw [fY 299 4 (by omega)]; exact v4) (fun f p U hm fU u1 u2 => ?_)
      have hf6 : f = 0 ∨ f = 3 ∨ f = 4 ∨ f = 5 := by
        rcases hm with ⟨i, _, _, _, q, _⟩ | ⟨_, _, _, _, _, q, _⟩ | ⟨_, _, q, _⟩
        · have := rfb_r (K := txK tp) (W := txW tp) (L := rdT (txK tp) t) (i := i); omega
        · omega
        · exact Or.inl q
      by_cases z : f = 0
      · obtain ⟨g1, g2, g3, g4⟩ := u2 z
        by_cases pl : rwPl (rdRw (txK tp) (txW tp) t)
        · exact behind 0 0 (rdRw (txK tp) (txW tp) t) U ⟨t, b2, np, b3, Or.inr (Or.inl ⟨hf, h8, f, p, hm, Or.inr (Or.inr ⟨z, pl, rfl, rfl, rfl⟩)⟩)⟩ (fun b j hb => fU b j (by omega)) (by decide) (by decide) (g3 pl) (fun q => absurd rfl q) (fun _ => ⟨g2, g1.ok⟩)
        · exact behind 6 tp.length ([], []) U ⟨t, b2, np, b3, Or.inr (Or.inl ⟨hf, h8, f, p, hm, Or.inr (Or.inl ⟨z, pl, rfl, rfl⟩)⟩)⟩ (fun b j hb => fU b j (by omega)) (by decide) (by decide) (g4 pl).1 (fun _ => (g4 pl).2) (fun q => absurd q (by decide))
      · exact behind f p ([], []) U ⟨t, b2, np, b3, Or.inr (Or.inl ⟨hf, h8, f, p, hm, Or.inl ⟨z, rfl, rfl⟩⟩)⟩ (fun b j hb => fU b j (by omega)) (by omega) (by omega) (u1 z).1 (fun q => (u1 q).2) (fun q => absurd q z)
  have a := A0.is hx (k := 23) (by decide)
  have a2 := ite01 a.2
  have ff := (txM_iff tp 0).2.2.2.2.2.2.2.2
  refine ⟨a.1, a2.1, fun z => ?_, fun n => ?_⟩
  · have n3 : txK tp 0 ≠ 3 := fun q => a2.2.1 z (ff.mpr q)
    exact rd_loop (d := d) hx good bad 401 0 W2 rfl A0 (Or.inl ⟨rfl, n3⟩)
  · exact sp_tellBraid (d := d + 1) hx A0 (ff.mp (a2.2.2 n)) (fun t W h1 h2 h3 => good t W h1 (Or.inr (Or.inr h2)) h3) bad
end MRD
section BRD
variable {xs : Nat → Int32} {Lx d : Nat} {V : km_V} {R : Rw} {hs : Hs} {ps : List Rw} {tp : List Int} {pl : Int}
theorem bo_read {K : Int → Int → km_V → Prop} (hI : kInv V R ps hs tp pl) (k : ∀ y W R' ps' hs' tp' pl', kInv W R' ps' hs' tp' pl' → K y y W) : kCI xs Lx (d + 12) 93 3 [.ref 0] V (fun y1 W1 => kCI xs Lx (d + 12) 141 2 [.ref 299] W1 (fun y2 W2 => K y1 y2 W2)) := by
  obtain ⟨hC, hM, ok, hT, hTm, hl, p1, p2, hky⟩ := hI
  refine b93_0 ?_
  refine sp_reads (d := d + 6) hT hl (fun f p S X hr x1 x2 fX => ?_)
  -- then the model
  have model : ∀ (Z : km_V) (R1 : Rw) (ps1 : List Rw) (hs1 : Hs) (pl1 : Int), (∀ b j, 299 ≤ b → Z b j = V b j) → kC Z R1 ps1 hs1 → kTc Z [] → Z 0 16 = pl1 → (f = 0 → R1 = S ∧ ps1 = [] ∧ (hs1 = fun _ => none) ∧ pl1 = -1 ∧ rwOk S) → (f ≠ 0 → R1 = R ∧ ps1 = ps ∧ hs1 = hs ∧ pl1 = (p : Int)) → kCI xs Lx (d + 12) 141 2 [.ref 299] Z (fun y2 W2 => K f y2 W2) := by
    intro Z R1 ps1 hs1 pl1 fZ zC zT z16 z0 z1
    refine sp_mread (d := d + 7) (tp := tp) (hM.fr ok.1 (fun b j hb => fZ b j (by omega))) ok.1 (hTm.fr (fun b j hb => fZ b j (by omega))) hl (fun i hi => by rw [fZ 306 i (by omega)]; exact hky i hi) (fun f' p' S' U hr' fU u2 uf us => ?_)
    obtain ⟨e1, e2, e3⟩ := hr.uni hr'
    subst e1
    subst e2
    have cU : kC U R1 ps1 hs1 := zC.fr (fun b j hb => fU b j (by omega))
    have tU : kTc U [] := zT.fr (fun b j hb => fU b j (by omega))
    have tM : kTm U [] := ⟨u2, fun j hj => absurd hj (Nat.not_lt_zero _)⟩
    have kU : kKy U := fun i hi => by rw [fU 306 i (by omega), fZ 306 i (by omega)]; exact hky i hi
    have u16 : U 0 16 = pl1 := by rw [fU 0 16 (by omega)]; exact z16
    by_cases z : f = 0
    · obtain ⟨q1, q2, q3, q4, q5⟩ := z0 z
      have eS := e3 z
      have uu := us z
      refine k f U R1 ps1 hs1 [] pl1 ⟨cU, ?_, ⟨by rw [q1]; exact q5, ?_, ?_⟩, tU, tM, by decide, u16, by rw [q4]; exact uu.1, kU⟩
      · rw [q1, q2, q3, eS]; exact uu.2
      · rw [q2]; exact ⟨by decide, fun R h => absurd h (by simp)⟩
      · rw [q3]; intro s S h; exact absurd h (by simp)
    · obtain ⟨q1, q2, q3, q4⟩ := z1 z
      have uu := uf z
      refine k f U R1 ps1 hs1 [] pl1 ⟨cU, ?_, ?_, tU, tM, by decide, u16, by rw [q4]; exact uu.1, kU⟩
      · rw [q1, q2, q3]; exact uu.2
      · rw [q1, q2, q3]; exact ok
  by_cases z : f = 0
  · subst z
    rw [if_pos rfl]
    obtain ⟨xR, xok⟩ := x2 rfl
    refine ⟨by decide, fun _ => ?_, fun q => absurd q (by decide)⟩
    refine kloop 3 (fun i X' => (∀ s, s < i → X' 208 s = 0) ∧ (∀ b j, b ≠ 208 → X' b j = up (up (up X 1 0 0) 0 16 (-1)) 45 0 0 b j)) (fun i X' => kGo xs Lx (d + 12) 93 65 [some (.ref 0), none, some (kI (i : Int))] [] X' (fun r V' => ∃ v : Int, r = some (kI v) ∧ kCI xs Lx (d + 12) 141 2 [.ref 299] V' (fun y2 W2 => K v y2 W2))) (fun X' hX' => ?_) (fun i X' hi hX' ih => ?_) 0 _ (Nat.zero_le _) ⟨fun s h => absurd h (Nat.not_lt_zero _), fun _ _ _ => rfl⟩
    · obtain ⟨a1, a2⟩ := hX'
      refine b93_65 ⟨by decide, fun _ => ?_, fun q => absurd q (by decide)⟩
      refine sp_copy (d := d + 11) (t := 13) (s := 209) (by decide +kernel) (by decide +kernel) (xR.fr (fun a j ha => by rw [a2 a j (by omega), up_ne (by omega), up_ne (by omega), up_ne (by omega)])) xok (fun Y yR fY => ?_)
      have y45 : kPa Y [] := by
        obtain ⟨_, nx, h1, h2, _⟩ := hC.2.2.2.1
        refine ⟨by rw [fY 45 0 (by omega), a2 45 0 (by omega), up_at]; rfl, nx, h1, ?_, fun i hi => absurd hi (Nat.not_lt_zero _)⟩
        rw [fY 45 1 (by omega), a2 45 1 (by omega), up_ne (by omega), up_ne (by omega), up_ne (by omega), fX 45 1 (by omega)]; exact h2
      have yH : kHc Y (fun _ => none) := fun s hs' => ⟨fun _ => by rw [fY 208 s (by omega)]; exact a1 s hs', fun S' q => absurd q (by simp)⟩
      refine sp_changed (d := d + 8) yR xok y45 yH (fun U uC fU => ⟨_, rfl, ?_⟩)
      have fUX : ∀ b j, ¬ (13 ≤ b ∧ b ≤ 29 ∨ b = 0 ∧ (j = 13 ∨ j = 14 ∨ j = 16) ∨ b = 208 ∨ b = 45 ∧ j = 0 ∨ b = 1 ∧ j = 0) → U b j = X b j := fun b j hb => by
        rw [fU b j (by omega), fY b j (by omega), a2 b j (by omega), up_ne (by omega), up_ne (by omega), up_ne (by omega)]
      refine model U S [] (fun _ => none) (-1) (fun b j hb => ?_) uC ⟨?_, fun j hj => absurd hj (Nat.not_lt_zero _)⟩ ?_ (fun _ => ⟨rfl, rfl, rfl, rfl, xok⟩) (fun q => absurd rfl q)
      · rw [fUX b j (by omega)]; exact fX b j (by omega)
      · rw [fU 1 0 (by omega), fY 1 0 (by omega), a2 1 0 (by omega), up_ne (by omega), up_ne (by omega), up_at]; rfl
      · rw [fU 0 16 (by omega), fY 0 16 (by omega), a2 0 16 (by omega), up_ne (by omega), up_at]
    · refine b93_65 ⟨by omega, fun q => by omega, fun _ => ⟨⟨by omega, by omega⟩, ih _ ⟨fun s hs' => ?_, fun b j hb => ?_⟩⟩⟩
      · rw [tn]
        by_cases e : s = i
        · subst e; rw [up_at]
        · rw [up_ne (by omega)]; exact hX'.1 s (by omega)
      · rw [up_ne (by omega)]; exact hX'.2 b j hb
  · rw [if_neg z]
    obtain ⟨x0, x1'⟩ := x1 z
    refine ⟨by decide, fun q => absurd rfl q, fun _ => ?_⟩
    have e31 : up X 1 0 0 3 1 = (p : Int) := by rw [up_ne (by omega)]; exact x1'
    rw [e31]
    have e30 : up (up X 1 0 0) 0 16 (p : Int) 3 0 = f := by rw [up_ne (by omega), up_ne (by omega)]; exact x0
    rw [e30]
    refine ⟨_, rfl, ?_⟩
    refine model _ R ps hs (p : Int) (fun b j hb => ?_) (hC.fr (fun b j hb => ?_)) ⟨?_, fun j hj => absurd hj (Nat.not_lt_zero _)⟩ (up_at _ _ _ _) (fun q => absurd q z) (fun _ => ⟨rfl, rfl, rfl, rfl⟩)
    · rw [up_ne (by omega), up_ne (by omega)]; exact fX b j (by omega)
    · rw [up_ne (by omega), up_ne (by omega)]; exact fX b j (by omega)
    · rw [up_ne (by omega), up_at]; rfl
end BRD

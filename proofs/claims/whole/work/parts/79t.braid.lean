section BRA
variable {xs : Nat → Int32} {Lx d : Nat} {V0 V : km_V} {tp : List Int} {t : Nat}
theorem br_bad {n : Int} {G : km_V → Prop} (k0 : ∀ W, mBd V0 W tp → G W) (h : mBd V0 V tp) : kGo xs Lx (d + 3) 143 11 [some (.ref 299), some (kI n)] [] V (fun r V' => r = none ∧ G V') := by
  have a := h.is (k := 2) (by decide)
  have b := h.is (k := 6) (by decide)
  refine b143_11 ⟨a.1, by omega, fun n => absurd a.2 n, fun _ => ⟨b.1, by omega, fun _ => ?_, fun n => absurd b.2 n⟩⟩
  refine mo_mustb (d := d) (by decide) h ?_
  have h' := h
  obtain ⟨_, t, _, _, _, h1, _, h2, _⟩ := h'
  have := rdFault_r (txK tp) t
  rw [h2]
  exact ⟨⟨by omega, by omega⟩, fun _ => ⟨rfl, k0 V h⟩, fun e => absurd e h1⟩
theorem br_good {G : km_V → Prop} (hx : mTx V0 tp) (k0 : ∀ W, mBd V0 W tp → G W) (k1 : ∀ t W, mAt V0 W tp t t → rdS (txK tp) t = 8 → txK tp t = 0 → G W) : ∀ n t V, t + n = 401 → mAt V0 V tp t t → rdS (txK tp) t = 6 → kGo xs Lx (d + 3) 143 11 [some (.ref 299), some (kI ((rdT (txK tp) t).length : Int))] [] V (fun r V' => r = none ∧ G V') := by
  intro n
  induction n using Nat.strongRecOn with
  | _ n IH =>
    intro t V hn h hs
    have a := h.is hx (k := 2) (by decide)
    have b := h.is hx (k := 6) (by decide)
    have a2 := ite01 a.2
    have b2 := ite01 b.2
    have ff := txM_iff tp t
    have h400 := h.2.2.1
    have w := rdWell_all (K := txK tp) (W := txW tp) t h.2.1
    have lT := (w.c (by omega)).2.2.2
    have eight : (rdT (txK tp) t).length = 8 → (txK tp t = 6 ∨ txK tp t = 9) → ∀ V', mAt V0 V' tp t t → kCV xs Lx (d + 2) 137 2 [.ref 299, kI 2] V' (fun W4 => (none : Option Value) = none ∧ G W4) := by
      intro e8 hk V' h'
      refine mo_fail (d := d + 2) hx h' (fun q => ?_) ?_ (by omega) (fun W hW => ⟨rfl, k0 W hW⟩)
      · have := q.2.2.2.b hs hk; omega
      · unfold rdFault
        rcases hk with z | z <;> rw [hs, z] <;> decide
    have int : ∀ (u : Nat) (X : km_V), t ≤ u → mAt V0 X tp u u → (rdS (txK tp) u = 6 ∧ (rdT (txK tp) u).length < 8 ∨ rdS (txK tp) u = 7) → (rdT (txK tp) u).length = (rdT (txK tp) t).length → (txM tp u ≠ 2 → rdFault (txK tp) u = 1) → kCV xs Lx (d + 2) 140 2 [.ref 299, kI 2] X (fun W1 => kGo xs Lx (d + 3) 143 11 [some (.ref 299), some (kI (((rdT (txK tp) t).length : Int) + 1))] [] W1 (fun r V' => r = none ∧ G V')) := by
      intro u X hu hX hsu hl hbad
      have fu := (txM_iff tp u).2.1
      have hu400 := hX.2.2.1
      refine mo_must (d := d) (by decide) hx hX (fun q => ?_) hbad (fun q W hW => ?_) (fun W hW => br_bad k0 hW)
      · have e6 := fu.mp q
        refine ⟨hX.up (by omega) (by omega), by omega, ?_, fun q => by omega, fun _ q => by omega, fun q _ => by omega⟩
        rcases hsu with z | z
        · rw [z.1, e6]; decide
        · rw [z, e6]; decide
      · have e6 := fu.mp q
        have eT : rdT (txK tp) (u + 1) = rdT (txK tp) u ++ [u] := if_pos ⟨e6, by omega⟩
        have eS : rdS (txK tp) (u + 1) = 6 := by
          show stB (rdS (txK tp) u) (txK tp u) = 6
          rcases hsu with z | z
          · rw [z.1, e6]; decide
          · rw [z, e6]; decide
        have hw400 := hW.2.2.1
        have := IH (401 - (u + 1)) (by omega) (u + 1) W (by omega) hW eS
        rw [eT, List.length_append, List.length_singleton, hl] at this
        exact this
    have minus : txK tp t = 9 → (rdT (txK tp) t).length ≠ 8 → kCV xs Lx (d + 2) 139 1 [.ref 299] V (fun W7 => kCV xs Lx (d + 2) 140 2 [.ref 299, kI 2] W7 (fun W8 => kGo xs Lx (d + 3) 143 11 [some (.ref 299), some (kI (((rdT (txK tp) t).length : Int) + 1))] [] W8 (fun r V' => r = none ∧ G V'))) := by
      intro e9 n8
      have eS : stB (rdS (txK tp) t) (txK tp t) = 7 := by rw [hs, e9]; decide
      have eT : rdT (txK tp) (t + 1) = rdT (txK tp) t := if_neg (by omega)
      refine mo_pass (d := d + 1) hx (h.up (by omega) (by omega)) (by omega) (by omega) ⟨fun q => by omega, fun q => by omega, fun _ _ => by omega⟩ (fun W hW => int (t + 1) W (by omega) hW (Or.inr eS) (by rw [eT]) (fun q => ?_)) (fun W hW => mo_mustb (d := d) (by decide) hW (br_bad k0 hW))
      have n6 : txK tp (t + 1) ≠ 6 := fun y => q ((txM_iff tp (t + 1)).2.1.mpr y)
      have eS' : rdS (txK tp) (t + 1) = 7 := eS
      refine rdF_one (Or.inr (by omega)) ?_
      rw [eS']
      unfold stB
      rw [if_neg (by decide), if_neg (by decide), if_neg (by decide), if_neg (by decide), if_neg (by decide), if_neg (by decide), if_neg (by decide), if_pos rfl, if_neg n6]
    refine b143_11 ⟨a.1, a2.1, fun n => ⟨by omega, fun n8 => ⟨b.1, b2.1, fun _ => ?_, fun nn => ?_⟩, fun e8 => ?_⟩, fun z => ⟨b.1, b2.1, fun z2 => ?_, fun nn => ⟨by omega, fun n8 => ?_, fun e8 => ?_⟩⟩⟩
    · exact int t V (Nat.le_refl _) h (Or.inl ⟨hs, by omega⟩) rfl (fun q => absurd (a2.2.2 n) q)
    · have := a2.2.2 n
      have := b2.2.2 nn
      omega
    · exact eight (by omega) (Or.inl (ff.2.1.mp (a2.2.2 n))) V h
    · have n6 : txK tp t ≠ 6 := fun q => a2.2.1 z (ff.2.1.mpr q)
      have n9 : txK tp t ≠ 9 := fun q => b2.2.1 z2 (ff.2.2.2.2.1.mpr q)
      refine mo_must (d := d) (by decide) hx h (fun q => ?_) (fun q => rdF_one (Or.inr (by omega)) ?_) (fun q W hW => ?_) (fun W hW => ?_)
      · have e7 := ff.2.2.1.mp q
        exact ⟨h.up (by omega) (by omega), by omega, by rw [hs, e7]; decide, ⟨fun q => by omega, fun q => by omega, fun _ q => by omega⟩⟩
      · have n7 : txK tp t ≠ 7 := fun y => q (ff.2.2.1.mpr y)
        rw [hs]
        unfold stB
        rw [if_neg (by decide), if_neg (by decide), if_neg (by decide), if_neg (by decide), if_neg (by decide), if_neg (by decide), if_pos rfl, if_neg n7, if_neg n9, if_neg n6]
      · have e7 := ff.2.2.1.mp q
        have eS : rdS (txK tp) (t + 1) = 8 := by
          show stB (rdS (txK tp) t) (txK tp t) = 8
          rw [hs, e7]; decide
        have c := hW.is hx (k := 0) (by decide)
        have c2 := ite01 c.2
        have fc := (txM_iff tp (t + 1)).1
        rw [hW.2.2.2.2.1]
        refine ⟨by decide, fun y => absurd rfl y, fun _ => ⟨c.1, c2.1, fun y => ⟨rfl, k1 (t + 1) W hW eS (fc.mp (c2.2.2 y))⟩, fun y => ?_⟩⟩
        have n0 : txK tp (t + 1) ≠ 0 := fun q => c2.2.1 y (fc.mpr q)
        refine mo_fail1 (d := d + 2) hx hW (rdF_one (Or.inl n0) ?_) (fun X hX => ⟨rfl, k0 X hX⟩)
        rw [eS]
        unfold stB
        rw [if_neg (by decide), if_neg (by decide), if_neg (by decide), if_neg (by decide), if_neg (by decide), if_neg (by decide), if_neg (by decide), if_neg (by decide)]
      · have h' := hW
        obtain ⟨_, t, _, _, _, h1, _, h2, _⟩ := h'
        have := rdFault_r (txK tp) t
        rw [h2]
        exact ⟨⟨by omega, by omega⟩, fun _ => ⟨rfl, k0 W hW⟩, fun e => absurd e h1⟩
    · exact minus (ff.2.2.2.2.1.mp (b2.2.2 nn)) (by omega)
    · exact eight (by omega) (Or.inr (ff.2.2.2.2.1.mp (b2.2.2 nn))) V h
theorem sp_tellBraid {G : km_V → Prop} (hx : mTx V0 tp) (h : mAt V0 V tp 0 0) (h3 : txK tp 0 = 3) (k1 : ∀ t W, mAt V0 W tp t t → rdS (txK tp) t = 8 → txK tp t = 0 → G W) (k0 : ∀ W, mBd V0 W tp → G W) : kCV xs Lx (d + 3) 143 2 [.ref 299] V G := by
  refine b143_0 ?_
  have e1 : rdS (txK tp) 1 = 5 := by
    show stB 0 (txK tp 0) = 5
    rw [h3]; decide
  have s0 : rdS (txK tp) 0 = 0 := rfl
  refine mo_pass (d := d + 1) (t := 0) hx (h.up (by omega) (by omega)) (by omega) (by rw [h3, s0]; decide) (rm_triv (by omega) (by omega) (by omega)) (fun W hW => ?_) (fun W hW => mo_mustb (d := d) (by decide) hW (br_bad k0 hW))
  have hW1 : mAt V0 W tp 1 1 := hW
  have fu := (txM_iff tp 1).2.1
  refine mo_must (d := d) (by decide) hx hW1 (fun q => ?_) (fun q => rdF_one (Or.inr (by omega)) ?_) (fun q X hX => ?_) (fun X hX => br_bad k0 hX)
  · have e6 := fu.mp q
    exact ⟨hW1.up (by omega) (by omega), by omega, by rw [e1, e6]; decide, rm_triv (by omega) (by omega) (by omega)⟩
  · have n6 : txK tp 1 ≠ 6 := fun y => q (fu.mpr y)
    rw [e1]
    unfold stB
    rw [if_neg (by decide), if_neg (by decide), if_neg (by decide), if_neg (by decide), if_neg (by decide), if_pos rfl, if_neg n6]
  · have e6 := fu.mp q
    have e2 : rdS (txK tp) 2 = 6 := by
      show stB (rdS (txK tp) 1) (txK tp 1) = 6
      rw [e1, e6]; decide
    have eT1 : rdT (txK tp) 1 = [] := by
      show (if txK tp 0 = 6 ∧ rdS (txK tp) 0 ≠ 5 then rdT (txK tp) 0 ++ [0] else rdT (txK tp) 0) = []
      rw [if_neg (by omega)]; rfl
    have eT : rdT (txK tp) 2 = [] := by
      show (if txK tp 1 = 6 ∧ rdS (txK tp) 1 ≠ 5 then rdT (txK tp) 1 ++ [1] else rdT (txK tp) 1) = []
      rw [if_neg (by omega), eT1]
    have := br_good (xs := xs) (Lx := Lx) (d := d) hx k0 k1 399 2 X rfl hX e2
    rw [eT] at this
    exact this
/-- the model's tokens, all of them: up to the end, or a fault -/
theorem rd_loop {Q : Option Value → km_V → Prop} (hx : mTx V0 tp) (k1 : ∀ t W, mAt V0 W tp t t → (rdS (txK tp) t = 0 ∨ rdS (txK tp) t = 4 ∨ rdS (txK tp) t = 8) → txK tp t = 0 → kGo xs Lx (d + 5) 141 110 [some (.ref 299), some (kI 0)] [] W Q) (k0 : ∀ W, mBd V0 W tp → kGo xs Lx (d + 5) 141 110 [some (.ref 299), some (kI 0)] [] W Q) : ∀ n t V, t + n = 401 → mAt V0 V tp t t → (rdS (txK tp) t = 0 ∧ txK tp t ≠ 3 ∨ rdS (txK tp) t = 4) → kGo xs Lx (d + 5) 141 86 [some (.ref 299), none] [] V Q := by
  have bad : ∀ W, mBd V0 W tp → kGo xs Lx (d + 5) 141 86 [some (.ref 299), none] [] W Q := by
    intro W hW
    have h' := hW
    obtain ⟨_, t, _, _, _, h1, _, h2, _⟩ := h'
    have := rdFault_r (txK tp) t
    refine b141_86 ?_
    rw [h2]
    exact ⟨⟨by omega, by omega⟩, fun _ => k0 W hW, fun e => absurd e h1⟩
  intro n
  induction n using Nat.strongRecOn with
  | _ n IH =>
    intro t V hn h hs
    have a := h.is hx (k := 0) (by decide)
    have a2 := ite01 a.2
    have ff := (txM_iff tp t).1
    refine b141_86 ?_
    rw [h.2.2.2.2.1]
    refine ⟨by decide, fun y => absurd rfl y, fun _ => ⟨a.1, a2.1, fun y => k1 t V h (by omega) (ff.mp (a2.2.2 y)), fun y => ?_⟩⟩
    have n0 : txK tp t ≠ 0 := fun q => a2.2.1 y (ff.mpr q)
    refine sp_tellRing (d := d + 1) hx h hs n0 (fun t' W l hW hsW => ?_) bad
    have hw400 := hW.2.2.1
    exact IH (401 - t') (by omega) t' W (by omega) hW (Or.inr hsW)
end BRA

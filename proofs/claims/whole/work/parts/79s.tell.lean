/-! the model takes rings and braids -/
theorem txM_iff (tp : List Int) (t : Nat) : (txM tp t = 0 ↔ txK tp t = 0) ∧ (txM tp t = 2 ↔ txK tp t = 6) ∧ (txM tp t = 4 ↔ txK tp t = 7) ∧ (txM tp t = 5 ↔ txK tp t = 8) ∧ (txM tp t = 6 ↔ txK tp t = 9) ∧ (txM tp t = 20 ↔ txK tp t = 2) ∧ (txM tp t = 21 ↔ txK tp t = 4) ∧ (txM tp t = 22 ↔ txK tp t = 5) ∧ (txM tp t = 23 ↔ txK tp t = 3) := by
  rw [txK_M]
  generalize txM tp t = m
  unfold kOf
  by_cases a0 : m = 0
  · subst a0; decide
  by_cases a1 : m = 2
  · subst a1; decide
  by_cases a2 : m = 4
  · subst a2; decide
  by_cases a3 : m = 5
  · subst a3; decide
  by_cases a4 : m = 6
  · subst a4; decide
  by_cases a5 : m = 20
  · subst a5; decide
  by_cases a6 : m = 21
  · subst a6; decide
  by_cases a7 : m = 22
  · subst a7; decide
  by_cases a8 : m = 23
  · subst a8; decide
  rw [if_neg a0, if_neg a1, if_neg a2, if_neg a3, if_neg a4, if_neg a5, if_neg a6, if_neg a7, if_neg a8]
  omega
theorem rm_triv {K W : Nat → Int} {t : Nat} (a : K t ≠ 2) (b : K t = 6 → rdS K t ≠ 2) (c : rdS K t ≠ 6) : rdRoom K W t := ⟨fun q => absurd q a, fun q r => absurd r (b q), fun q => absurd q c⟩
theorem rdF_one {K : Nat → Int} {t : Nat} (a : K t ≠ 0 ∨ ¬ (rdS K t = 0 ∨ rdS K t = 4 ∨ rdS K t = 8)) (b : stB (rdS K t) (K t) = -1) : rdFault K t = 1 := by
  unfold rdFault
  by_cases z : K t = 0
  · rcases a with a | a
    · exact absurd z a
    · rw [if_pos z, if_neg a]
  · rw [if_neg z, if_pos b]
def tl144 (xs : Nat → Int32) (Lx d : Nat) (Q : Option Value → km_V → Prop) (W : km_V) : Prop := (kisC W 5) ∧ (kR (kis W 5)) ∧ (((kis W 5) ≠ 0 → kCV xs Lx (d + 2) 139 1 [.ref 299] W (fun W3 => kGo xs Lx (d + 3) 144 43 [some (.ref 299)] [] W3 Q)) ∧ ((kis W 5) = 0 → (kisC W 6) ∧ (kR (kis W 6)) ∧ (((kis W 6) = 0 → kCV xs Lx (d + 2) 137 2 [.ref 299, kI 1] W (fun W4 => kGo xs Lx (d + 3) 144 43 [some (.ref 299)] [] W4 Q)) ∧ ((kis W 6) ≠ 0 → kCV xs Lx (d + 2) 139 1 [.ref 299] W (fun W5 => kGo xs Lx (d + 3) 144 43 [some (.ref 299)] [] W5 Q)))))
def md144 (xs : Nat → Int32) (Lx d : Nat) (Q : Option Value → km_V → Prop) (W1 : km_V) : Prop := (kisC W1 2) ∧ (kR (kis W1 2)) ∧ (((kis W1 2) = 0 → kCV xs Lx (d + 2) 140 2 [.ref 299, kI 2] W1 (fun W2 => tl144 xs Lx d Q W2)) ∧ ((kis W1 2) ≠ 0 → (0 ≤ (W1 299 11) ∧ (W1 299 11) < (403 : Nat)) ∧ kCV xs Lx (d + 2) 146 2 [.ref 299, kI (W1 304 (Int.toNat (W1 299 11)))] W1 (fun W6 => kCV xs Lx (d + 2) 140 2 [.ref 299, kI 2] W6 (fun W7 => tl144 xs Lx d Q W7))))
theorem ite01 {p : Prop} [Decidable p] {y : Int} (h : y = if p then 1 else 0) : kR y ∧ (y = 0 → ¬ p) ∧ (y ≠ 0 → p) := by
  by_cases q : p
  · rw [if_pos q] at h; exact ⟨by omega, fun e => by omega, fun _ => q⟩
  · rw [if_neg q] at h; exact ⟨by omega, fun _ => q, fun n => absurd h n⟩
section RIN
variable {xs : Nat → Int32} {Lx d : Nat} {V0 V : km_V} {tp : List Int} {t : Nat}
theorem rg_bad {G : km_V → Prop} (k0 : ∀ W, mBd V0 W tp → G W) (h : mBd V0 V tp) : kGo xs Lx (d + 3) 144 43 [some (.ref 299)] [] V (fun r V' => r = none ∧ G V') := by
  have a := h.is (k := 21) (by decide)
  have b := h.is (k := 22) (by decide)
  refine b144_43 ⟨a.1, by omega, fun n => absurd a.2 n, fun _ => ⟨b.1, by omega, fun _ => ?_, fun n => absurd b.2 n⟩⟩
  exact mo_mustb (d := d) (by decide) h ⟨rfl, k0 V h⟩
theorem tl_bad {G : km_V → Prop} (k0 : ∀ W, mBd V0 W tp → G W) (h : mBd V0 V tp) : tl144 xs Lx d (fun r V' => r = none ∧ G V') V := by
  have a := h.is (k := 5) (by decide)
  have b := h.is (k := 6) (by decide)
  refine ⟨a.1, by omega, fun n => absurd a.2 n, fun _ => ⟨b.1, by omega, fun _ => ?_, fun n => absurd b.2 n⟩⟩
  exact mo_failb (d := d + 2) h (rg_bad k0 h)
theorem md_bad {G : km_V → Prop} (k0 : ∀ W, mBd V0 W tp → G W) (h : mBd V0 V tp) : md144 xs Lx d (fun r V' => r = none ∧ G V') V := by
  have a := h.is (k := 2) (by decide)
  refine ⟨a.1, by omega, fun _ => ?_, fun n => absurd a.2 n⟩
  exact mo_mustb (d := d) (by decide) h (tl_bad k0 h)
theorem tl_good {G : km_V → Prop} (hx : mTx V0 tp) (k0 : ∀ W, mBd V0 W tp → G W) (h : mAt V0 V tp t t) (hs : rdS (txK tp) t = 3) (ih : ∀ W, mAt V0 W tp (t + 1) (t + 1) → rdS (txK tp) (t + 1) = 1 → kGo xs Lx (d + 3) 144 43 [some (.ref 299)] [] W (fun r V' => r = none ∧ G V')) : tl144 xs Lx d (fun r V' => r = none ∧ G V') V := by
  have a := h.is hx (k := 5) (by decide)
  have b := h.is hx (k := 6) (by decide)
  have a2 := ite01 a.2
  have b2 := ite01 b.2
  have ff := txM_iff tp t
  have pass : (txK tp t = 8 ∨ txK tp t = 9) → kCV xs Lx (d + 2) 139 1 [.ref 299] V (fun W3 => kGo xs Lx (d + 3) 144 43 [some (.ref 299)] [] W3 (fun r V' => r = none ∧ G V')) := by
    intro hk
    have e : stB (rdS (txK tp) t) (txK tp t) = 1 := by
      rw [hs]
      rcases hk with z | z <;> (rw [z]; decide)
    exact mo_pass (d := d + 1) hx (h.up (by omega) (by omega)) (by omega) (by omega) (rm_triv (by omega) (by omega) (by omega)) (fun W hW => ih W hW e) (fun W hW => rg_bad k0 hW)
  refine ⟨a.1, a2.1, fun n => pass (Or.inl (ff.2.2.2.1.mp (a2.2.2 n))), fun z => ⟨b.1, b2.1, fun z2 => ?_, fun n => pass (Or.inr (ff.2.2.2.2.1.mp (b2.2.2 n)))⟩⟩
  have n8 : txK tp t ≠ 8 := fun q => a2.2.1 z (ff.2.2.2.1.mpr q)
  have n9 : txK tp t ≠ 9 := fun q => b2.2.1 z2 (ff.2.2.2.2.1.mpr q)
  refine mo_fail1 (d := d + 2) hx h (rdF_one (Or.inr (by omega)) ?_) (fun W hW => rg_bad k0 hW)
  rw [hs]
  unfold stB
  rw [if_neg (by decide), if_neg (by decide), if_neg (by decide), if_pos rfl, if_neg (by omega)]
theorem md_good {G : km_V → Prop} (hx : mTx V0 tp) (k0 : ∀ W, mBd V0 W tp → G W) (h : mAt V0 V tp t t) (hs : rdS (txK tp) t = 2) (ih : ∀ W, mAt V0 W tp (t + 2) (t + 2) → rdS (txK tp) (t + 2) = 1 → kGo xs Lx (d + 3) 144 43 [some (.ref 299)] [] W (fun r V' => r = none ∧ G V')) : md144 xs Lx d (fun r V' => r = none ∧ G V') V := by
  have a := h.is hx (k := 2) (by decide)
  have a2 := ite01 a.2
  have ff := (txM_iff tp t).2.1
  have bad : txK tp t ≠ 6 → rdFault (txK tp) t = 1 := fun n => by
    refine rdF_one (Or.inr (by omega)) ?_
    rw [hs]
    unfold stB
    rw [if_neg (by decide), if_neg (by decide), if_pos rfl, if_neg n]
  refine ⟨a.1, a2.1, fun z => ?_, fun n => ?_⟩
  · have n6 : txK tp t ≠ 6 := fun q => a2.2.1 z (ff.mpr q)
    exact mo_must (d := d) (by decide) hx h (fun q => absurd (ff.mp q) n6) (fun _ => bad n6) (fun q => absurd (ff.mp q) n6) (fun W hW => tl_bad k0 hW)
  · have e2 := a2.2.2 n
    have e6 := ff.mp e2
    have tx := h.tx hx
    have h11 := h.2.2.2.1
    have h400 := h.2.2.1
    rw [h11, tn, tx.2.2 e2]
    refine ⟨⟨by omega, by omega⟩, ?_⟩
    refine mo_meets (d := d + 1) hx h e6 hs (fun room W hW => ?_) (fun W hW => mo_mustb (d := d) (by decide) hW (tl_bad k0 hW))
    have e3 : stB (rdS (txK tp) t) (txK tp t) = 3 := by rw [hs, e6]; decide
    exact mo_must (d := d) (by decide) hx hW (fun _ => ⟨hW, by omega, by omega, room⟩) (fun q => absurd e2 q) (fun _ X hX => tl_good hx k0 hX e3 ih) (fun X hX => tl_bad k0 hX)
theorem rg_good {G : km_V → Prop} (hx : mTx V0 tp) (k0 : ∀ W, mBd V0 W tp → G W) (t0 : Nat) (k1 : ∀ t W, t0 < t → mAt V0 W tp t t → rdS (txK tp) t = 4 → G W) : ∀ n t V, t + n = 401 → t0 ≤ t → mAt V0 V tp t t → rdS (txK tp) t = 1 → kGo xs Lx (d + 3) 144 43 [some (.ref 299)] [] V (fun r V' => r = none ∧ G V') := by
  intro n
  induction n using Nat.strongRecOn with
  | _ n IH =>
    intro t V hn ht h hs
    have a := h.is hx (k := 21) (by decide)
    have b := h.is hx (k := 22) (by decide)
    have a2 := ite01 a.2
    have b2 := ite01 b.2
    have ff := txM_iff tp t
    have h400 := h.2.2.1
    have pass : (txK tp t = 4 ∨ txK tp t = 5) → kCV xs Lx (d + 2) 139 1 [.ref 299] V (fun W1 => md144 xs Lx d (fun r V' => r = none ∧ G V') W1) := by
      intro hk
      have e : stB (rdS (txK tp) t) (txK tp t) = 2 := by
        rw [hs]
        rcases hk with z | z <;> (rw [z]; decide)
      refine mo_pass (d := d + 1) hx (h.up (by omega) (by omega)) (by omega) (by omega) (rm_triv (by omega) (by omega) (by omega)) (fun W hW => md_good hx k0 hW e (fun X hX hsX => ?_)) (fun W hW => md_bad k0 hW)
      have hX400 := hX.2.2.1
      exact IH (n - 3) (by omega) (t + 3) X (by omega) (by omega) hX hsX
    refine b144_43 ⟨a.1, a2.1, fun n => pass (Or.inl (ff.2.2.2.2.2.2.1.mp (a2.2.2 n))), fun z => ⟨b.1, b2.1, fun z2 => ?_, fun n => pass (Or.inr (ff.2.2.2.2.2.2.2.1.mp (b2.2.2 n)))⟩⟩
    have n4 : txK tp t ≠ 4 := fun q => a2.2.1 z (ff.2.2.2.2.2.2.1.mpr q)
    have n5 : txK tp t ≠ 5 := fun q => b2.2.1 z2 (ff.2.2.2.2.2.2.2.1.mpr q)
    refine mo_must (d := d) (by decide) hx h (fun q => ?_) (fun q => rdF_one (Or.inr (by omega)) ?_) (fun q W hW => ⟨rfl, k1 (t + 1) W (by omega) hW ?_⟩) (fun W hW => ⟨rfl, k0 W hW⟩)
    · have e7 := ff.2.2.1.mp q
      exact ⟨h.up (by omega) (by omega), by omega, by rw [hs, e7]; decide, rm_triv (by omega) (by omega) (by omega)⟩
    · have n7 : txK tp t ≠ 7 := fun y => q (ff.2.2.1.mpr y)
      rw [hs]
      unfold stB
      rw [if_neg (by decide), if_pos rfl, if_neg n7, if_neg (by omega)]
    · show stB (rdS (txK tp) t) (txK tp t) = 4
      rw [hs, ff.2.2.1.mp q]; decide
theorem sp_tellRing {G : km_V → Prop} (hx : mTx V0 tp) (h : mAt V0 V tp t t) (hs : rdS (txK tp) t = 0 ∧ txK tp t ≠ 3 ∨ rdS (txK tp) t = 4) (h0 : txK tp t ≠ 0) (k1 : ∀ t' W, t < t' → mAt V0 W tp t' t' → rdS (txK tp) t' = 4 → G W) (k0 : ∀ W, mBd V0 W tp → G W) : kCV xs Lx (d + 3) 144 1 [.ref 299] V G := by
  have a := h.is hx (k := 20) (by decide)
  have a2 := ite01 a.2
  have ff := (txM_iff tp t).2.2.2.2.2.1
  have w := rdWell_all (K := txK tp) (W := txW tp) t h.2.1
  have wf := w.f
  have h21 := h.2.2.2.2.2.2.2
  have h400 := h.2.2.1
  refine b144_0 ⟨a.1, a2.1, fun n => ?_, fun z => ?_⟩
  · have e2 := ff.mp (a2.2.2 n)
    have e1 : stB (rdS (txK tp) t) (txK tp t) = 1 := by
      rw [e2]
      rcases hs with z | z
      · rw [z.1]; decide
      · rw [z]; decide
    rw [h21]
    refine ⟨by omega, fun n4 => ?_, fun e4 => ?_⟩
    · have room : rdRoom (txK tp) (txW tp) t := ⟨fun _ => by omega, fun q => by omega, fun q => by omega⟩
      have eF : rdF (txK tp) (t + 1) = rdF (txK tp) t ++ [(rdT (txK tp) t).length] := if_pos e2
      have eU : rdU (txK tp) (txW tp) (t + 1) = rdU (txK tp) (txW tp) t := if_neg (fun q => by omega)
      have h' : mAt V0 (up V 299 21 (((rdF (txK tp) t).length : Int) + 1)) tp t (t + 1) := by
        obtain ⟨q1, q2, q3, q4, q5, q6, q7, q8⟩ := h
        refine ⟨fun b j hb => ?_, q2, q3, ?_, ?_, ?_, fun j hj => ?_, ?_⟩
        · rw [up_ne (by omega)]; exact q1 b j hb
        · rw [up_ne (by omega)]; exact q4
        · rw [up_ne (by omega)]; exact q5
        · rw [up_ne (by omega), eU]; exact q6
        · rw [up_ne (by omega), eU]; rw [eU] at hj; exact q7 j hj
        · rw [up_at, eF, List.length_append, List.length_singleton]; rfl
      exact mo_pass (d := d + 1) hx h' (by omega) (by omega) room (fun W hW => rg_good hx (fun X hX => k0 X hX) t k1 (401 - (t + 1)) (t + 1) W (by have := hW.2.2.1; omega) (by omega) hW e1) (fun W hW => rg_bad k0 hW)
    · refine mo_fail (d := d + 2) hx h (fun q => ?_) ?_ (by omega) (fun W hW => ⟨rfl, k0 W hW⟩)
      · have := q.2.2.2.r e2; omega
      · unfold rdFault
        rw [if_neg h0, if_neg (by omega)]
  · have n2 : txK tp t ≠ 2 := fun q => a2.2.1 z (ff.mpr q)
    refine mo_fail1 (d := d + 2) hx h (rdF_one (Or.inl h0) ?_) (fun W hW => ⟨rfl, k0 W hW⟩)
    unfold stB
    rcases hs with z | z
    · rw [z.1, if_pos rfl, if_neg n2, if_neg z.2]
    · rw [z, if_neg (by decide), if_neg (by decide), if_neg (by decide), if_neg (by decide), if_pos rfl, if_neg n2]
end RIN

/-! the model takes the tokens -/
def txM (tp : List Int) (t : Nat) : Int := mtK tp (txP tp t)
theorem txK_M (tp : List Int) (t : Nat) : txK tp t = kOf (txM tp t) := tkK_M tp _
def mTx (V : km_V) (tp : List Int) : Prop := ∀ t, t ≤ 400 → (∀ j, j < t → txK tp j ≠ 0) → V 302 t = txM tp t ∧ V 303 t = (txP tp t : Int) ∧ (txM tp t = 2 → V 304 t = txW tp t)
/-- what the model's tokens may change -/
def mFm (V0 V : km_V) : Prop := ∀ b j, ¬ (b = 299 ∧ (11 ≤ j ∧ j ≤ 13 ∨ j = 20 ∨ j = 21) ∨ b = 309) → V b j = V0 b j
def mAt (V0 V : km_V) (tp : List Int) (t u : Nat) : Prop := mFm V0 V ∧ (∀ j, j < t → rdPass (txK tp) (txW tp) j) ∧ t ≤ 400 ∧ V 299 11 = (t : Int) ∧ V 299 12 = 0 ∧ V 299 20 = ((rdU (txK tp) (txW tp) u).length : Int) ∧ (∀ j, j < (rdU (txK tp) (txW tp) u).length → V 309 j = (rdU (txK tp) (txW tp) u).getD j 0) ∧ V 299 21 = ((rdF (txK tp) u).length : Int)
def mBd (V0 V : km_V) (tp : List Int) : Prop := mFm V0 V ∧ ∃ t, (∀ j, j < t → rdPass (txK tp) (txW tp) j) ∧ ¬ rdPass (txK tp) (txW tp) t ∧ t ≤ 400 ∧ rdFault (txK tp) t ≠ 0 ∧ V 299 11 = (t : Int) ∧ V 299 12 = rdFault (txK tp) t ∧ V 299 13 = (txP tp t : Int)
theorem mtK_r (tp : List Int) (q : Nat) : 0 ≤ mtK tp q ∧ mtK tp q ≤ 23 := by
  unfold mtK wordM
  (repeat' split) <;> omega
theorem rdFault_r (K : Nat → Int) (t : Nat) : 0 ≤ rdFault K t ∧ rdFault K t ≤ 2 := by
  unfold rdFault; (repeat' split) <;> omega
theorem rdF1_np {K W : Nat → Int} {t : Nat} (h : rdFault K t = 1) : ¬ rdPass K W t := by
  intro q
  unfold rdFault at h
  rw [if_neg q.1, if_neg q.2.1] at h
  omega
section MAT
variable {xs : Nat → Int32} {Lx d : Nat} {V0 V : km_V} {tp : List Int} {t u : Nat}
theorem mAt.tx (h : mAt V0 V tp t u) (hx : mTx V0 tp) : V 302 t = txM tp t ∧ V 303 t = (txP tp t : Int) ∧ (txM tp t = 2 → V 304 t = txW tp t) := by
  obtain ⟨a, b, c, _⟩ := h
  rw [a 302 t (by omega), a 303 t (by omega), a 304 t (by omega)]
  exact hx t c (fun j hj => (b j hj).1)
theorem mAt.is (h : mAt V0 V tp t u) (hx : mTx V0 tp) {k : Int} (hk : kR k) : kisC V k ∧ kis V k = if txM tp t = k then 1 else 0 := by
  obtain ⟨x2, _, _⟩ := h.tx hx
  obtain ⟨_, _, c, e, f, _⟩ := h
  unfold kisC kis
  have := mtK_r tp (txP tp t)
  have z : txM tp t = mtK tp (txP tp t) := rfl
  rw [e, f, tn, x2]
  refine ⟨⟨by omega, hk, fun _ => ⟨by omega, by omega, by omega⟩⟩, ?_⟩
  by_cases q : txM tp t = k
  · rw [if_pos ⟨rfl, q⟩, if_pos q]
  · rw [if_neg (fun y => q y.2), if_neg q]
theorem mBd.is (h : mBd V0 V tp) {k : Int} (hk : kR k) : kisC V k ∧ kis V k = 0 := by
  obtain ⟨_, t, _, _, _, h1, _, h2, _⟩ := h
  have := rdFault_r (txK tp) t
  unfold kisC kis
  rw [h2]
  exact ⟨⟨⟨by omega, by omega⟩, hk, fun e => absurd e h1⟩, if_neg (fun y => h1 y.1)⟩
theorem mo_pass {G : km_V → Prop} (hx : mTx V0 tp) (h : mAt V0 V tp t (t + 1)) (n0 : txK tp t ≠ 0) (nb : stB (rdS (txK tp) t) (txK tp t) ≠ -1) (hr : rdRoom (txK tp) (txW tp) t) (k1 : ∀ W, mAt V0 W tp (t + 1) (t + 1) → G W) (k0 : ∀ W, mBd V0 W tp → G W) : kCV xs Lx (d + 1) 139 1 [.ref 299] V G := by
  obtain ⟨x2, x3, _⟩ := h.tx hx
  obtain ⟨a, b, c, e, f, g1, g2, g3⟩ := h
  refine sp_mpasses (t := t) e c f x3 (fun l => k1 _ ⟨fun b' j hb => ?_, fun j hj => ?_, by omega, ?_, ?_, ?_, fun j hj => ?_, ?_⟩) (fun l => k0 _ ⟨fun b' j hb => ?_, t, b, fun q => by have := q.2.2.1; omega, c, ?_, ?_, ?_, up_at _ _ _ _⟩)
  · rw [up_ne (by omega)]; exact a b' j hb
  · by_cases z : j = t
    · subst z; exact ⟨n0, nb, by omega, hr⟩
    · exact b j (by omega)
  · rw [up_at]; rfl
  · rw [up_ne (by omega)]; exact f
  · rw [up_ne (by omega)]; exact g1
  · rw [up_ne (by omega)]; exact g2 j hj
  · rw [up_ne (by omega)]; exact g3
  · rw [up_ne (by omega), up_ne (by omega)]; exact a b' j hb
  · unfold rdFault; rw [if_neg n0, if_neg nb]; omega
  · rw [up_ne (by omega), up_ne (by omega)]; exact e
  · rw [up_ne (by omega), up_at]; unfold rdFault; rw [if_neg n0, if_neg nb]
theorem mo_fail {a : Int} {G : km_V → Prop} (hx : mTx V0 tp) (h : mAt V0 V tp t u) (np : ¬ rdPass (txK tp) (txW tp) t) (ha : rdFault (txK tp) t = a) (na : a ≠ 0) (k0 : ∀ W, mBd V0 W tp → G W) : kCV xs Lx (d + 0) 137 2 [.ref 299, kI a] V G := by
  obtain ⟨x2, x3, _⟩ := h.tx hx
  obtain ⟨a', b, c, e, f, g1, g2, g3⟩ := h
  refine sp_mfail (d := d) (t := t) e (by omega) f x3 (k0 _ ⟨fun b' j hb => ?_, t, b, np, c, by omega, ?_, ?_, up_at _ _ _ _⟩)
  · rw [up_ne (by omega), up_ne (by omega)]; exact a' b' j hb
  · rw [up_ne (by omega), up_ne (by omega)]; exact e
  · rw [up_ne (by omega), up_at]; exact ha.symm
theorem mo_fail1 {G : km_V → Prop} (hx : mTx V0 tp) (h : mAt V0 V tp t u) (ha : rdFault (txK tp) t = 1) (k0 : ∀ W, mBd V0 W tp → G W) : kCV xs Lx (d + 0) 137 2 [.ref 299, kI 1] V G := mo_fail hx h (rdF1_np ha) ha (by omega) k0
theorem mo_failb {a : Int} {G : km_V → Prop} (h : mBd V0 V tp) (k : G V) : kCV xs Lx (d + 0) 137 2 [.ref 299, kI a] V G := by
  obtain ⟨_, t, _, _, _, h1, _, h2, _⟩ := h
  have := rdFault_r (txK tp) t
  refine b137_0 ?_
  rw [h2]
  exact ⟨⟨by omega, by omega⟩, fun l => by omega, fun _ => ⟨rfl, k⟩⟩
theorem mo_must {a : Int} {G : km_V → Prop} (hk : kR a) (hx : mTx V0 tp) (h : mAt V0 V tp t u) (ha : txM tp t = a → mAt V0 V tp t (t + 1) ∧ txK tp t ≠ 0 ∧ stB (rdS (txK tp) t) (txK tp t) ≠ -1 ∧ rdRoom (txK tp) (txW tp) t) (hn : txM tp t ≠ a → rdFault (txK tp) t = 1) (k1 : txM tp t = a → ∀ W, mAt V0 W tp (t + 1) (t + 1) → G W) (k0 : ∀ W, mBd V0 W tp → G W) : kCV xs Lx (d + 2) 140 2 [.ref 299, kI a] V G := by
  obtain ⟨c1, c2⟩ := h.is hx hk
  refine b140_0 ⟨c1, ?_, fun e => ?_, fun e => ?_⟩
  · rw [c2]; split <;> omega
  · have n : txM tp t ≠ a := fun q => by rw [if_pos q] at c2; omega
    exact mo_fail1 (d := d + 1) hx h (hn n) (fun W hW => ⟨rfl, k0 W hW⟩)
  · have q : txM tp t = a := by
      apply Decidable.byContradiction
      intro n
      rw [if_neg n] at c2; omega
    obtain ⟨q1, q2, q3, q4⟩ := ha q
    exact mo_pass (d := d) hx q1 q2 q3 q4 (fun W hW => ⟨rfl, k1 q W hW⟩) (fun W hW => ⟨rfl, k0 W hW⟩)
theorem mo_mustb {a : Int} {G : km_V → Prop} (hk : kR a) (h : mBd V0 V tp) (k : G V) : kCV xs Lx (d + 2) 140 2 [.ref 299, kI a] V G := by
  obtain ⟨c1, c2⟩ := h.is hk
  refine b140_0 ⟨c1, by omega, fun _ => ?_, fun e => by omega⟩
  exact mo_failb (d := d + 1) h ⟨rfl, k⟩
/-- nothing is counted at this token -/
theorem mAt.up (h : mAt V0 V tp t t) (h1 : txK tp t ≠ 2) (h2 : ¬ (txK tp t = 6 ∧ rdS (txK tp) t = 2)) : mAt V0 V tp t (t + 1) := by
  have a : rdF (txK tp) (t + 1) = rdF (txK tp) t := if_neg h1
  have b : rdU (txK tp) (txW tp) (t + 1) = rdU (txK tp) (txW tp) t := if_neg (fun q => h2 ⟨q.1, q.2.1⟩)
  unfold mAt
  rw [a, b]
  exact h
theorem sp_munlikeAt {un : List Int} {v : Int} {G : Int → km_V → Prop} (hu : un.length ≤ 8) (h20 : V 299 20 = (un.length : Int)) (h9 : ∀ j, j < un.length → V 309 j = un.getD j 0 ∧ kR (un.getD j 0)) (hv : kR v) (k1 : ∀ c : Nat, c < un.length → un.getD c 0 = v → (∀ j, j < c → un.getD j 0 ≠ v) → G (c : Int) V) (k0 : v ∉ un → G (-1) V) : kCI xs Lx (d + 0) 145 3 [.ref 299, kI v] V G := by
  refine b145_0 ?_
  refine kloop0 un.length (fun c => (∀ j, j < c → un.getD j 0 ≠ v) → kGo xs Lx (d + 0) 145 2 [some (.ref 299), some (kI v), some (kI (c : Int))] [] V (fun r V' => ∃ y : Int, r = some (kI y) ∧ G y V')) (fun hh => ?_) (fun c hc ih hh => ?_) 0 (Nat.zero_le _) (fun j hj => by omega)
  · refine b145_2 ?_
    rw [h20]
    refine ⟨by omega, by omega, fun _ => ⟨_, rfl, k0 (fun hx => ?_)⟩, fun l => by omega⟩
    obtain ⟨j, hj, e⟩ := List.getElem_of_mem hx
    exact hh j hj (by rw [gd_lt hj, e])
  · obtain ⟨a, b⟩ := h9 c hc
    refine b145_2 ?_
    rw [h20, tn, a]
    refine ⟨by omega, by omega, fun l => by omega, fun _ => ⟨⟨by omega, by omega⟩, b, hv, fun n => ih (fun j hj => ?_), fun e => ⟨_, rfl, k1 c hc e hh⟩⟩⟩
    by_cases z : j = c
    · subst z; exact n
    · exact hh j (by omega)
/-- an int of a pass is met -/
theorem mo_meets {G : km_V → Prop} (hx : mTx V0 tp) (h : mAt V0 V tp t t) (h6 : txK tp t = 6) (h2 : rdS (txK tp) t = 2) (k1 : rdRoom (txK tp) (txW tp) t → ∀ W, mAt V0 W tp t (t + 1) → G W) (k0 : ∀ W, mBd V0 W tp → G W) : kCV xs Lx (d + 1) 146 2 [.ref 299, kI (txW tp t)] V G := by
  have w := rdWell_all (K := txK tp) (W := txW tp) t h.2.1
  have lU := w.2.2.2.1
  have kW : ∀ j, txK tp j = 6 → kR (txW tp j) := fun j hj => by have := txW_r hj; exact ⟨by omega, by omega⟩
  have mem : ∀ x, x ∈ rdU (txK tp) (txW tp) t → kR x := fun x hx => by
    obtain ⟨j, a, b⟩ := rdU_mem t x hx
    rw [← b]; exact kW j a
  have eF : rdF (txK tp) (t + 1) = rdF (txK tp) t := if_neg (by omega)
  have eU : rdU (txK tp) (txW tp) (t + 1) = if txK tp t = 6 ∧ rdS (txK tp) t = 2 ∧ txW tp t ∉ rdU (txK tp) (txW tp) t then rdU (txK tp) (txW tp) t ++ [txW tp t] else rdU (txK tp) (txW tp) t := rfl
  have nb : stB (rdS (txK tp) t) (txK tp t) ≠ -1 := by rw [h2, h6]; decide
  have h' := h
  obtain ⟨a, b, c, e, f, g1, g2, g3⟩ := h'
  refine b146_0 ?_
  refine sp_munlikeAt (d := d) (un := rdU (txK tp) (txW tp) t) lU g1 (fun j hj => ⟨g2 j hj, mem _ (gd_mem hj)⟩) (kW t h6) (fun c' hc' ec _ => ⟨by omega, fun l => by omega, fun _ => ⟨rfl, ?_⟩⟩) (fun nm => ⟨by omega, fun _ => ?_, fun l => by omega⟩)
  · have hm : txW tp t ∈ rdU (txK tp) (txW tp) t := by rw [← ec]; exact gd_mem hc'
    refine k1 ⟨fun q => by omega, fun _ _ => Or.inl hm, fun q => by omega⟩ V ?_
    have eU' : rdU (txK tp) (txW tp) (t + 1) = rdU (txK tp) (txW tp) t := by rw [eU, if_neg (fun q => q.2.2 hm)]
    unfold mAt
    rw [eF, eU']
    exact h
  · have eU' : rdU (txK tp) (txW tp) (t + 1) = rdU (txK tp) (txW tp) t ++ [txW tp t] := by rw [eU, if_pos ⟨h6, h2, nm⟩]
    rw [up_ne (show ¬ (299 = 309 ∧ 20 = Int.toNat (V 299 20)) by omega), g1, tn]
    refine ⟨by omega, fun l8 => ⟨⟨by omega, by omega⟩, rfl, k1 ⟨fun q => by omega, fun _ _ => Or.inr (by omega), fun q => by omega⟩ _ ⟨fun b' j hb => ?_, b, c, ?_, ?_, ?_, fun j hj => ?_, ?_⟩⟩, fun e8 => mo_fail hx h (fun q => ?_) ?_ (by omega) (fun W hW => ⟨rfl, k0 W hW⟩)⟩
    · rw [up_ne (by omega), up_ne (by omega)]; exact a b' j hb
    · rw [up_ne (by omega), up_ne (by omega)]; exact e
    · rw [up_ne (by omega), up_ne (by omega)]; exact f
    · rw [up_at, eU', List.length_append, List.length_singleton]; rfl
    · rw [up_ne (by omega)]
      rw [eU', List.length_append, List.length_singleton] at hj
      rw [eU']
      by_cases z : j = (rdU (txK tp) (txW tp) t).length
      · subst z; rw [up_at, gd_appr (Nat.le_refl _), Nat.sub_self, gd_cons0]
      · rw [up_ne (by omega), gd_appl (by omega)]; exact g2 j (by omega)
    · rw [up_ne (by omega), up_ne (by omega), eF]; exact g3
    · rcases q.2.2.2.2.1 h6 h2 with q1 | q1
      · exact nm q1
      · omega
    · unfold rdFault; rw [if_neg (by omega), if_neg nb]
end MAT

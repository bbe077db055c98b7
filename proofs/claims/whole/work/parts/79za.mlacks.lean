section MLK
variable {xs : Nat → Int32} {Lx d : Nat} {V : km_V} {tp : List Int} {T : Nat}
/-- the first crossing that lacks its other pass -/
def lst (X : km_V) (W : Nat → Int) (P : Nat → Nat) (L : List Nat) (i : Nat) : Prop := (X 299 14 = 0 ∧ ∀ j, j < i → (rcc W L L.length (W (L.getD j 0))).length ≠ 1) ∨ (∃ i0, i0 < i ∧ i0 < L.length ∧ (∀ j, j < i0 → (rcc W L L.length (W (L.getD j 0))).length ≠ 1) ∧ (rcc W L L.length (W (L.getD i0 0))).length = 1 ∧ X 299 14 = 4 ∧ X 299 15 = (P (L.getD i0 0) : Int))
theorem sp_mlacks {G : km_V → Prop} (hs : rgS (txK tp) (txW tp) T) (hE : txK tp T = 0) (hx : mTx V tp) (v10 : V 299 10 = (T : Int) + 1) (v12 : V 299 12 = 0) (v14 : V 299 14 = 0) (v20 : V 299 20 = ((rdU (txK tp) (txW tp) T).length : Int)) (v9 : ∀ j, j < (rdU (txK tp) (txW tp) T).length → V 309 j = (rdU (txK tp) (txW tp) T).getD j 0) (hl : tp.length ≤ 2000) (hC : kCt V (txK tp) (txW tp) (rdT (txK tp) T) (rdU (txK tp) (txW tp) T) (rdT (txK tp) T).length) (k : ∀ X, (∀ b j, ¬ (b = 299 ∧ (j = 14 ∨ j = 15)) → X b j = V b j) → lst X (txW tp) (txP tp) (rdT (txK tp) T) (rdT (txK tp) T).length → G X) : kCV xs Lx (d + 1) 150 2 [.ref 299] V G := by
  obtain ⟨lL, lF, lU⟩ := hs.len
  have nz : ∀ j, j < T → txK tp j ≠ 0 := fun j hj => (hs.1 j hj).1
  have h400 := hs.2.2.1
  have M : ∀ t, t ≤ T → V 302 t = txM tp t ∧ V 303 t = (txP tp t : Int) ∧ (txM tp t = 2 → V 304 t = txW tp t) := fun t ht => hx t (by omega) (fun j hj => nz j (by omega))
  have Pr : ∀ t, (txP tp t : Int) ≤ 2000 := fun t => by have := txP_le (tp := tp) t; omega
  have nd := rdU_nodup (K := txK tp) (W := txW tp) T
  have rW : ∀ j, txK tp j = 6 → kR (txW tp j) := fun j hj => by have := txW_r hj; exact ⟨by omega, by omega⟩
  have rU : ∀ c, c < (rdU (txK tp) (txW tp) T).length → kR ((rdU (txK tp) (txW tp) T).getD c 0) := fun c hc => by
    obtain ⟨j, a, b⟩ := rdU_mem T _ (gd_mem (z := 0) hc)
    rw [← b]; exact rW j a
  refine b150_0 ?_
  refine kloop (T + 1) (fun t X => (∀ b j, ¬ (b = 299 ∧ (j = 14 ∨ j = 15)) → X b j = V b j) ∧ lst X (txW tp) (txP tp) (rdT (txK tp) T) (rdT (txK tp) t).length) (fun t X => kGo xs Lx (d + 1) 150 2 [some (.ref 299), some (kI (t : Int))] [] X (fun r V' => r = none ∧ G V')) (fun X hX => ?_) (fun t X ht hX ih => ?_) 0 V (Nat.zero_le _) ⟨fun _ _ _ => rfl, Or.inl ⟨v14, fun j h => absurd h (Nat.not_lt_zero _)⟩⟩
  · obtain ⟨x1, x2⟩ := hX
    have eT : rdT (txK tp) (T + 1) = rdT (txK tp) T := if_neg (by omega)
    rw [eT] at x2
    refine b150_2 ?_
    rw [x1 299 10 (by omega), v10]
    exact ⟨by omega, by omega, fun _ => ⟨rfl, k X x1 x2⟩, fun l => by omega⟩
  · obtain ⟨x1, x2⟩ := hX
    have hpre : ∀ j, j < t → rdPass (txK tp) (txW tp) j := fun j hj => hs.1 j (by omega)
    have eT : rdT (txK tp) (t + 1) = if txK tp t = 6 ∧ rdS (txK tp) t ≠ 5 then rdT (txK tp) t ++ [t] else rdT (txK tp) t := rfl
    obtain ⟨m2, m3, m4⟩ := M t (by omega)
    have ff := txM_iff tp t
    have Mr := mtK_r tp (txP tp t)
    have zM : txM tp t = mtK tp (txP tp t) := rfl
    refine b150_2 ?_
    rw [x1 299 10 (by omega), v10, tn, x1 302 _ (by omega), m2, x1 304 _ (by omega)]
    refine ⟨by omega, by omega, fun l => by omega, fun _ => ⟨⟨by omega, by omega⟩, ⟨by omega, by omega⟩, fun n2 => ?_, fun e2 => ?_⟩⟩
    · have n6 : txK tp t ≠ 6 := fun q => n2 (ff.2.1.mpr q)
      have eT' : rdT (txK tp) (t + 1) = rdT (txK tp) t := by rw [eT, if_neg (by omega)]
      exact ih X ⟨x1, by rw [eT']; exact x2⟩
    · have e6 := ff.2.1.mp e2
      have ht' : t < T := by
        apply Decidable.byContradiction
        intro n
        rw [show t = T by omega] at e6
        omega
      have k0 : txK tp 0 = 2 := by
        rcases hs.2.1 with z | z
        · omega
        · exact z
      have s4 := rdS_ring (W := txW tp) hpre k0
      obtain ⟨hi, hk⟩ := rdT_here ht' e6 (by omega)
      have low : ∀ i0, i0 < (rdT (txK tp) t).length → txP tp ((rdT (txK tp) T).getD i0 0) < txP tp t := fun i0 h0 => txP_mono t (rdT_low hpre (by omega) h0) (fun j hj => nz j (by omega))
      have at1 := hs.at hi
      rw [hk] at at1
      have lT' : (rdT (txK tp) (t + 1)).length = (rdT (txK tp) t).length + 1 := by rw [eT, if_pos ⟨e6, by omega⟩, List.length_append, List.length_singleton]
      have kt := rW t e6
      rw [m4 e2]
      refine sp_munlikeAt (d := d) (un := rdU (txK tp) (txW tp) T) (v := txW tp t) lU (by rw [x1 299 20 (by omega)]; exact v20) (fun j hj => ⟨by rw [x1 309 j (by omega)]; exact v9 j hj, rU j hj⟩) kt (fun c hc ec _ => ?_) (fun nm => absurd at1.2.2.2 nm)
      obtain ⟨c1, _⟩ := hC c hc
      rw [ec] at c1
      have len := rcc_len (W := txW tp) (L := rdT (txK tp) T) (i := (rdT (txK tp) T).length) (v := txW tp t)
      have h12 : X 299 12 = 0 := by rw [x1 299 12 (by omega)]; exact v12
      have h3 : X 303 t = (txP tp t : Int) := by rw [x1 303 t (by omega)]; exact m3
      have rp : kR (txP tp t : Int) := ⟨by omega, by have := Pr t; omega⟩
      rw [tn, x1 310 c (by omega), c1]
      refine ⟨⟨by omega, by omega⟩, ⟨by omega, by omega⟩, fun n1 => ih X ⟨x1, ?_⟩, fun e1 => ?_⟩
      · rw [lT']
        rcases x2 with ⟨q1, q2⟩ | ⟨i0, q1, q2, q3, q4, q5, q6⟩
        · refine Or.inl ⟨q1, fun j hj => ?_⟩
          by_cases e : j = (rdT (txK tp) t).length
          · rw [e, hk]; omega
          · exact q2 j (by omega)
        · exact Or.inr ⟨i0, by omega, q2, q3, q4, q5, q6⟩
      · rcases x2 with ⟨q1, q2⟩ | ⟨i0, q1, q2, q3, q4, q5, q6⟩
        · refine sp_mwrong0 (d := d) (by omega) h12 h3 q1 (ih _ ⟨fun b j hb => ?_, ?_⟩)
          · rw [up_ne (by omega), up_ne (by omega)]; exact x1 b j hb
          · rw [lT']
            refine Or.inr ⟨_, by omega, hi, q2, by rw [hk]; omega, by rw [up_ne (by omega), up_at], by rw [up_at, hk]⟩
        · refine sp_mwrong1 (d := d) (q := (txP tp ((rdT (txK tp) T).getD i0 0) : Int)) (by omega) h12 h3 (by rw [q5]; decide) (by rw [q5]; decide) q6 (by have := low i0 q1; omega) ⟨by omega, by have := Pr ((rdT (txK tp) T).getD i0 0); omega⟩ rp (ih X ⟨x1, ?_⟩)
          rw [lT']
          exact Or.inr ⟨i0, by omega, q2, q3, q4, q5, q6⟩
/-- the rows in the model, when the meaning stands -/
theorem kRf_read {X : km_V} (hg : rgG (txK tp) (txW tp) T) (hC : kCt X (txK tp) (txW tp) (rdT (txK tp) T) (rdU (txK tp) (txW tp) T) (rdT (txK tp) T).length) (hw : kRw X (rdR (txK tp) (txW tp) (rdU (txK tp) (txW tp) T) T)) (h0 : X 308 0 = ((rdF (txK tp) T).length : Int)) (h1 : X 308 1 = ((rdU (txK tp) (txW tp) T).length : Int)) : kRf (X 308) (rdRw (txK tp) (txW tp) T) := by
  have lR := rdR_len (K := txK tp) (W := txW tp) (U := rdU (txK tp) (txW tp) T) T
  have l4 := hg.1.len.2.1
  have e1 : (rdRw (txK tp) (txW tp) T).1 = rdR (txK tp) (txW tp) (rdU (txK tp) (txW tp) T) T := rfl
  have en : rwn (rdRw (txK tp) (txW tp) T) = (rdU (txK tp) (txW tp) T).length := by show ((rdU (txK tp) (txW tp) T).map _).length = _; rw [List.length_map]
  refine ⟨by rw [e1, lR]; exact h0, by rw [en]; exact h1, fun i hi => ?_, fun i j hi hj => ?_, fun c hc => ?_⟩
  · rw [e1, lR] at hi
    exact hw.1 i (by omega)
  · rw [e1] at hi
    exact hw.2 i j hi hj
  · rw [en] at hc
    obtain ⟨j, hj, ej⟩ := rdU_L T hg.1.1 _ (gd_mem (z := 0) hc)
    have m := rcc_in (W := txW tp) (L := rdT (txK tp) T) hj (Nat.le_refl _)
    rw [ej] at m
    have ne : rcc (txW tp) (rdT (txK tp) T) (rdT (txK tp) T).length ((rdU (txK tp) (txW tp) T).getD c 0) ≠ [] := fun q => by rw [q] at m; exact absurd m (by simp)
    have e2 : (rdRw (txK tp) (txW tp) T).2 = (rdU (txK tp) (txW tp) T).map (fun v => if rdSg (txK tp) ((rcc (txW tp) (rdT (txK tp) T) (rdT (txK tp) T).length v).getD 0 0) = 1 then 1 else -1) := rfl
    rw [((hC c hc).2 ne).2, e2, gd_map (z := 0) hc]
theorem sp_meansR {G : km_V → Prop} (hs : rgS (txK tp) (txW tp) T) (hE : txK tp T = 0) (hx : mTx V tp) (v10 : V 299 10 = (T : Int) + 1) (v12 : V 299 12 = 0) (v14 : V 299 14 = 0) (v20 : V 299 20 = ((rdU (txK tp) (txW tp) T).length : Int)) (v9 : ∀ j, j < (rdU (txK tp) (txW tp) T).length → V 309 j = (rdU (txK tp) (txW tp) T).getD j 0) (z8 : ∀ j, j < 78 → V 308 j = 0) (hl : tp.length ≤ 2000) (v4 : V 299 4 = (tp.length : Int)) (k : ∀ f p X, rMean (txK tp) (txW tp) (txP tp) (rdT (txK tp) T) f p → (∀ b j, ¬ (b = 299 ∧ (j = 14 ∨ j = 15 ∨ j = 25 ∨ j = 32) ∨ b = 308 ∨ b = 310 ∨ b = 311 ∨ 313 ≤ b ∧ b ≤ 322) → X b j = V b j) → (f ≠ 0 → X 299 14 = f ∧ X 299 15 = (p : Int)) → (f = 0 → rgG (txK tp) (txW tp) T ∧ kRf (X 308) (rdRw (txK tp) (txW tp) T) ∧ (rwPl (rdRw (txK tp) (txW tp) T) → X 299 14 = 0) ∧ (¬ rwPl (rdRw (txK tp) (txW tp) T) → X 299 14 = 6 ∧ X 299 15 = (tp.length : Int))) → G X) : kCV xs Lx (d + 4) 147 1 [.ref 299] V G := by
  have h302 : V 302 0 = txM tp 0 := (hx 0 (by omega) (fun j hj => absurd hj (Nat.not_lt_zero _))).1
  have Mr := mtK_r tp (txP tp 0)
  have zM : txM tp 0 = mtK tp (txP tp 0) := rfl
  have n23 : txM tp 0 ≠ 23 := by
    intro q
    have e3 := (txM_iff tp 0).2.2.2.2.2.2.2.2.mp q
    rcases hs.2.1 with z | z
    · subst z; omega
    · omega
  refine b147_0 ?_
  rw [tn0, h302]
  refine ⟨⟨by omega, by omega⟩, fun _ => ?_, fun q => absurd q n23⟩
  refine sp_meansRings (d := d + 2) hs hE hx v10 v12 v14 v20 v9 z8 hl (fun X x1 x2 x3 x4 x5 x6 => ?_)
  have fX : ∀ b j, ¬ (b = 299 ∧ (j = 14 ∨ j = 15 ∨ j = 25 ∨ j = 32) ∨ b = 308 ∨ b = 310 ∨ b = 311 ∨ 313 ≤ b ∧ b ≤ 322) → X b j = V b j := fun b j hb => x1 b j (by omega)
  rcases x2 with ⟨q1, q2⟩ | ⟨i0, q1, q2, q3, q4, q5, q6⟩
  · rw [q1]
    refine ⟨by decide, fun y => absurd rfl y, fun _ => ?_⟩
    refine sp_mlacks (d := d + 2) hs hE (fun t ht hj => ?_) (by rw [x1 299 10 (by omega)]; exact v10) (by rw [x1 299 12 (by omega)]; exact v12) q1 (by rw [x1 299 20 (by omega)]; exact v20) (fun j hj => by rw [x1 309 j (by omega)]; exact v9 j hj) hl x3 (fun Y y1 y2 => ?_)
    · rw [x1 302 t (by omega), x1 303 t (by omega), x1 304 t (by omega)]; exact hx t ht hj
    · have fY : ∀ b j, ¬ (b = 299 ∧ (j = 14 ∨ j = 15 ∨ j = 25 ∨ j = 32) ∨ b = 308 ∨ b = 310 ∨ b = 311 ∨ 313 ≤ b ∧ b ≤ 322) → Y b j = V b j := fun b j hb => by rw [y1 b j (by omega)]; exact fX b j hb
      rcases y2 with ⟨p1, p2⟩ | ⟨i0, p1, p2, p3, p4, p5, p6⟩
      · rw [p1]
        refine ⟨by decide, fun y => absurd rfl y, fun _ => ?_⟩
        have hg : rgG (txK tp) (txW tp) T := ⟨hs, q2, p2⟩
        have hR : kRf (Y 308) (rdRw (txK tp) (txW tp) T) := (kRf_read hg x3 (x4 q1) x5 x6).fr hg.ok (fun j _ => y1 308 j (by omega))
        refine sp_canBeDrawn (d := d) (a := 308) (by decide +kernel) (by omega) hR hg.ok (fun Z z1 => ⟨fun pl => ?_, fun npl => ?_⟩)
        · refine ⟨by decide, fun _ => ⟨rfl, ?_⟩, fun q => absurd q (by decide)⟩
          exact k 0 0 Z (Or.inr (Or.inr ⟨q2, p2, rfl, rfl⟩)) (fun b j hb => by rw [z1 b j (by omega)]; exact fY b j hb) (fun q => absurd rfl q) (fun _ => ⟨hg, hR.fr hg.ok (fun j _ => z1 308 j (by omega)), fun _ => by rw [z1 299 14 (by omega)]; exact p1, fun q => absurd pl q⟩)
        · refine ⟨by decide, fun q => absurd rfl q, fun _ => ⟨rfl, ?_⟩⟩
          have z4 : up Z 299 14 6 299 4 = (tp.length : Int) := by rw [up_ne (by omega), z1 299 4 (by omega), fY 299 4 (by omega)]; exact v4
          rw [z4]
          exact k 0 0 _ (Or.inr (Or.inr ⟨q2, p2, rfl, rfl⟩)) (fun b j hb => by rw [up_ne (by omega), up_ne (by omega), z1 b j (by omega)]; exact fY b j hb) (fun q => absurd rfl q) (fun _ => ⟨hg, hR.fr hg.ok (fun j _ => by rw [up_ne (by omega), up_ne (by omega)]; exact z1 308 j (by omega)), fun q => absurd q npl, fun _ => ⟨by rw [up_ne (by omega), up_at], up_at _ _ _ _⟩⟩)
      · rw [p5]
        refine ⟨by decide, fun _ => ⟨rfl, ?_⟩, fun y => absurd y (by decide)⟩
        exact k 4 _ Y (Or.inr (Or.inl ⟨q2, i0, p2, p3, p4, rfl, rfl⟩)) fY (fun _ => ⟨p5, p6⟩) (fun q => absurd q (by decide))
  · have r0 := rfb_r (K := txK tp) (W := txW tp) (L := rdT (txK tp) T) (i := i0)
    rw [q5]
    refine ⟨⟨by omega, by omega⟩, fun _ => ⟨rfl, ?_⟩, fun y => absurd y q4⟩
    exact k _ _ X (Or.inl ⟨i0, q2, q3, q4, rfl, rfl⟩) fX (fun _ => ⟨q5, q6⟩) (fun q => absurd q q4)
end MLK

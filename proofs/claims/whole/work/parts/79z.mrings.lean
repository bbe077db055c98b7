section MMR
variable {xs : Nat → Int32} {Lx d : Nat} {V : km_V} {tp : List Int} {T : Nat}
theorem gd_app0 {R : List (List Nat)} {r : Nat} : (R ++ [[]]).getD r [] = R.getD r [] := by
  by_cases h : r < R.length
  · exact gd_appl h
  · by_cases e : r = R.length
    · subst e; rw [gd_appr (Nat.le_refl _), Nat.sub_self, gd_ge (Nat.le_refl _)]; rfl
    · rw [gd_ge (by rw [List.length_append, List.length_singleton]; omega), gd_ge (by omega)]
theorem fl_each {R : List (List Nat)} {s : Nat} : (R.getD s []).length ≤ R.flatten.length := by
  induction R generalizing s with
  | nil => rw [gd_ge (Nat.zero_le _)]; exact Nat.zero_le _
  | cons l t ih =>
    rw [List.flatten_cons, List.length_append]
    cases s with
    | zero => rw [gd_cons0]; omega
    | succ s => rw [gd_cons]; have := ih (s := s); omega
theorem sp_meansRings {G : km_V → Prop} (hs : rgS (txK tp) (txW tp) T) (hE : txK tp T = 0) (hx : mTx V tp) (v10 : V 299 10 = (T : Int) + 1) (v12 : V 299 12 = 0) (v14 : V 299 14 = 0) (v20 : V 299 20 = ((rdU (txK tp) (txW tp) T).length : Int)) (v9 : ∀ j, j < (rdU (txK tp) (txW tp) T).length → V 309 j = (rdU (txK tp) (txW tp) T).getD j 0) (z8 : ∀ j, j < 78 → V 308 j = 0) (hl : tp.length ≤ 2000) (k : ∀ X, mFr2 V X → wst X (txK tp) (txW tp) (txP tp) (rdT (txK tp) T) (rdT (txK tp) T).length → kCt X (txK tp) (txW tp) (rdT (txK tp) T) (rdU (txK tp) (txW tp) T) (rdT (txK tp) T).length → (X 299 14 = 0 → kRw X (rdR (txK tp) (txW tp) (rdU (txK tp) (txW tp) T) T)) → X 308 0 = ((rdF (txK tp) T).length : Int) → X 308 1 = ((rdU (txK tp) (txW tp) T).length : Int) → G X) : kCV xs Lx (d + 1) 148 6 [.ref 299] V G := by
  obtain ⟨lL, lF, lU⟩ := hs.len
  have nz : ∀ j, j < T → txK tp j ≠ 0 := fun j hj => (hs.1 j hj).1
  have h400 := hs.2.2.1
  have M : ∀ t, t ≤ T → V 302 t = txM tp t ∧ V 303 t = (txP tp t : Int) ∧ (txM tp t = 2 → V 304 t = txW tp t) := fun t ht => hx t (by omega) (fun j hj => nz j (by omega))
  have Pr : ∀ t, (txP tp t : Int) ≤ 2000 := fun t => by have := txP_le (tp := tp) t; omega
  have nd := rdU_nodup (K := txK tp) (W := txW tp) T
  have rW : ∀ j, txK tp j = 6 → kR (txW tp j) := fun j hj => by have := txW_r hj; exact ⟨by omega, by omega⟩
  have rU : ∀ c, c < (rdU (txK tp) (txW tp) T).length → kR ((rdU (txK tp) (txW tp) T).getD c 0) := fun c hc => by
    obtain ⟨j, a, b⟩ := rdU_mem T _ (gd_mem (z := 0) hc)
    rw [← b]; exact rW j a
  have aU : ∀ j, j < (rdT (txK tp) T).length → txW tp ((rdT (txK tp) T).getD j 0) ∈ rdU (txK tp) (txW tp) T := fun j hj => (hs.at hj).2.2.2
  refine b148_0 ?_
  rw [v20]
  refine kloop 8 (fun c X => (∀ c', c' < c → X 310 c' = 0) ∧ (∀ b j, b ≠ 310 → X b j = up V 308 1 ((rdU (txK tp) (txW tp) T).length : Int) b j)) (fun c X => kGo xs Lx (d + 1) 148 12 [some (.ref 299), some (kI (c : Int)), none, none, none, none] [] X (fun r V' => r = none ∧ G V')) (fun X hX => ?_) (fun c X hc hX ih => ?_) 0 _ (Nat.zero_le _) ⟨fun c' h => absurd h (Nat.not_lt_zero _), fun b j _ => rfl⟩
  rotate_left
  · refine b148_12 ⟨by omega, fun l => by omega, fun _ => ⟨⟨by omega, by omega⟩, ih _ ⟨fun c' h => ?_, fun b j hb => ?_⟩⟩⟩
    · rw [tn]
      by_cases e : c' = c
      · subst e; exact up_at _ _ _ _
      · rw [up_ne (by omega)]; exact hX.1 c' (by omega)
    · rw [up_ne (by omega)]; exact hX.2 b j hb
  refine b148_12 ⟨by decide, fun _ => ?_, fun l => by omega⟩
  -- the tokens
  refine kloop (T + 1) (fun t X => mFr2 V X ∧ X 308 1 = ((rdU (txK tp) (txW tp) T).length : Int) ∧ kCt X (txK tp) (txW tp) (rdT (txK tp) T) (rdU (txK tp) (txW tp) T) (rdT (txK tp) t).length ∧ wst X (txK tp) (txW tp) (txP tp) (rdT (txK tp) T) (rdT (txK tp) t).length ∧ (X 299 14 = 0 → kRw X (rdR (txK tp) (txW tp) (rdU (txK tp) (txW tp) T) t))) (fun t X => kGo xs Lx (d + 1) 148 35 [some (.ref 299), some (kI (((rdF (txK tp) t).length : Int) - 1)), some (kI (t : Int)), none, none, none] [] X (fun r V' => r = none ∧ G V')) (fun X hX => ?_) (fun t X ht hX ih => ?_) 0 X (Nat.zero_le _) ⟨fun b j hb => ?_, ?_, fun c hc => ?_, Or.inl ⟨?_, fun j h => absurd h (Nat.not_lt_zero _)⟩, fun _ => ⟨fun r hr => ?_, fun r j hr => absurd hr (Nat.not_lt_zero _)⟩⟩
  · obtain ⟨x1, x2, x3, x4, x5⟩ := hX
    have eT : rdT (txK tp) (T + 1) = rdT (txK tp) T := if_neg (by omega)
    have eF : rdF (txK tp) (T + 1) = rdF (txK tp) T := if_neg (by omega)
    have eR : rdR (txK tp) (txW tp) (rdU (txK tp) (txW tp) T) (T + 1) = rdR (txK tp) (txW tp) (rdU (txK tp) (txW tp) T) T := by
      show (if txK tp T = 2 then _ else if txK tp T = 6 then _ else _) = _
      rw [if_neg (by omega), if_neg (by omega)]
    rw [eT] at x3 x4
    rw [eR] at x5
    refine b148_35 ?_
    rw [x1 299 10 (by omega), v10, eF]
    refine ⟨by omega, by omega, fun _ => ⟨rfl, k _ (fun b j hb => ?_) ?_ (fun c hc => ?_) (fun q => ?_) ?_ ?_⟩, fun l => by omega⟩
    · rw [up_ne (by omega)]; exact x1 b j hb
    · unfold wst
      rw [up_ne (by omega), up_ne (by omega)]; exact x4
    · rw [up_ne (by omega), up_ne (by omega), up_ne (by omega)]; exact x3 c hc
    · rw [up_ne (by omega)] at q
      obtain ⟨a, b⟩ := x5 q
      refine ⟨fun r hr => ?_, fun r j hr hj => ?_⟩
      · rw [up_ne (by omega)]; exact a r hr
      · rw [up_ne (by omega)]; exact b r j hr hj
    · rw [tn0, up_at]; omega
    · rw [up_ne (by omega)]; exact x2
  rotate_left
  · rw [hX.2 b j (by omega), up_ne (by omega)]
  · rw [hX.2 308 1 (by omega), up_at]
  · have z : (rdT (txK tp) 0).length = 0 := rfl
    rw [z]
    exact ⟨by rw [hX.1 c (by omega), rcc_zero]; rfl, fun q => absurd rcc_zero q⟩
  · rw [hX.2 299 14 (by omega), up_ne (by omega)]; exact v14
  · rw [hX.2 308 (2 + r) (by omega), up_ne (by omega), z8 _ (by omega)]; rfl
  obtain ⟨x1, x2, x3, x4, x5⟩ := hX
  have hpre : ∀ j, j < t → rdPass (txK tp) (txW tp) j := fun j hj => hs.1 j (by omega)
  have eF : rdF (txK tp) (t + 1) = if txK tp t = 2 then rdF (txK tp) t ++ [(rdT (txK tp) t).length] else rdF (txK tp) t := rfl
  have eT : rdT (txK tp) (t + 1) = if txK tp t = 6 ∧ rdS (txK tp) t ≠ 5 then rdT (txK tp) t ++ [t] else rdT (txK tp) t := rfl
  have eR : rdR (txK tp) (txW tp) (rdU (txK tp) (txW tp) T) (t + 1) = if txK tp t = 2 then rdR (txK tp) (txW tp) (rdU (txK tp) (txW tp) T) t ++ [[]] else if txK tp t = 6 then (rdR (txK tp) (txW tp) (rdU (txK tp) (txW tp) T) t).set ((rdR (txK tp) (txW tp) (rdU (txK tp) (txW tp) T) t).length - 1) ((rdR (txK tp) (txW tp) (rdU (txK tp) (txW tp) T) t).getD ((rdR (txK tp) (txW tp) (rdU (txK tp) (txW tp) T) t).length - 1) [] ++ [rdX (txK tp) (txW tp) (rdU (txK tp) (txW tp) T) t]) else rdR (txK tp) (txW tp) (rdU (txK tp) (txW tp) T) t := rfl
  obtain ⟨m2, m3, m4⟩ := M t (by omega)
  have m4' : txM tp t = 2 → X 304 t = txW tp t := fun q => by rw [x1 304 t (by omega)]; exact m4 q
  have ff := txM_iff tp t
  have Mr := mtK_r tp (txP tp t)
  have zM : txM tp t = mtK tp (txP tp t) := rfl
  have wf : (rdF (txK tp) t).length ≤ 4 := (rdWell_all t hpre).f
  have go57 : ∀ x : Int, x = ((rdF (txK tp) (t + 1)).length : Int) - 1 → kGo xs Lx (d + 1) 148 57 [some (.ref 299), some (kI x), some (kI (t : Int)), none, none, none] [] X (fun r V' => r = none ∧ G V') := by
    intro x ex
    refine b148_57 ?_
    rw [x1 302 _ (by omega), tn, m2]
    refine ⟨⟨by omega, by omega⟩, ⟨by omega, by omega⟩, fun e2 => ?_, fun n2 => b148_247 ?_⟩
    · have e6 := ff.2.1.mp e2
      have ht' : t < T := by
        apply Decidable.byContradiction
        intro n
        rw [show t = T by omega] at e6
        omega
      have k0 : txK tp 0 = 2 := by
        rcases hs.2.1 with z | z
        · omega
        · exact z
      have s4 := rdS_ring (W := txW tp) hpre k0
      obtain ⟨hi, hk⟩ := rdT_here ht' e6 (by omega)
      have low : ∀ i0, i0 < (rdT (txK tp) t).length → txP tp ((rdT (txK tp) T).getD i0 0) < txP tp t := fun i0 h0 => txP_mono t (rdT_low hpre (by omega) h0) (fun j hj => nz j (by omega))
      have at1 := hs.at hi
      rw [hk] at at1
      have eT' : rdT (txK tp) (t + 1) = rdT (txK tp) t ++ [t] := by rw [eT, if_pos ⟨e6, by omega⟩]
      have lT' : (rdT (txK tp) (t + 1)).length = (rdT (txK tp) t).length + 1 := by rw [eT', List.length_append, List.length_singleton]
      have eF' : rdF (txK tp) (t + 1) = rdF (txK tp) t := by rw [eF, if_neg (by omega)]
      have f1 := rdF_mono (K := txK tp) t at1.1 k0
      have kt := rW t e6
      have wt := txW_r e6
      rw [m4' e2]
      refine sp_munlikeAt (d := d) (un := rdU (txK tp) (txW tp) T) (v := txW tp t) lU (by rw [x1 299 20 (by omega)]; exact v20) (fun j hj => ⟨by rw [x1 309 j (by omega)]; exact v9 j hj, rU j hj⟩) kt (fun c hc ec _ => ?_) (fun nm => absurd at1.2.2.2 nm)
      obtain ⟨c1, c2⟩ := x3 c hc
      have sc : ∀ v, rcc (txW tp) (rdT (txK tp) T) ((rdT (txK tp) t).length + 1) v = if txW tp t = v then rcc (txW tp) (rdT (txK tp) T) (rdT (txK tp) t).length v ++ [t] else rcc (txW tp) (rdT (txK tp) T) (rdT (txK tp) t).length v := by
        intro v
        rw [rcc_succ hi, hk]
      have len := rcc_len (W := txW tp) (L := rdT (txK tp) T) (i := (rdT (txK tp) t).length) (v := txW tp t)
      have xi := rdX_div (K := txK tp) (W := txW tp) (U := rdU (txK tp) (txW tp) T) t
      rw [rix_at nd hc ec] at xi
      have rO := rdOv_r (txK tp) t
      have rS := rdSg_r (txK tp) t
      have fb : ∀ y, rfb (txK tp) (txW tp) (rdT (txK tp) T) (rdT (txK tp) t).length = y → (if 99 < txW tp t then 5 else if rcc (txW tp) (rdT (txK tp) T) (rdT (txK tp) t).length (txW tp t) = [] ∨ ((rcc (txW tp) (rdT (txK tp) T) (rdT (txK tp) t).length (txW tp t)).length = 1 ∧ rdOv (txK tp) ((rcc (txW tp) (rdT (txK tp) T) (rdT (txK tp) t).length (txW tp t)).getD 0 0) ≠ rdOv (txK tp) t ∧ rdSg (txK tp) ((rcc (txW tp) (rdT (txK tp) T) (rdT (txK tp) t).length (txW tp t)).getD 0 0) = rdSg (txK tp) t) then 0 else 3) = y := by
        intro y h
        unfold rfb at h
        rw [hk] at h
        exact h
      have fb := fb _ rfl
      -- counted and laid
      have s216 : ∀ Y, mFr2 V Y → Y 308 1 = ((rdU (txK tp) (txW tp) T).length : Int) → (∀ c', c' < (rdU (txK tp) (txW tp) T).length → Y 310 c' = ((rcc (txW tp) (rdT (txK tp) T) (rdT (txK tp) t).length ((rdU (txK tp) (txW tp) T).getD c' 0)).length : Int) ∧ (rcc (txW tp) (rdT (txK tp) T) ((rdT (txK tp) t).length + 1) ((rdU (txK tp) (txW tp) T).getD c' 0) ≠ [] → Y 311 c' = rdOv (txK tp) ((rcc (txW tp) (rdT (txK tp) T) ((rdT (txK tp) t).length + 1) ((rdU (txK tp) (txW tp) T).getD c' 0)).getD 0 0) ∧ Y 308 (70 + c') = if rdSg (txK tp) ((rcc (txW tp) (rdT (txK tp) T) ((rdT (txK tp) t).length + 1) ((rdU (txK tp) (txW tp) T).getD c' 0)).getD 0 0) = 1 then 1 else -1)) → wst Y (txK tp) (txW tp) (txP tp) (rdT (txK tp) T) ((rdT (txK tp) t).length + 1) → (Y 299 14 = 0 → kRw Y (rdR (txK tp) (txW tp) (rdU (txK tp) (txW tp) T) t)) → kGo xs Lx (d + 1) 148 216 [some (.ref 299), some (kI (((rdF (txK tp) t).length : Int) - 1)), some (kI (t : Int)), some (kI (c : Int)), some (kI (rdOv (txK tp) t)), none] [] Y (fun r V' => r = none ∧ G V') := by
        intro Y y1 y2 y3 y4 y5
        obtain ⟨d1, d2⟩ := y3 c hc
        rw [ec] at d1
        have cnt : ∀ c', c' < (rdU (txK tp) (txW tp) T).length → up Y 310 c (Y 310 c + 1) 310 c' = ((rcc (txW tp) (rdT (txK tp) T) ((rdT (txK tp) t).length + 1) ((rdU (txK tp) (txW tp) T).getD c' 0)).length : Int) := by
          intro c' hc'
          rw [sc]
          by_cases e : c' = c
          · subst e
            rw [up_at, ec, if_pos rfl, List.length_append, List.length_singleton, d1]; rfl
          · have ne : txW tp t ≠ (rdU (txK tp) (txW tp) T).getD c' 0 := fun q => e (nd_inj nd hc' hc (by rw [ec, q]))
            rw [up_ne (by omega), if_neg ne]; exact (y3 c' hc').1
        refine b148_216 ?_
        rw [tn, up_ne (show ¬ (299 = 310 ∧ 14 = c) by omega)]
        have w14 : kR (Y 299 14) := by
          rcases y4 with ⟨q, _⟩ | ⟨i0, _, _, _, _, q, _⟩
          · rw [q]; decide
          · have := rfb_r (K := txK tp) (W := txW tp) (L := rdT (txK tp) T) (i := i0)
            rw [q]; exact ⟨by omega, by omega⟩
        refine ⟨⟨by omega, by omega⟩, w14, fun w0 => b148_247 ?_, fun w0 => ?_⟩
        · rw [← eF']
          refine ih _ ⟨fun b j hb => ?_, ?_, fun c' hc' => ?_, ?_, fun q => ?_⟩
          · rw [up_ne (by omega)]; exact y1 b j hb
          · rw [up_ne (by omega)]; exact y2
          · rw [lT']
            refine ⟨cnt c' hc', fun q => ?_⟩
            rw [up_ne (by omega), up_ne (by omega)]; exact (y3 c' hc').2 q
          · rw [lT']; unfold wst; rw [up_ne (by omega), up_ne (by omega)]; exact y4
          · rw [up_ne (by omega)] at q; exact absurd q w0
        · have nof : ∀ j, j < (rdT (txK tp) t).length + 1 → rfb (txK tp) (txW tp) (rdT (txK tp) T) j = 0 := by
            rcases y4 with ⟨_, q⟩ | ⟨i0, _, _, _, q2, q, _⟩
            · exact q
            · rw [w0] at q; exact absurd q.symm q2
          have l16 := rdX_le (K := txK tp) (U := rdU (txK tp) (txW tp) T) (show (rdT (txK tp) t).length + 1 ≤ (rdT (txK tp) T).length by omega) nof aU
          have fl := rdR_flat (U := rdU (txK tp) (txW tp) T) t hpre k0
          have lfl := congrArg List.length fl
          rw [List.length_map] at lfl
          have lR := rdR_len (K := txK tp) (W := txW tp) (U := rdU (txK tp) (txW tp) T) t
          have each : ∀ s, ((rdR (txK tp) (txW tp) (rdU (txK tp) (txW tp) T) t).getD s []).length ≤ 15 := fun s => by have := fl_each (R := rdR (txK tp) (txW tp) (rdU (txK tp) (txW tp) T) t) (s := s); omega
          have er : ((rdF (txK tp) t).length : Int) - 1 = (((rdF (txK tp) t).length - 1 : Nat) : Int) := by omega
          have ev : 2 * (c : Int) + rdOv (txK tp) t = (rdX (txK tp) (txW tp) (rdU (txK tp) (txW tp) T) t : Int) := by omega
          have kr := y5 w0
          rw [er, ev]
          refine sp_madds (d := d) (R := rdR (txK tp) (txW tp) (rdU (txK tp) (txW tp) T) t) (by omega) (by omega) ⟨fun r hr => ?_, fun r j hr hj => ?_⟩ (each _) (fun s => Nat.le_trans (each s) (by decide)) (fun Z zR zf => b148_247 ?_)
          · rw [up_ne (by omega)]; exact kr.1 r hr
          · rw [up_ne (by omega)]; exact kr.2 r j hr hj
          · rw [← er, ← eF']
            refine ih _ ⟨fun b j hb => ?_, ?_, fun c' hc' => ?_, ?_, fun q => ?_⟩
            · rw [zf b j (by omega), up_ne (by omega)]; exact y1 b j hb
            · rw [zf 308 1 (by omega), up_ne (by omega)]; exact y2
            · rw [lT', zf 310 c' (by omega), zf 311 c' (by omega), zf 308 (70 + c') (by omega)]
              refine ⟨cnt c' hc', fun q => ?_⟩
              rw [up_ne (by omega), up_ne (by omega)]; exact (y3 c' hc').2 q
            · rw [lT']; unfold wst; rw [zf 299 14 (by omega), zf 299 15 (by omega), up_ne (by omega), up_ne (by omega)]; exact y4
            · rw [eR, if_neg (by omega), if_pos e6, lR]
              exact zR
      have s188 : ∀ Y, mFr2 V Y → Y 308 1 = ((rdU (txK tp) (txW tp) T).length : Int) → kCt Y (txK tp) (txW tp) (rdT (txK tp) T) (rdU (txK tp) (txW tp) T) (rdT (txK tp) t).length → wst Y (txK tp) (txW tp) (txP tp) (rdT (txK tp) T) ((rdT (txK tp) t).length + 1) → (Y 299 14 = 0 → kRw Y (rdR (txK tp) (txW tp) (rdU (txK tp) (txW tp) T) t)) → kGo xs Lx (d + 1) 148 188 [some (.ref 299), some (kI (((rdF (txK tp) t).length : Int) - 1)), some (kI (t : Int)), some (kI (c : Int)), some (kI (rdOv (txK tp) t)), some (kI (if rdSg (txK tp) t = 1 then 1 else -1))] [] Y (fun r V' => r = none ∧ G V') := by
        intro Y y1 y2 y3 y4 y5
        obtain ⟨d1, d2⟩ := y3 c hc
        rw [ec] at d1 d2
        have oth : ∀ c', c' < (rdU (txK tp) (txW tp) T).length → c' ≠ c → rcc (txW tp) (rdT (txK tp) T) ((rdT (txK tp) t).length + 1) ((rdU (txK tp) (txW tp) T).getD c' 0) = rcc (txW tp) (rdT (txK tp) T) (rdT (txK tp) t).length ((rdU (txK tp) (txW tp) T).getD c' 0) := by
          intro c' hc' e
          rw [sc, if_neg (fun q => e (nd_inj nd hc' hc (by rw [ec, q])))]
        refine b148_188 ?_
        rw [tn, d1]
        refine ⟨⟨by omega, by omega⟩, ⟨by omega, by omega⟩, fun n0 => s216 Y y1 y2 (fun c' hc' => ?_) y4 y5, fun z0 => ?_⟩
        · refine ⟨(y3 c' hc').1, fun q => ?_⟩
          by_cases e : c' = c
          · subst e
            rw [sc, ec, if_pos rfl]
            have ne : rcc (txW tp) (rdT (txK tp) T) (rdT (txK tp) t).length (txW tp t) ≠ [] := fun z => by rw [z] at n0; exact absurd rfl n0
            rw [gd_appl (List.length_pos_iff.mpr ne)]
            exact d2 ne
          · rw [oth c' hc' e] at q ⊢
            exact (y3 c' hc').2 q
        · have ez : rcc (txW tp) (rdT (txK tp) T) (rdT (txK tp) t).length (txW tp t) = [] := List.eq_nil_of_length_eq_zero (by omega)
          rw [tn_70]
          refine ⟨⟨by omega, by omega⟩, s216 _ (fun b j hb => ?_) ?_ (fun c' hc' => ⟨?_, fun q => ?_⟩) ?_ (fun q => ?_)⟩
          · rw [up_ne (by omega), up_ne (by omega)]; exact y1 b j hb
          · rw [up_ne (by omega), up_ne (by omega)]; exact y2
          · rw [up_ne (by omega), up_ne (by omega)]; exact (y3 c' hc').1
          · by_cases e : c' = c
            · subst e
              rw [sc, ec, if_pos rfl, ez, up_ne (by omega), up_at, up_at]
              exact ⟨rfl, rfl⟩
            · rw [oth c' hc' e] at q ⊢
              rw [up_ne (by omega), up_ne (by omega), up_ne (by omega), up_ne (by omega)]
              exact (y3 c' hc').2 q
          · unfold wst
            rw [up_ne (by omega), up_ne (by omega), up_ne (by omega), up_ne (by omega)]; exact y4
          · rw [up_ne (by omega), up_ne (by omega)] at q
            obtain ⟨a, b⟩ := y5 q
            refine ⟨fun r hr => ?_, fun r j hr hj => ?_⟩
            · rw [up_ne (by omega), up_ne (by omega)]; exact a r hr
            · have l15 : 6 + 16 * r + j < 70 := by
                have nof : ∀ j, j < (rdT (txK tp) t).length + 1 → rfb (txK tp) (txW tp) (rdT (txK tp) T) j = 0 := by
                  rcases y4 with ⟨_, q'⟩ | ⟨i0, _, _, _, q2, q', _⟩
                  · exact q'
                  · rw [q] at q'; exact absurd q'.symm q2
                have l16 := rdX_le (K := txK tp) (U := rdU (txK tp) (txW tp) T) (show (rdT (txK tp) t).length + 1 ≤ (rdT (txK tp) T).length by omega) nof aU
                have lfl := congrArg List.length (rdR_flat (U := rdU (txK tp) (txW tp) T) t hpre k0)
                rw [List.length_map] at lfl
                have lR := rdR_len (K := txK tp) (W := txW tp) (U := rdU (txK tp) (txW tp) T) t
                have := fl_each (R := rdR (txK tp) (txW tp) (rdU (txK tp) (txW tp) T) t) (s := r)
                omega
              rw [up_ne (by omega), up_ne (by omega)]; exact b r j hr hj
      have s182 : ∀ Y, mFr2 V Y → Y 308 1 = ((rdU (txK tp) (txW tp) T).length : Int) → kCt Y (txK tp) (txW tp) (rdT (txK tp) T) (rdU (txK tp) (txW tp) T) (rdT (txK tp) t).length → (Y 299 14 = 0 → kRw Y (rdR (txK tp) (txW tp) (rdU (txK tp) (txW tp) T) t)) → rfb (txK tp) (txW tp) (rdT (txK tp) T) (rdT (txK tp) t).length ≠ 0 → rcc (txW tp) (rdT (txK tp) T) (rdT (txK tp) t).length (txW tp t) ≠ [] → (Y 299 14 = 0 ∧ (∀ j, j < (rdT (txK tp) t).length → rfb (txK tp) (txW tp) (rdT (txK tp) T) j = 0) ∧ ¬ 99 < txW tp t ∨ (∃ i0, i0 < (rdT (txK tp) t).length ∧ i0 < (rdT (txK tp) T).length ∧ (∀ j, j < i0 → rfb (txK tp) (txW tp) (rdT (txK tp) T) j = 0) ∧ rfb (txK tp) (txW tp) (rdT (txK tp) T) i0 ≠ 0 ∧ Y 299 14 = rfb (txK tp) (txW tp) (rdT (txK tp) T) i0 ∧ Y 299 15 = (txP tp ((rdT (txK tp) T).getD i0 0) : Int)) ∨ (∀ j, j < (rdT (txK tp) t).length → rfb (txK tp) (txW tp) (rdT (txK tp) T) j = 0) ∧ 99 < txW tp t ∧ Y 299 14 = 5 ∧ Y 299 15 = (txP tp t : Int)) → kGo xs Lx (d + 1) 148 182 [some (.ref 299), some (kI (((rdF (txK tp) t).length : Int) - 1)), some (kI (t : Int)), some (kI (c : Int)), some (kI (rdOv (txK tp) t)), some (kI (if rdSg (txK tp) t = 1 then 1 else -1))] [] Y (fun r V' => r = none ∧ G V') := by
        intro Y y1 y2 y3 y5 hnf hne y4
        have h12 : Y 299 12 = 0 := by rw [y1 299 12 (by omega)]; exact v12
        have h3 : Y 303 t = (txP tp t : Int) := by rw [y1 303 t (by omega)]; exact m3
        have rp : kR (txP tp t : Int) := ⟨by omega, by have := Pr t; omega⟩
        refine b148_182 ?_
        rcases y4 with ⟨q1, q2, q3⟩ | ⟨i0, q1, q2, q3, q4, q5, q6⟩ | ⟨q1, q2, q3, q4⟩
        · refine sp_mwrong0 (d := d) (by omega) h12 h3 q1 (s188 _ (fun b j hb => ?_) ?_ (fun c' hc' => ?_) (Or.inr ⟨_, by omega, hi, q2, hnf, ?_, ?_⟩) (fun q => ?_))
          · rw [up_ne (by omega), up_ne (by omega)]; exact y1 b j hb
          · rw [up_ne (by omega), up_ne (by omega)]; exact y2
          · rw [up_ne (by omega), up_ne (by omega), up_ne (by omega), up_ne (by omega), up_ne (by omega), up_ne (by omega)]; exact y3 c' hc'
          · rw [up_ne (by omega), up_at]
            rw [if_neg q3] at fb
            split at fb
            · exact absurd fb.symm hnf
            · exact fb
          · rw [up_at, hk]
          · rw [up_ne (by omega), up_at] at q; exact absurd q (by decide)
        · have r0 := rfb_r (K := txK tp) (W := txW tp) (L := rdT (txK tp) T) (i := i0)
          refine sp_mwrong1 (d := d) (q := (txP tp ((rdT (txK tp) T).getD i0 0) : Int)) (by omega) h12 h3 (by rw [q5]; exact q4) (by rw [q5]; exact ⟨by omega, by omega⟩) q6 (by have := low i0 q1; omega) ⟨by omega, by have := Pr ((rdT (txK tp) T).getD i0 0); omega⟩ rp (s188 Y y1 y2 y3 (Or.inr ⟨i0, by omega, q2, q3, q4, q5, q6⟩) y5)
        · exfalso
          obtain ⟨x, hx'⟩ := List.exists_mem_of_ne_nil _ hne
          obtain ⟨a1, j, a2, a3, a4⟩ := rcc_mem hx'
          have := q1 j a2
          unfold rfb at this
          rw [a4, a1, if_pos q2] at this
          exact absurd this (by decide)
      have s137 : ∀ Y, mFr2 V Y → Y 308 1 = ((rdU (txK tp) (txW tp) T).length : Int) → kCt Y (txK tp) (txW tp) (rdT (txK tp) T) (rdU (txK tp) (txW tp) T) (rdT (txK tp) t).length → (Y 299 14 = 0 → kRw Y (rdR (txK tp) (txW tp) (rdU (txK tp) (txW tp) T) t)) → (Y 299 14 = 0 ∧ (∀ j, j < (rdT (txK tp) t).length → rfb (txK tp) (txW tp) (rdT (txK tp) T) j = 0) ∧ ¬ 99 < txW tp t ∨ (∃ i0, i0 < (rdT (txK tp) t).length ∧ i0 < (rdT (txK tp) T).length ∧ (∀ j, j < i0 → rfb (txK tp) (txW tp) (rdT (txK tp) T) j = 0) ∧ rfb (txK tp) (txW tp) (rdT (txK tp) T) i0 ≠ 0 ∧ Y 299 14 = rfb (txK tp) (txW tp) (rdT (txK tp) T) i0 ∧ Y 299 15 = (txP tp ((rdT (txK tp) T).getD i0 0) : Int)) ∨ (∀ j, j < (rdT (txK tp) t).length → rfb (txK tp) (txW tp) (rdT (txK tp) T) j = 0) ∧ 99 < txW tp t ∧ Y 299 14 = 5 ∧ Y 299 15 = (txP tp t : Int)) → ∀ x4 x5 : Int, x4 = rdOv (txK tp) t → x5 = (if rdSg (txK tp) t = 1 then 1 else -1) → kGo xs Lx (d + 1) 148 137 [some (.ref 299), some (kI (((rdF (txK tp) t).length : Int) - 1)), some (kI (t : Int)), some (kI (c : Int)), some (kI x4), some (kI x5)] [] Y (fun r V' => r = none ∧ G V') := by
        intro Y y1 y2 y3 y5 y4 x4' x5' hx4 hx5
        subst hx4
        subst hx5
        obtain ⟨d1, d2⟩ := y3 c hc
        rw [ec] at d1 d2
        -- no clash
        have fit : (rcc (txW tp) (rdT (txK tp) T) (rdT (txK tp) t).length (txW tp t) = [] ∨ ((rcc (txW tp) (rdT (txK tp) T) (rdT (txK tp) t).length (txW tp t)).length = 1 ∧ rdOv (txK tp) ((rcc (txW tp) (rdT (txK tp) T) (rdT (txK tp) t).length (txW tp t)).getD 0 0) ≠ rdOv (txK tp) t ∧ rdSg (txK tp) ((rcc (txW tp) (rdT (txK tp) T) (rdT (txK tp) t).length (txW tp t)).getD 0 0) = rdSg (txK tp) t)) → wst Y (txK tp) (txW tp) (txP tp) (rdT (txK tp) T) ((rdT (txK tp) t).length + 1) := by
          intro hq
          rcases y4 with ⟨q1, q2, q3⟩ | ⟨i0, q1, q2, q3, q4, q5, q6⟩ | ⟨q1, q2, q3, q4⟩
          · refine Or.inl ⟨q1, fun j hj => ?_⟩
            by_cases e : j = (rdT (txK tp) t).length
            · rw [if_neg q3, if_pos hq] at fb
              rw [e]; exact fb.symm
            · exact q2 j (by omega)
          · exact Or.inr ⟨i0, by omega, q2, q3, q4, q5, q6⟩
          · rw [if_pos q2] at fb
            exact Or.inr ⟨_, by omega, hi, q1, by rw [← fb]; decide, by rw [← fb]; exact q3, by rw [hk]; exact q4⟩
        have unfit : rcc (txW tp) (rdT (txK tp) T) (rdT (txK tp) t).length (txW tp t) ≠ [] → ¬ ((rcc (txW tp) (rdT (txK tp) T) (rdT (txK tp) t).length (txW tp t)).length = 1 ∧ rdOv (txK tp) ((rcc (txW tp) (rdT (txK tp) T) (rdT (txK tp) t).length (txW tp t)).getD 0 0) ≠ rdOv (txK tp) t ∧ rdSg (txK tp) ((rcc (txW tp) (rdT (txK tp) T) (rdT (txK tp) t).length (txW tp t)).getD 0 0) = rdSg (txK tp) t) → rfb (txK tp) (txW tp) (rdT (txK tp) T) (rdT (txK tp) t).length ≠ 0 := by
          intro a b q
          rw [q] at fb
          split at fb
          · omega
          · rw [if_neg (fun z => z.elim a b)] at fb; omega
        refine b148_137 ?_
        rw [tn, d1]
        refine ⟨⟨by omega, by omega⟩, ⟨by omega, by omega⟩, fun g1 => ?_, fun l1 => ⟨fun n1 => ?_, fun e1 => ?_⟩⟩
        · have ne : rcc (txW tp) (rdT (txK tp) T) (rdT (txK tp) t).length (txW tp t) ≠ [] := fun z => by rw [z] at g1; exact absurd g1 (by decide)
          exact s182 Y y1 y2 y3 y5 (unfit ne (fun z => by omega)) ne y4
        · have ez : rcc (txW tp) (rdT (txK tp) T) (rdT (txK tp) t).length (txW tp t) = [] := List.eq_nil_of_length_eq_zero (by omega)
          exact s188 Y y1 y2 y3 (fit (Or.inl ez)) y5
        · have ne : rcc (txW tp) (rdT (txK tp) T) (rdT (txK tp) t).length (txW tp t) ≠ [] := fun z => by rw [z] at e1; exact absurd e1 (by decide)
          obtain ⟨f1', f2'⟩ := d2 ne
          have rO2 := rdOv_r (txK tp) ((rcc (txW tp) (rdT (txK tp) T) (rdT (txK tp) t).length (txW tp t)).getD 0 0)
          have rS2 := rdSg_r (txK tp) ((rcc (txW tp) (rdT (txK tp) T) (rdT (txK tp) t).length (txW tp t)).getD 0 0)
          rw [tn_70, f1', f2']
          refine ⟨⟨by omega, by omega⟩, ⟨by omega, by omega⟩, fun eo => ?_, fun no => ⟨⟨by omega, by omega⟩, ?_, ?_, fun es => ?_, fun ns => ?_⟩⟩
          · exact s182 Y y1 y2 y3 y5 (unfit ne (fun z => z.2.1 eo)) ne y4
          · split <;> decide
          · split <;> decide
          · refine s188 Y y1 y2 y3 (fit (Or.inr ⟨by omega, no, ?_⟩)) y5
            rcases rS2 with a | a <;> rcases rS with b | b <;> rw [a, b] at es ⊢
            · exact absurd es (by decide)
            · exact absurd es (by decide)
          · refine s182 Y y1 y2 y3 y5 (unfit ne (fun z => ns ?_)) ne y4
            rw [z.2.2]
      have ex' : x = ((rdF (txK tp) t).length : Int) - 1 := by rw [ex, eF']
      subst ex'
      obtain ⟨p2, _, _⟩ := M (t - 1) (by omega)
      obtain ⟨n2, _, _⟩ := M (t + 1) (by omega)
      have Mp := mtK_r tp (txP tp (t - 1))
      have Mn := mtK_r tp (txP tp (t + 1))
      have zp : txM tp (t - 1) = mtK tp (txP tp (t - 1)) := rfl
      have zn : txM tp (t + 1) = mtK tp (txP tp (t + 1)) := rfl
      have fp := (txM_iff tp (t - 1)).2.2.2.2.2.2.1
      have fn := (txM_iff tp (t + 1)).2.2.2.1
      have eO : rdOv (txK tp) t = if txK tp (t - 1) = 4 then 1 else 0 := rfl
      have eSg : rdSg (txK tp) t = if txK tp (t + 1) = 8 then 1 else 0 := by unfold rdSg; rw [if_neg (by omega)]
      have tm : Int.toNat ((t : Int) - 1) = t - 1 := by omega
      have tp1 : Int.toNat ((t : Int) + 1) = t + 1 := tn1 t
      have tail : ∀ x4 x5 : Int, x4 = rdOv (txK tp) t → x5 = (if rdSg (txK tp) t = 1 then 1 else -1) → (kR (txW tp t)) ∧ ((txW tp t ≤ 99 → kGo xs Lx (d + 1) 148 137 [some (.ref 299), some (kI (((rdF (txK tp) t).length : Int) - 1)), some (kI (t : Int)), some (kI (c : Int)), some (kI x4), some (kI x5)] [] X (fun r V' => r = none ∧ G V')) ∧ (99 < txW tp t → kCV xs Lx (d + 0) 138 4 [.ref 299, kI 5, kI (t : Int)] X (fun W2 => kGo xs Lx (d + 1) 148 137 [some (.ref 299), some (kI (((rdF (txK tp) t).length : Int) - 1)), some (kI (t : Int)), some (kI (c : Int)), some (kI x4), some (kI x5)] [] W2 (fun r V' => r = none ∧ G V')))) := by
        intro x4' x5' h4 h5
        refine ⟨kt, fun l => s137 X x1 x2 x3 x5 ?_ _ _ h4 h5, fun g => ?_⟩
        · rcases x4 with ⟨q1, q2⟩ | q
          · exact Or.inl ⟨q1, q2, by omega⟩
          · exact Or.inr (Or.inl q)
        · have h12 : X 299 12 = 0 := by rw [x1 299 12 (by omega)]; exact v12
          have h3 : X 303 t = (txP tp t : Int) := by rw [x1 303 t (by omega)]; exact m3
          have rp : kR (txP tp t : Int) := ⟨by omega, by have := Pr t; omega⟩
          rcases x4 with ⟨q1, q2⟩ | ⟨i0, q1, q2, q3, q4, q5, q6⟩
          · refine sp_mwrong0 (d := d) (by omega) h12 h3 q1 (s137 _ (fun b j hb => ?_) ?_ (fun c' hc' => ?_) (fun q => ?_) (Or.inr (Or.inr ⟨q2, g, ?_, up_at _ _ _ _⟩)) _ _ h4 h5)
            · rw [up_ne (by omega), up_ne (by omega)]; exact x1 b j hb
            · rw [up_ne (by omega), up_ne (by omega)]; exact x2
            · rw [up_ne (by omega), up_ne (by omega), up_ne (by omega), up_ne (by omega), up_ne (by omega), up_ne (by omega)]; exact x3 c' hc'
            · rw [up_ne (by omega), up_at] at q; exact absurd q (by decide)
            · rw [up_ne (by omega), up_at]
          · have r0 := rfb_r (K := txK tp) (W := txW tp) (L := rdT (txK tp) T) (i := i0)
            exact sp_mwrong1 (d := d) (q := (txP tp ((rdT (txK tp) T).getD i0 0) : Int)) (by omega) h12 h3 (by rw [q5]; exact q4) (by rw [q5]; exact ⟨by omega, by omega⟩) q6 (by have := low i0 q1; omega) ⟨by omega, by have := Pr ((rdT (txK tp) T).getD i0 0); omega⟩ rp (s137 X x1 x2 x3 x5 (Or.inr (Or.inl ⟨i0, q1, q2, q3, q4, q5, q6⟩)) _ _ h4 h5)
      rw [tm, tp1, x1 302 (t - 1) (by omega), p2, x1 302 (t + 1) (by omega), n2, m4' e2]
      refine ⟨⟨by omega, by omega⟩, ⟨by omega, by omega⟩, fun np => ⟨⟨by omega, by omega⟩, ⟨by omega, by omega⟩, fun nn => tail 0 (-1) ?_ ?_, fun en => tail 0 1 ?_ ?_⟩, fun ep => ⟨⟨by omega, by omega⟩, ⟨by omega, by omega⟩, fun nn => tail 1 (-1) ?_ ?_, fun en => tail 1 1 ?_ ?_⟩⟩
      · rw [eO, if_neg (fun q => np (fp.mpr q))]
      · rw [eSg, if_neg (fun q => nn (fn.mpr q))]; rfl
      · rw [eO, if_neg (fun q => np (fp.mpr q))]
      · rw [eSg, if_pos (fn.mp en)]; rfl
      · rw [eO, if_pos (fp.mp ep)]
      · rw [eSg, if_neg (fun q => nn (fn.mpr q))]; rfl
      · rw [eO, if_pos (fp.mp ep)]
      · rw [eSg, if_pos (fn.mp en)]; rfl
    · have n6 : txK tp t ≠ 6 := fun q => n2 (ff.2.1.mpr q)
      have eT' : rdT (txK tp) (t + 1) = rdT (txK tp) t := by rw [eT, if_neg (by omega)]
      rw [ex]
      refine ih X ⟨x1, x2, by rw [eT']; exact x3, by rw [eT']; exact x4, fun q => ?_⟩
      have := x5 q
      rw [eR]
      by_cases e20 : txK tp t = 2
      · rw [if_pos e20]
        refine ⟨fun r hr => by rw [gd_app0]; exact this.1 r hr, fun r j hr hj => ?_⟩
        rw [gd_app0] at hj ⊢
        rw [List.length_append, List.length_singleton] at hr
        by_cases z : r = (rdR (txK tp) (txW tp) (rdU (txK tp) (txW tp) T) t).length
        · rw [z, gd_ge (Nat.le_refl _)] at hj; exact absurd hj (Nat.not_lt_zero _)
        · exact this.2 r j (by omega) hj
      · rw [if_neg e20, if_neg n6]; exact this
  refine b148_35 ?_
  rw [x1 299 10 (by omega), v10, tn, x1 302 _ (by omega), m2]
  refine ⟨by omega, by omega, fun l => by omega, fun _ => ⟨⟨by omega, by omega⟩, ⟨by omega, by omega⟩, fun n20 => go57 _ ?_, fun e20 => go57 _ ?_⟩⟩
  · have n2 : txK tp t ≠ 2 := fun q => n20 (ff.2.2.2.2.2.1.mpr q)
    rw [eF, if_neg n2]
  · have e2 := ff.2.2.2.2.2.1.mp e20
    rw [eF, if_pos e2, List.length_append, List.length_singleton]; omega
end MMR

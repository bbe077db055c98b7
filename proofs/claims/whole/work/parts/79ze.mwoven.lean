section MBM
variable {xs : Nat → Int32} {Lx d : Nat} {V : km_V} {tp : List Int} {T : Nat}
/-- the first fault of a braid's ints so far -/
def bst (X : km_V) (W : Nat → Int) (P : Nat → Nat) (L : List Nat) (i : Nat) : Prop := (X 299 14 = 0 ∧ ∀ j, j < i → 1 ≤ W (L.getD j 0) ∧ W (L.getD j 0) < W 1) ∨ (∃ i0, i0 < i ∧ i0 < L.length ∧ (∀ j, j < i0 → 1 ≤ W (L.getD j 0) ∧ W (L.getD j 0) < W 1) ∧ ¬ (1 ≤ W (L.getD i0 0) ∧ W (L.getD i0 0) < W 1) ∧ X 299 14 = 5 ∧ X 299 15 = (P (L.getD i0 0) : Int))
theorem sp_mwoven {a b : Nat → Nat} {n s : Nat} {Q : Option Value → km_V → Prop} (s4 : s ≤ 4) (hn : n ≤ 8) (h0 : V 308 0 = 0) (h1 : V 308 1 = (n : Int)) (hA : ∀ c, c < n → V 312 c = (a c : Int) ∧ V 308 (70 + c) = if b c = 1 then 1 else -1) (hb : ∀ c, c < n → b c ≤ 1) (ha : ∀ c, c < n → a c + 2 ≤ s) (hz : ∀ r, r < 4 → V 308 (2 + r) = 0) (ok : rwOk (brRw a b n s)) (k : ∀ X, kRf (X 308) (brRw a b n s) → (∀ c j, c ≠ 308 → X c j = V c j) → Q none X) : kGo xs Lx (d + 2) 151 142 [some (.ref 299), some (kI (s : Int)), some (kI (n : Int)), some (kI 0), some (kI 0), none] [] V Q := by
  have en : rwn (brRw a b n s) = n := by show ((List.range n).map _).length = n; rw [List.length_map, List.length_range]
  have e1 : (brRw a b n s).1 = (brR a b n s s).1 := rfl
  have lenP := ok.len
  rw [en] at lenP
  have lenP : (brR a b n s s).1.flatten.length = 2 * n := lenP
  refine kloop s (fun p X => kRw X (brR a b n s p).1 ∧ X 308 0 = ((brR a b n s p).1.length : Int) ∧ (∀ c j, ¬ (c = 308 ∧ j < 70 ∧ j ≠ 1) → X c j = V c j)) (fun p X => kGo xs Lx (d + 2) 151 142 [some (.ref 299), some (kI (s : Int)), some (kI (n : Int)), some (kI ((brR a b n s p).2 : Int)), some (kI (p : Int)), none] [] X Q) (fun X hX => ?_) (fun p X hp hX ih => ?_) 0 V (Nat.zero_le _) ⟨⟨fun r hr => by rw [hz r hr]; rfl, fun r j hr => absurd hr (Nat.not_lt_zero _)⟩, h0, fun _ _ _ => rfl⟩
  · obtain ⟨x1, x2, x3⟩ := hX
    refine b151_142 ⟨by omega, by omega, fun _ => k X ⟨?_, ?_, fun i hi => ?_, fun i j hi hj => ?_, fun c hc => ?_⟩ (fun c j hc => x3 c j (by omega)), fun q => by omega⟩
    · exact x2
    · rw [x3 308 1 (by omega), h1, en]
    · have := (brR_lt (b := b) s4 ha s (Nat.le_refl _)).2
      rw [e1] at hi
      exact x1.1 i (by omega)
    · exact x1.2 i j hi hj
    · rw [en] at hc
      rw [x3 308 (70 + c) (by omega), (hA c hc).2]
      show _ = ((List.range n).map _).getD c 0
      rw [gd_rmap hc]
  · obtain ⟨x1, x2, x3⟩ := hX
    obtain ⟨g16, lp⟩ := brR_lt (b := b) s4 ha p (by omega)
    have mono := brR_mono (a := a) (b := b) (n := n) (s := s) (p := p + 1) s (by omega)
    refine b151_142 ?_
    rw [khas_bit]
    refine ⟨by omega, by omega, fun q => by omega, fun _ => ⟨⟨by omega, by omega, by omega⟩, by split <;> decide, fun e0 => ?_, fun n0 => ?_⟩⟩
    rotate_left
    · have eb : (brR a b n s p).2 / 2 ^ p % 2 = 1 := by
        apply Decidable.byContradiction
        intro q
        rw [if_neg q] at n0
        exact n0 rfl
      have e : brR a b n s (p + 1) = brR a b n s p := by rw [brR_s, if_pos eb]
      have := ih X (by rw [e]; exact ⟨x1, x2, x3⟩)
      rw [e] at this
      exact this
    have nb : (brR a b n s p).2 / 2 ^ p % 2 ≠ 1 := by
      intro q
      rw [if_pos q] at e0
      exact absurd e0 (by decide)
    have eR : brR a b n s (p + 1) = ((brR a b n s p).1 ++ [(brG a b n s (brR a b n s p).2 p).1], (brG a b n s (brR a b n s p).2 p).2) := by rw [brR_s, if_neg nb]
    generalize hq : brR a b n s p = q at *
    obtain ⟨rs, g⟩ := q
    dsimp only at *
    rw [eR, List.flatten_append, List.length_append] at mono
    have fl1 : ([(brG a b n s g p).1] : List (List Nat)).flatten = (brG a b n s g p).1 := by simp
    rw [fl1] at mono
    have inner : ∀ f g' x (l : List Nat) (X' : km_V), ms s g' ≤ f → g' < 16 → x < s → (brG a b n s g p).1 = l ++ (brG a b n f g' x).1 → (brG a b n s g p).2 = (brG a b n f g' x).2 → kRw X' (rs ++ [l]) → (∀ c j, ¬ (c = 308 ∧ 2 ≤ j ∧ j < 70) → X' c j = X c j) → kGo xs Lx (d + 2) 151 164 [some (.ref 299), some (kI (s : Int)), some (kI (n : Int)), some (kI (g' : Int)), some (kI (p : Int)), some (kI (x : Int))] [] X' Q := by
      intro f
      have done : ∀ g' x (l : List Nat) (X' : km_V), g' < 16 → x < s → g' / 2 ^ x % 2 = 1 → (brG a b n s g p).1 = l → (brG a b n s g p).2 = g' → kRw X' (rs ++ [l]) → (∀ c j, ¬ (c = 308 ∧ 2 ≤ j ∧ j < 70) → X' c j = X c j) → kGo xs Lx (d + 2) 151 164 [some (.ref 299), some (kI (s : Int)), some (kI (n : Int)), some (kI (g' : Int)), some (kI (p : Int)), some (kI (x : Int))] [] X' Q := by
        intro g' x l X' hg hx hbit h1' h2' h3' h6
        rw [h1', h2'] at eR
        refine b151_164 ?_
        rw [khas_bit, if_pos hbit]
        refine ⟨⟨by omega, by omega, by omega⟩, by decide, fun _ => ?_, fun q => absurd q (by decide)⟩
        rw [tn0, h6 308 0 (by omega), x2]
        have := ih (up X' 308 0 ((rs.length : Int) + 1)) (by
          rw [eR]
          dsimp only
          refine ⟨⟨fun r hr => ?_, fun r j hr hj => ?_⟩, ?_, fun c j hc => ?_⟩
          · rw [up_ne (by omega)]; exact h3'.1 r hr
          · rw [up_ne (by omega)]; exact h3'.2 r j hr hj
          · rw [up_at, List.length_append, List.length_singleton]; rfl
          · rw [up_ne (by omega), h6 c j (by omega)]; exact x3 c j hc)
        rw [eR] at this
        exact this
      induction f with
      | zero =>
        intro g' x l X' hm hg hx h1' h2' h3' h6
        exact done g' x l X' hg hx (ms_zero s (by omega) g' hg x hx (by omega)) (by rw [h1']; simp [brG]) (by rw [h2']; rfl) h3' h6
      | succ f IH =>
        intro g' x l X' hm hg hx h1' h2' h3' h6
        have uf : brG a b n (f + 1) g' x = if g' / 2 ^ x % 2 = 1 then ([], g') else (brL a b n x ++ (brG a b n f (g' ||| 2 ^ x) (brX a n x)).1, (brG a b n f (g' ||| 2 ^ x) (brX a n x)).2) := rfl
        by_cases hbit : g' / 2 ^ x % 2 = 1
        · rw [uf, if_pos hbit] at h1' h2'
          exact done g' x l X' hg hx hbit (by rw [h1', List.append_nil]) h2' h3' h6
        · rw [uf, if_neg hbit] at h1' h2'
          dsimp only at h1' h2'
          have lring := congrArg List.length h1'
          rw [List.length_append, List.length_append] at lring
          have mo := ms_or s (by omega) g' hg x hx hbit
          refine b151_164 ?_
          rw [khas_bit, if_neg hbit]
          refine ⟨⟨by omega, by omega, by omega⟩, by decide, fun q => absurd rfl q, fun _ => ⟨⟨by omega, by omega⟩, by omega, by rw [Int.one_mul]; exact Int.natCast_nonneg _, fun z1 ez => ?_⟩⟩
          rw [tn, tn, Int.one_mul, tn] at ez
          subst ez
          refine sp_mgoes (d := d) (a := a) (b := b) (rs := rs) (l := l) hn (by rw [h6 308 0 (by omega)]; exact x2) (by omega) (fun c hc => ⟨by rw [h6 312 c (by omega), x3 312 c (by omega)]; exact (hA c hc).1, by rw [h6 308 (70 + c) (by omega), x3 308 (70 + c) (by omega)]; exact (hA c hc).2⟩) hb (fun c hc => by have := ha c hc; omega) (by omega) h3' (by omega) (fun Y y1 y2 => ?_) (fun c hc => by have := brX_lt hx c (fun c' hc' => ha c' (by omega)); omega)
          exact IH (g' ||| 2 ^ x) (brX a n x) (l ++ brL a b n x) Y (by omega) (or16 hg (by omega)) (brX_lt hx n ha) (by rw [h1', List.append_assoc]) h2' y1 (fun c j hc => by rw [y2 c j hc]; exact h6 c j hc)
    exact inner s g p [] X (ms_le s (by omega) g g16) g16 hp (by rw [List.nil_append]) rfl ⟨fun r hr => by rw [gd_app0]; exact x1.1 r hr, fun r j hr hj => by
      rw [gd_app0] at hj ⊢
      by_cases z : r < rs.length
      · exact x1.2 r j z hj
      · rw [gd_ge (by omega)] at hj; exact absurd hj (Nat.not_lt_zero _)⟩ (fun _ _ _ => rfl)
theorem sp_meansB {G : km_V → Prop} (hs : bgS (txK tp) (txW tp) T) (hx : mTx V tp) (v12 : V 299 12 = 0) (v14 : V 299 14 = 0) (z8 : ∀ j, j < 78 → V 308 j = 0) (hl : tp.length ≤ 2000) (ok : ∀ s : Nat, txW tp 1 = (s : Int) → 2 ≤ s → s ≤ 4 → (∀ j, j < (rdT (txK tp) T).length → 1 ≤ txW tp ((rdT (txK tp) T).getD j 0) ∧ txW tp ((rdT (txK tp) T).getD j 0) < txW tp 1) → rwOk (brRw (brA (txW tp) (rdT (txK tp) T)) (brB (txK tp) (rdT (txK tp) T)) (rdT (txK tp) T).length s)) (k : ∀ f p X, bMean (txK tp) (txW tp) (txP tp) (rdT (txK tp) T) f p → (∀ b j, ¬ (b = 299 ∧ (j = 14 ∨ j = 15) ∨ b = 308 ∨ b = 312) → X b j = V b j) → (f ≠ 0 → X 299 14 = f ∧ X 299 15 = (p : Int)) → (f = 0 → X 299 14 = 0 ∧ ∀ s : Nat, txW tp 1 = (s : Int) → kRf (X 308) (brRw (brA (txW tp) (rdT (txK tp) T)) (brB (txK tp) (rdT (txK tp) T)) (rdT (txK tp) T).length s)) → G X) : kCV xs Lx (d + 4) 147 1 [.ref 299] V G := by
  have k3 := hs.k3
  have la := hs.last
  have lL := hs.len
  have h400 := hs.2.1
  have nz : ∀ j, j < T → txK tp j ≠ 0 := fun j hj => (hs.1 j hj).1
  have M : ∀ t, t ≤ T → V 302 t = txM tp t ∧ V 303 t = (txP tp t : Int) ∧ (txM tp t = 2 → V 304 t = txW tp t) := fun t ht => hx t (by omega) (fun j hj => nz j (by omega))
  have Pr : ∀ t, (txP tp t : Int) ≤ 2000 := fun t => by have := txP_le (tp := tp) t; omega
  have rW : ∀ j, txK tp j = 6 → kR (txW tp j) := fun j hj => by have := txW_r hj; exact ⟨by omega, by omega⟩
  have h302 := (M 0 (by omega)).1
  have e23 : txM tp 0 = 23 := (txM_iff tp 0).2.2.2.2.2.2.2.2.mpr k3.1
  have w1 := txW_r k3.2.2
  have v304 := (M 1 (by omega)).2.2 ((txM_iff tp 1).2.1.mpr k3.2.2)
  refine b147_0 ?_
  rw [tn0, h302, e23]
  refine ⟨by decide, fun q => absurd rfl q, fun _ => ?_⟩
  refine b151_0 (fun z1 ez => ?_)
  rw [tnn1, v304] at ez
  subst ez
  have ekin : kin (txW tp 1) 2 4 = if 2 ≤ txW tp 1 ∧ txW tp 1 ≤ 4 then 1 else 0 := rfl
  rw [ekin]
  refine ⟨⟨by omega, by omega⟩, by split <;> decide, fun n0 => ?_, fun e0 => ?_⟩
  rotate_left
  · have ns : ¬ (2 ≤ txW tp 1 ∧ txW tp 1 ≤ 4) := by
      intro q
      rw [if_pos q] at e0
      exact absurd e0 (by decide)
    have h3 : V 303 1 = (txP tp 1 : Int) := (M 1 (by omega)).2.1
    refine sp_mwrong0 (d := d + 2) (k := 1) (by decide) v12 h3 v14 ⟨rfl, rfl, ?_⟩
    exact k 5 (txP tp 1) _ (Or.inl ⟨ns, rfl, rfl⟩) (fun b j hb => by rw [up_ne (by omega), up_ne (by omega)]) (fun _ => ⟨by rw [up_ne (by omega), up_at], up_at _ _ _ _⟩) (fun q => absurd q (by decide))
  have hsr : 2 ≤ txW tp 1 ∧ txW tp 1 ≤ 4 := by
    apply Decidable.byContradiction
    intro q
    rw [if_neg q] at n0
    exact n0 rfl
  obtain ⟨s, es⟩ : ∃ s : Nat, txW tp 1 = (s : Int) := ⟨(txW tp 1).toNat, by omega⟩
  -- the tokens of the braid, from 2 on
  have body : ∀ m t X, t + m = T - 1 → 2 ≤ t → (∀ b j, ¬ (b = 299 ∧ (j = 14 ∨ j = 15) ∨ b = 308 ∧ 70 ≤ j ∨ b = 312) → X b j = V b j) → (∀ i, i < (rdT (txK tp) t).length → X 312 i = txW tp ((rdT (txK tp) T).getD i 0) - 1 ∧ X 308 (70 + i) = if brB (txK tp) (rdT (txK tp) T) i = 1 then 1 else -1) → bst X (txW tp) (txP tp) (rdT (txK tp) T) (rdT (txK tp) t).length → kGo xs Lx (d + 3) 151 27 [some (.ref 299), some (kI (txW tp 1)), some (kI ((rdT (txK tp) t).length : Int)), some (kI (t : Int)), none, none] [] X (fun r V' => r = none ∧ (none : Option Value) = none ∧ G V') := by
    intro m
    induction m with
    | zero =>
      intro t X hm ht x1 x2 x3
      have et : t = T - 1 := by omega
      subst et
      have m4 : X 302 (T - 1) = 4 := by rw [x1 302 _ (by omega), (M (T - 1) (by omega)).1]; exact (txM_iff tp (T - 1)).2.2.1.mpr la.2.1
      rw [← la.2.2] at x2 x3 ⊢
      refine b151_27 ?_
      rw [tn, m4, tnn1, up_ne (show ¬ (299 = 308 ∧ 14 = 1) by omega)]
      refine ⟨⟨by omega, by omega⟩, by decide, fun _ => ?_, fun q => absurd rfl q⟩
      rcases x3 with ⟨q1, q2⟩ | ⟨i0, q1, q2, q3, q4, q5, q6⟩
      · rw [q1]
        refine ⟨by decide, fun _ => ?_, fun q => absurd q (by decide)⟩
        have okk := ok s es (by omega) (by omega) q2
        rw [es]
        refine sp_mwoven (d := d + 1) (a := brA (txW tp) (rdT (txK tp) T)) (b := brB (txK tp) (rdT (txK tp) T)) (by omega) lL ?_ (up_at _ _ _ _) (fun c hc => ⟨?_, ?_⟩) (fun c hc => ?_) (fun c hc => ?_) (fun r hr => ?_) okk (fun Y y1 y2 => ⟨rfl, rfl, ?_⟩)
        · rw [up_ne (by omega), x1 308 0 (by omega)]; exact z8 0 (by omega)
        · rw [up_ne (by omega), (x2 c hc).1]; have := q2 c hc; unfold brA; omega
        · rw [up_ne (by omega)]; exact (x2 c hc).2
        · unfold brB; rcases rdSg_r (txK tp) ((rdT (txK tp) T).getD c 0) with e | e <;> rw [e] <;> decide
        · have := q2 c hc; unfold brA; omega
        · rw [up_ne (by omega), x1 308 (2 + r) (by omega)]; exact z8 _ (by omega)
        · refine k 0 0 Y (Or.inr (Or.inr ⟨hsr, q2, rfl, rfl⟩)) (fun b j hb => ?_) (fun q => absurd rfl q) (fun _ => ⟨?_, fun s' es' => ?_⟩)
          · rw [y2 b j (by omega), up_ne (by omega)]; exact x1 b j (by omega)
          · rw [y2 299 14 (by omega), up_ne (by omega)]; exact q1
          · have : s' = s := by omega
            subst this; exact y1
      · rw [q5]
        refine ⟨by decide, fun q => absurd q (by decide), fun _ => ⟨rfl, rfl, ?_⟩⟩
        refine k 5 _ _ (Or.inr (Or.inl ⟨hsr, i0, q2, q3, q4, rfl, rfl⟩)) (fun b j hb => ?_) (fun _ => ⟨?_, ?_⟩) (fun q => absurd q (by decide))
        · rw [up_ne (by omega)]; exact x1 b j (by omega)
        · rw [up_ne (by omega)]; exact q5
        · rw [up_ne (by omega)]; exact q6
    | succ m IH =>
      intro t X hm ht x1 x2 x3
      have md := hs.mid ht (by omega)
      have ff := txM_iff tp t
      obtain ⟨m2, m3, m4⟩ := M t (by omega)
      have Mr := mtK_r tp (txP tp t)
      have zM : txM tp t = mtK tp (txP tp t) := rfl
      have eT : rdT (txK tp) (t + 1) = if txK tp t = 6 ∧ rdS (txK tp) t ≠ 5 then rdT (txK tp) t ++ [t] else rdT (txK tp) t := rfl
      have n4 : txM tp t ≠ 4 := fun q => md.1 (ff.2.2.1.mp q)
      refine b151_27 ?_
      rw [tn, x1 302 t (by omega), m2]
      refine ⟨⟨by omega, by omega⟩, ⟨by omega, by omega⟩, fun q => absurd q n4, fun _ => ⟨fun e2 => ?_, fun n2 => ?_⟩⟩
      rotate_left
      · have n6 : txK tp t ≠ 6 := fun q => n2 (ff.2.1.mpr q)
        have eT' : rdT (txK tp) (t + 1) = rdT (txK tp) t := by rw [eT, if_neg (by omega)]
        have := IH (t + 1) X (by omega) (by omega) x1 (by rw [eT']; exact x2) (by rw [eT']; exact x3)
        rw [eT'] at this
        exact this
      have e6 := ff.2.1.mp e2
      obtain ⟨hi, hk⟩ := rdT_here (K := txK tp) (show t < T by omega) e6 md.2
      have low : ∀ i0, i0 < (rdT (txK tp) t).length → txP tp ((rdT (txK tp) T).getD i0 0) < txP tp t := fun i0 h0 => txP_mono t (rdT_low (fun j hj => hs.1 j (by omega)) (by omega) h0) (fun j hj => nz j (by omega))
      have lT' : (rdT (txK tp) (t + 1)).length = (rdT (txK tp) t).length + 1 := by rw [eT, if_pos ⟨e6, md.2⟩, List.length_append, List.length_singleton]
      have wt := txW_r e6
      have h12 : X 299 12 = 0 := by rw [x1 299 12 (by omega)]; exact v12
      have h3 : X 303 t = (txP tp t : Int) := by rw [x1 303 t (by omega)]; exact m3
      have rp : kR (txP tp t : Int) := ⟨by omega, by have := Pr t; omega⟩
      have v4 : X 304 t = txW tp t := by rw [x1 304 t (by omega)]; exact m4 e2
      have p2 := (M (t - 1) (by omega)).1
      have Mp := mtK_r tp (txP tp (t - 1))
      have zp : txM tp (t - 1) = mtK tp (txP tp (t - 1)) := rfl
      have fp := (txM_iff tp (t - 1)).2.2.2.2.1
      have tm : Int.toNat ((t : Int) - 1) = t - 1 := by omega
      have sg : brB (txK tp) (rdT (txK tp) T) (rdT (txK tp) t).length = if txK tp (t - 1) = 9 then 0 else 1 := by
        unfold brB
        rw [hk]
        unfold rdSg
        rw [if_pos k3.1]
        split <;> rfl
      have tail : ∀ Y : km_V, (∀ b j, ¬ (b = 299 ∧ (j = 14 ∨ j = 15) ∨ b = 308 ∧ 70 ≤ j ∨ b = 312) → Y b j = V b j) → (∀ i, i < (rdT (txK tp) t).length → Y 312 i = txW tp ((rdT (txK tp) T).getD i 0) - 1 ∧ Y 308 (70 + i) = if brB (txK tp) (rdT (txK tp) T) i = 1 then 1 else -1) → bst Y (txW tp) (txP tp) (rdT (txK tp) T) ((rdT (txK tp) t).length + 1) → (0 ≤ ((rdT (txK tp) t).length : Int) ∧ ((rdT (txK tp) t).length : Int) < (8 : Nat)) ∧ (0 ≤ ((t : Int) - 1) ∧ ((t : Int) - 1) < (403 : Nat)) ∧ (kR ((up Y 312 (Int.toNat ((rdT (txK tp) t).length : Int)) ((Y 304 t) - 1)) 302 (Int.toNat ((t : Int) - 1)))) ∧ ((((up Y 312 (Int.toNat ((rdT (txK tp) t).length : Int)) ((Y 304 t) - 1)) 302 (Int.toNat ((t : Int) - 1))) ≠ 6 → (0 ≤ (70 + ((rdT (txK tp) t).length : Int)) ∧ (70 + ((rdT (txK tp) t).length : Int)) < (78 : Nat)) ∧ kGo xs Lx (d + 3) 151 27 [some (.ref 299), some (kI (txW tp 1)), some (kI (((rdT (txK tp) t).length : Int) + 1)), some (kI ((t : Int) + 1)), none, none] [] (up (up Y 312 (Int.toNat ((rdT (txK tp) t).length : Int)) ((Y 304 t) - 1)) 308 (Int.toNat (70 + ((rdT (txK tp) t).length : Int))) 1) (fun r V' => r = none ∧ (none : Option Value) = none ∧ G V')) ∧ (((up Y 312 (Int.toNat ((rdT (txK tp) t).length : Int)) ((Y 304 t) - 1)) 302 (Int.toNat ((t : Int) - 1))) = 6 → (0 ≤ (70 + ((rdT (txK tp) t).length : Int)) ∧ (70 + ((rdT (txK tp) t).length : Int)) < (78 : Nat)) ∧ kGo xs Lx (d + 3) 151 27 [some (.ref 299), some (kI (txW tp 1)), some (kI (((rdT (txK tp) t).length : Int) + 1)), some (kI ((t : Int) + 1)), none, none] [] (up (up Y 312 (Int.toNat ((rdT (txK tp) t).length : Int)) ((Y 304 t) - 1)) 308 (Int.toNat (70 + ((rdT (txK tp) t).length : Int))) (-1)) (fun r V' => r = none ∧ (none : Option Value) = none ∧ G V'))) := by
        intro Y y1 y2 y3
        have z4 : Y 304 t = txW tp t := by rw [y1 304 t (by omega)]; exact m4 e2
        rw [tm, tn, tn_70, up_ne (show ¬ (302 = 312 ∧ t - 1 = (rdT (txK tp) t).length) by omega), y1 302 (t - 1) (by omega), p2, z4]
        have next : ∀ v : Int, v = (if brB (txK tp) (rdT (txK tp) T) (rdT (txK tp) t).length = 1 then 1 else -1) → kGo xs Lx (d + 3) 151 27 [some (.ref 299), some (kI (txW tp 1)), some (kI (((rdT (txK tp) t).length : Int) + 1)), some (kI ((t : Int) + 1)), none, none] [] (up (up Y 312 (rdT (txK tp) t).length (txW tp t - 1)) 308 (70 + (rdT (txK tp) t).length) v) (fun r V' => r = none ∧ (none : Option Value) = none ∧ G V') := by
          intro v hv
          have := IH (t + 1) (up (up Y 312 (rdT (txK tp) t).length (txW tp t - 1)) 308 (70 + (rdT (txK tp) t).length) v) (by omega) (by omega) (fun b j hb => by rw [up_ne (by omega), up_ne (by omega)]; exact y1 b j hb) (fun i hi' => ?_) ?_
          · rw [lT'] at this
            exact this
          · rw [lT'] at hi'
            by_cases e : i = (rdT (txK tp) t).length
            · subst e
              rw [up_ne (by omega), up_at, up_at, hk]
              exact ⟨rfl, hv⟩
            · rw [up_ne (by omega), up_ne (by omega), up_ne (by omega), up_ne (by omega)]; exact y2 i (by omega)
          · rw [lT']
            unfold bst
            rw [up_ne (by omega), up_ne (by omega), up_ne (by omega), up_ne (by omega)]; exact y3
        refine ⟨⟨by omega, by omega⟩, ⟨by omega, by omega⟩, ⟨by omega, by omega⟩, fun n6 => ⟨⟨by omega, by omega⟩, next _ ?_⟩, fun e6' => ⟨⟨by omega, by omega⟩, next _ ?_⟩⟩
        · rw [sg, if_neg (fun q => n6 (fp.mpr q)), if_pos rfl]
        · rw [sg, if_pos (fp.mp e6'), if_neg (by decide)]
      have ek : kin (txW tp t) 1 (txW tp 1 - 1) = if 1 ≤ txW tp t ∧ txW tp t ≤ txW tp 1 - 1 then 1 else 0 := rfl
      rw [v4, ek]
      refine ⟨⟨by omega, by omega⟩, ⟨by omega, by omega⟩, by split <;> decide, fun n0' => ?_, fun e0' => ?_⟩
      · have good : 1 ≤ txW tp t ∧ txW tp t ≤ txW tp 1 - 1 := by
          apply Decidable.byContradiction
          intro q
          rw [if_neg q] at n0'
          exact n0' rfl
        have := tail X x1 x2 (by
          rcases x3 with ⟨q1, q2⟩ | ⟨i0, q1, q2, q3, q4, q5, q6⟩
          · refine Or.inl ⟨q1, fun j hj => ?_⟩
            by_cases e : j = (rdT (txK tp) t).length
            · rw [e, hk]; omega
            · exact q2 j (by omega)
          · exact Or.inr ⟨i0, by omega, q2, q3, q4, q5, q6⟩)
        rw [v4] at this
        exact this
      · have badd : ¬ (1 ≤ txW tp t ∧ txW tp t ≤ txW tp 1 - 1) := by
          intro q
          rw [if_pos q] at e0'
          exact absurd e0' (by decide)
        rcases x3 with ⟨q1, q2⟩ | ⟨i0, q1, q2, q3, q4, q5, q6⟩
        · refine sp_mwrong0 (d := d + 2) (by omega) h12 h3 q1 (tail _ (fun b j hb => ?_) (fun i hi' => ?_) (Or.inr ⟨_, by omega, hi, q2, ?_, ?_, ?_⟩))
          · rw [up_ne (by omega), up_ne (by omega)]; exact x1 b j hb
          · rw [up_ne (by omega), up_ne (by omega), up_ne (by omega), up_ne (by omega)]; exact x2 i hi'
          · rw [hk]; omega
          · rw [up_ne (by omega), up_at]
          · rw [up_at, hk]
        · exact sp_mwrong1 (d := d + 2) (q := (txP tp ((rdT (txK tp) T).getD i0 0) : Int)) (by omega) h12 h3 (by rw [q5]; decide) (by rw [q5]; decide) q6 (by have := low i0 q1; omega) ⟨by omega, by have := Pr ((rdT (txK tp) T).getD i0 0); omega⟩ rp (tail X x1 x2 (Or.inr ⟨i0, by omega, q2, q3, q4, q5, q6⟩))
  have eT2 : rdT (txK tp) 2 = [] := by
    have eT1 : rdT (txK tp) 1 = [] := by
      show (if txK tp 0 = 6 ∧ rdS (txK tp) 0 ≠ 5 then rdT (txK tp) 0 ++ [0] else rdT (txK tp) 0) = []
      rw [if_neg (by omega)]; rfl
    have s1 : rdS (txK tp) 1 = 5 := by
      show stB 0 (txK tp 0) = 5
      rw [k3.1]; decide
    show (if txK tp 1 = 6 ∧ rdS (txK tp) 1 ≠ 5 then rdT (txK tp) 1 ++ [1] else rdT (txK tp) 1) = []
    rw [if_neg (fun q => q.2 s1), eT1]
  have := body (T - 1 - 2) 2 V (by omega) (Nat.le_refl _) (fun _ _ _ => rfl) (fun i hi => by rw [eT2] at hi; exact absurd hi (Nat.not_lt_zero _)) (Or.inl ⟨v14, fun j hj => by rw [eT2] at hj; exact absurd hj (Nat.not_lt_zero _)⟩)
  rw [eT2] at this
  exact this
end MBM

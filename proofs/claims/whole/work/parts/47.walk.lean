/-! the class walks the faces -/
theorem kcmp0 (x y : Int) : kcmp x y = 0 ↔ x = y := by
  unfold kcmp
  split
  · omega
  · split <;> omega
theorem kcmp_r (x y : Int) : kR (kcmp x y) := by
  unfold kcmp
  split
  · omega
  · split <;> omega
theorem bor_bit (m w i : Nat) : (m ||| 2 ^ w) / 2 ^ i % 2 = 1 ↔ (m / 2 ^ i % 2 = 1 ∨ i = w) := by
  have h := Nat.testBit_or m (2 ^ w) i
  rw [Nat.testBit_eq_decide_div_mod_eq, Nat.testBit_eq_decide_div_mod_eq, Nat.testBit_two_pow] at h
  constructor
  · intro z
    rw [decide_eq_true z] at h
    have := h.symm
    rw [Bool.or_eq_true, decide_eq_true_iff, decide_eq_true_iff] at this
    omega
  · intro z
    have h2 : (decide (m / 2 ^ i % 2 = 1) || decide (w = i)) = true := by
      rw [Bool.or_eq_true, decide_eq_true_iff, decide_eq_true_iff]; omega
    rw [h2] at h
    exact of_decide_eq_true h
theorem bor_lt {m w n : Nat} (h : m < 2 ^ n) (hw : w < n) : m ||| 2 ^ w < 2 ^ n := Nat.or_lt_two_pow h (Nat.pow_lt_pow_right (by omega) hw)
theorem endnx : ∀ e, e < 32 → 4 * (e / 4) ||| (e + 1) % 4 = 4 * (e / 4) + (e + 1) % 4 := by decide
theorem gd_app1 {α : Type} {l : List α} {a z : α} : (l ++ [a]).getD l.length z = a := by
  rw [gd_appr (Nat.le_refl _), Nat.sub_self]; rfl
/-- the class's faces: walks and where they begin -/
def kDF (V : km_V) (t : Nat) (R : Rw) : Prop := V t 7 = ((rwFc R).length : Int) ∧ (∀ f, f ≤ (rwFc R).length → V (t + 9) f = (rwF (rwV R) f : Int)) ∧ (∀ i, i < (rwP (rwV R)).length → V (t + 8) i = ((rwP (rwV R)).getD i 0 : Int))
section WFA
variable {xs : Nat → Int32} {Lx d : Nat} {V : km_V} {t : Nat} {R : Rw}
theorem sp_walkFaces {K : km_V → Prop} (ht : km_sh[t]? = some (2, 11)) (ok : rwOk R) (hE : kDE V t R) (k : ∀ W, kDF W t R → (∀ a j, ¬ (a = t ∧ j = 7 ∨ a = t + 8 ∨ a = t + 9) → W a j = V a j) → K W) : kCV xs Lx (d + 0) 25 9 [.ref t, kI ((2 * (rwP R).length : Nat) : Int)] V K := by
  have hL := hE.2.2.1
  have hRe := hE.2.2.2
  have o2 := ok.2.1
  have o3 := ok.len
  have hT : ∀ w, w < 2 * (rwP R).length → rwT R w < 2 * (rwP R).length := fun w hw => rwT_lt ok hw
  refine b25_0 ht ?_
  -- the loop over starts
  suffices H : ∀ c, c ≤ 2 * (rwP R).length → ∀ (W : km_V) (m : Nat), W t 7 = ((rwFs (rwT R) (2 * (rwP R).length) c).length : Int) → m < 2 ^ 32 → (∀ i, i < 32 → (m / 2 ^ i % 2 = 1 ↔ i ∈ (rwFs (rwT R) (2 * (rwP R).length) c).flatten)) → (∀ f, f < (rwFs (rwT R) (2 * (rwP R).length) c).length → W (t + 9) f = (rwF (rwFs (rwT R) (2 * (rwP R).length) c, []) f : Int)) → (∀ i, i < (rwFs (rwT R) (2 * (rwP R).length) c).flatten.length → W (t + 8) i = ((rwFs (rwT R) (2 * (rwP R).length) c).flatten.getD i 0 : Int)) → (∀ a j, ¬ (a = t ∧ j = 7 ∨ a = t + 8 ∨ a = t + 9) → W a j = V a j) →
      kGo xs Lx (d + 0) 25 13 [some (.ref t), some (kI ((2 * (rwP R).length : Nat) : Int)), some (kJ (m : Int)), none, some (kI ((rwFs (rwT R) (2 * (rwP R).length) c).flatten.length : Int)), some (kI (c : Int)), none, none, none] [] W (fun r V' => r = none ∧ K V') from
    H 0 (Nat.zero_le _) _ 0 (by rw [up_at]; rfl) (by decide) (fun i _ => by simp [rwFs]) (fun f hf => by simp [rwFs] at hf) (fun i hi => by simp [rwFs] at hi) (fun a j ha => up_ne (by omega))
  refine kloop0 (2 * (rwP R).length) _ ?_ (fun c hc ih => ?_)
  · intro W m e7 hm hb hF hP hfr
    have l1 := rwFc_len R
    refine b25_13 ht ⟨by omega, by omega, fun _ => ⟨by rw [e7]; show (0 : Int) ≤ _ ∧ _; unfold rwFc at l1; omega, ?_⟩, fun h => by omega⟩
    rw [e7]
    simp only [tn]
    refine ⟨True.intro, k _ ⟨by rw [up_ne (by omega)]; exact e7, fun f hf => ?_, fun i hi => by rw [up_ne (by omega)]; exact hP i hi⟩ (fun a j ha => by rw [up_ne (by omega)]; exact hfr a j ha)⟩
    by_cases e : f = (rwFc R).length
    · subst e
      show up W (t + 9) (rwFc R).length _ (t + 9) (rwFc R).length = _
      rw [up_at]
      have := rwF_all (rwV R)
      exact congrArg Nat.cast this.symm
    · rw [up_ne (by unfold rwFc at e; omega)]
      exact hF f (by unfold rwFc at e hf; omega)
  · intro W m e7 hm hb hF hP hfr
    have nd := rwFs_nd hT c (by omega)
    have l1 := rwFs_len (rwT R) (2 * (rwP R).length) c
    have k1 := kc_div m c
    have hbc := hb c (by omega)
    have m64 : kR64 (m : Int) := by omega
    generalize hfs : rwFs (rwT R) (2 * (rwP R).length) c = fs at *
    refine b25_13 ht ⟨by omega, by omega, fun h => by omega, fun h => ⟨m64, by omega, by rw [tn, k1]; omega, kcmp_r _ _, fun h => ?_, fun h => ?_⟩⟩
    · -- a new face
      have hnm : c ∉ fs.flatten := fun z => h ((kcmp0 _ _).mpr (by rw [tn, k1, hbc.mpr z]; rfl))
      have hnx : rwFs (rwT R) (2 * (rwP R).length) (c + 1) = fs ++ [rwWalk (rwT R) fs.flatten (2 * (rwP R).length - fs.flatten.length) c] := by
        show (if c ∈ (rwFs (rwT R) (2 * (rwP R).length) c).flatten then _ else _) = _
        rw [hfs, if_neg hnm]
      rw [hnx] at ih
      refine ⟨by rw [e7]; omega, ?_⟩
      rw [e7]
      simp only [tn]
      -- the walk
      suffices H : ∀ (n : Nat) (u : List Nat) (w m : Nat) (W : km_V), n + u.length = 2 * (rwP R).length → w < 2 * (rwP R).length → u ++ rwWalk (rwT R) (fs.flatten ++ u) (2 * (rwP R).length - (fs.flatten ++ u).length) w = rwWalk (rwT R) fs.flatten (2 * (rwP R).length - fs.flatten.length) c → (fs.flatten ++ u).Nodup → (∀ x, x ∈ fs.flatten ++ u → x < 2 * (rwP R).length) → W t 7 = (fs.length : Int) → m < 2 ^ 32 → (∀ i, i < 32 → (m / 2 ^ i % 2 = 1 ↔ i ∈ fs.flatten ++ u)) → (∀ f, f ≤ fs.length → W (t + 9) f = (rwF (fs, []) f : Int)) → (∀ i, i < (fs.flatten ++ u).length → W (t + 8) i = ((fs.flatten ++ u).getD i 0 : Int)) → (∀ a j, ¬ (a = t ∧ j = 7 ∨ a = t + 8 ∨ a = t + 9) → W a j = V a j) →
          kGo xs Lx (d + 0) 25 51 [some (.ref t), some (kI ((2 * (rwP R).length : Nat) : Int)), some (kJ (m : Int)), none, some (kI ((fs.flatten ++ u).length : Int)), some (kI (c : Int)), some (kI (w : Int)), some (kI (u.length : Int)), none] [] W (fun r V' => r = none ∧ K V') from by
        have := H (2 * (rwP R).length) [] c m (up W (t + 9) fs.length (fs.flatten.length : Int)) rfl hc (by rw [List.append_nil]; rfl) (by rw [List.append_nil]; exact nd.1) (by rw [List.append_nil]; exact nd.2) (by rw [up_ne (by omega)]; exact e7) hm (by rw [List.append_nil]; exact hb) (fun f hf => by
          by_cases e : f = fs.length
          · subst e; rw [up_at]; exact congrArg Nat.cast (rwF_all (fs, [])).symm
          · rw [up_ne (by omega)]; exact hF f (by omega)) (fun i hi => by rw [List.append_nil] at hi ⊢; rw [up_ne (by omega)]; exact hP i hi) (fun a j ha => by rw [up_ne (by omega)]; exact hfr a j ha)
        rw [List.append_nil] at this
        exact this
      clear h hm hb hF hP hfr e7 k1 hbc m64
      have fin : ∀ (u : List Nat) (w m : Nat) (W : km_V), u ++ rwWalk (rwT R) (fs.flatten ++ u) (2 * (rwP R).length - (fs.flatten ++ u).length) w = rwWalk (rwT R) fs.flatten (2 * (rwP R).length - fs.flatten.length) c → rwWalk (rwT R) (fs.flatten ++ u) (2 * (rwP R).length - (fs.flatten ++ u).length) w = [] → W t 7 = (fs.length : Int) → m < 2 ^ 32 → (∀ i, i < 32 → (m / 2 ^ i % 2 = 1 ↔ i ∈ fs.flatten ++ u)) → (∀ f, f ≤ fs.length → W (t + 9) f = (rwF (fs, []) f : Int)) → (∀ i, i < (fs.flatten ++ u).length → W (t + 8) i = ((fs.flatten ++ u).getD i 0 : Int)) → (∀ a j, ¬ (a = t ∧ j = 7 ∨ a = t + 8 ∨ a = t + 9) → W a j = V a j) →
          kGo xs Lx (d + 0) 25 13 [some (.ref t), some (kI ((2 * (rwP R).length : Nat) : Int)), some (kJ (m : Int)), none, some (kI ((fs.flatten ++ u).length : Int)), some (kI ((c : Int) + 1)), none, none, none] [] (up W t 7 (W t 7 + 1)) (fun r V' => r = none ∧ K V') := by
        intro u w m W hu hnil e7 hm hb hF hP hfr
        rw [hnil, List.append_nil] at hu
        rw [← hu] at ih
        have e1 : (fs ++ [u]).flatten = fs.flatten ++ u := by rw [List.flatten_append, List.flatten_singleton]
        rw [e1] at ih
        refine ih _ m ?_ hm hb (fun f hf => ?_) (fun i hi => by rw [up_ne (by omega)]; exact hP i hi) (fun a j ha => by rw [up_ne (by omega)]; exact hfr a j ha)
        · rw [up_at, e7, List.length_append, List.length_singleton]; omega
        · rw [List.length_append, List.length_singleton] at hf
          rw [up_ne (by omega), hF f (by omega)]
          unfold rwF
          dsimp only
          rw [List.take_append_of_le_length (by omega)]
      intro n
      induction n with
      | zero =>
        intro u w m W hn hw hu hnd hlt e7 hm hb hF hP hfr
        refine b25_51 ht ⟨by omega, by omega, fun _ => fin u w m W hu ?_ e7 hm hb hF hP hfr, fun h => by omega⟩
        have hz : 2 * (rwP R).length - (fs.flatten ++ u).length = 0 := by rw [List.length_append]; omega
        rw [hz]
        rfl
      | succ n ihn =>
        intro u w m W hn hw hu hnd hlt e7 hm hb hF hP hfr
        have k1 := kc_div m w
        have hbw := hb w (by omega)
        have m64 : kR64 (m : Int) := by omega
        have e8 : Int.toNat (1 * ((2 ^ w : Nat) : Int)) = 2 ^ w := by rw [Int.one_mul]; rfl
        refine b25_51 ht ⟨by omega, by omega, fun h => by omega, fun h => ⟨m64, by omega, by rw [tn, k1]; omega, kcmp_r _ _, fun h => ?_, fun h => ?_⟩⟩
        · have hm2 : w ∈ fs.flatten ++ u := by
            refine hbw.mp ?_
            apply Classical.byContradiction
            intro z
            refine h ((kcmp0 _ _).mpr ?_)
            rw [tn, k1]; omega
          refine fin u w m W hu ?_ e7 hm hb hF hP hfr
          cases 2 * (rwP R).length - (fs.flatten ++ u).length with
          | zero => rfl
          | succ f => unfold rwWalk; rw [if_pos hm2]
        · have hm2 : w ∉ fs.flatten ++ u := by
            intro z
            have := (kcmp0 _ _).mp h
            rw [tn, k1, hbw.mpr z] at this
            exact absurd this (by decide)
          have hnd2 : ((fs.flatten ++ u) ++ [w]).Nodup := by
            rw [List.nodup_append]
            refine ⟨hnd, (List.nodup_cons.mpr ⟨List.not_mem_nil, List.nodup_nil⟩), fun a ha b hb => ?_⟩
            rw [List.mem_singleton.mp hb]
            intro e
            subst e
            exact hm2 ha
          have hlt2 : ∀ x, x ∈ (fs.flatten ++ u) ++ [w] → x < 2 * (rwP R).length := fun x hx => by
            rcases List.mem_append.mp hx with e | e
            · exact hlt x e
            · rw [List.mem_singleton.mp e]; exact hw
          have hll := nodup_le _ _ hnd2 hlt2
          rw [List.length_append (bs := [w]), List.length_singleton] at hll
          obtain ⟨f, hf⟩ : ∃ f, 2 * (rwP R).length - (fs.flatten ++ u).length = f + 1 := ⟨2 * (rwP R).length - (fs.flatten ++ u).length - 1, by omega⟩
          have hf2 : 2 * (rwP R).length - ((fs.flatten ++ u) ++ [w]).length = f := by rw [List.length_append (bs := [w]), List.length_singleton]; omega
          have hw1 : rwWalk (rwT R) (fs.flatten ++ u) (f + 1) w = w :: rwWalk (rwT R) (fs.flatten ++ u ++ [w]) f (rwT R w) := by
            show (if w ∈ fs.flatten ++ u then _ else _) = _
            rw [if_neg hm2]
          rw [hf, hw1] at hu
          have r1 : W (t + 7) w = _ := (hfr _ _ (by omega)).trans (hRe w hw)
          have r2 := rwRe_lt ok hw
          have e9 : Int.toNat ((rwRe R w : Int) - (rwRe R w : Int) % 4) = 4 * (rwRe R w / 4) := by omega
          have e10 : Int.toNat (((rwRe R w : Int) + 1) % 4) = (rwRe R w + 1) % 4 := rfl
          have r3 : W (t + 6) (4 * (rwRe R w / 4) + (rwRe R w + 1) % 4) = (rwT R w : Int) := by
            rw [hfr _ _ (by omega)]
            exact hL _ (by omega)
          simp only [tn, e8]
          refine ⟨by omega, by rw [Int.one_mul]; omega, fun z1 hz1 => ⟨by omega, by omega, fun z2 hz2 => ?_⟩⟩
          rw [up_ne (by omega), r1] at hz2
          subst hz1 hz2
          simp only [e9, e10, endnx _ (by omega : rwRe R w < 32), tn]
          refine ⟨by omega, by omega, by omega, by omega, fun z3 hz3 => ?_⟩
          rw [up_ne (by omega), r3] at hz3
          subst hz3
          have := ihn (u ++ [w]) (rwT R w) (m ||| 2 ^ w) (up W (t + 8) (fs.flatten ++ u).length (w : Int)) (by rw [List.length_append, List.length_singleton]; omega) (hT w hw) (by rw [← List.append_assoc, hf2, ← hu, List.append_assoc]; rfl) (by rw [← List.append_assoc]; exact hnd2) (by rw [← List.append_assoc]; exact hlt2) (by rw [up_ne (by omega)]; exact e7) (bor_lt hm (by omega)) (fun i hi => by
            rw [bor_bit, hb i hi, ← List.append_assoc, List.mem_append (s := fs.flatten ++ u) (t := [w]), List.mem_singleton]) (fun f hf => by rw [up_ne (by omega)]; exact hF f hf) (fun i hi => by
            rw [← List.append_assoc] at hi ⊢
            rw [List.length_append (bs := [w]), List.length_singleton] at hi
            by_cases e : i = (fs.flatten ++ u).length
            · subst e; rw [up_at, gd_app1]
            · rw [up_ne (by omega), gd_appl (by omega)]; exact hP i (by omega)) (fun a j ha => by rw [up_ne (by omega)]; exact hfr a j ha)
          rw [← List.append_assoc, List.length_append (bs := [w]), List.length_singleton, List.length_append (as := u), List.length_singleton] at this
          exact this
    · have hmm : c ∈ fs.flatten := by
        refine hbc.mp ?_
        have := (kcmp0 _ _).mp h
        rw [tn, k1] at this
        omega
      have hnx : rwFs (rwT R) (2 * (rwP R).length) (c + 1) = fs := by
        show (if c ∈ (rwFs (rwT R) (2 * (rwP R).length) c).flatten then _ else _) = _
        rw [hfs, if_pos hmm]
      rw [hnx] at ih
      exact ih W m e7 hm hb hF hP hfr
end WFA

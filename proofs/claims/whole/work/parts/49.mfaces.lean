/-! the model's faces -/
theorem ktA_eq {V : km_V} {a w : Nat} {R : Rw} (hR : kRf (V a) R) (ok : rwOk R) (hE : kME V R) (hw : w < 2 * (rwP R).length) : kturnA V a w = ((4 * (rwRe R w / 4) + (rwRe R w + 1) % 4 : Nat) : Int) := by
  obtain ⟨h1, h2, h3⟩ := hE
  have b3 : w / 2 < (rwP R).length := by omega
  have e1 : Int.toNat ((w : Int) / 2) = w / 2 := rfl
  unfold kturnA rwRe
  rw [e1]
  by_cases h : w % 2 = 0
  · rw [if_pos h, if_pos (by omega), (h2 _ b3).2.2.1, tn]
    have b4 := rwNx_lt b3
    have q1 := (h2 _ b4).1
    rw [(kein_eq hR ok b4 q1).1, q1]
    have cE := rwE_c R (rwNx R (w / 2))
    unfold rwI
    omega
  · rw [if_neg h, if_neg (by omega)]
    have q1 := (h2 _ b3).1
    have := (kein_eq hR ok b3 q1).1
    rw [show ((w : Int) / 2) = ((w / 2 : Nat) : Int) from rfl, this, q1]
    have cE := rwE_c R (w / 2)
    unfold rwO
    omega
theorem kturn_eq {V : km_V} {a w : Nat} {R : Rw} (hR : kRf (V a) R) (ok : rwOk R) (hE : kME V R) (hw : w < 2 * (rwP R).length) : kturn V a w = (rwT R w : Int) ∧ kturnC V a w := by
  have o2 := ok.2.1
  have o3 := ok.len
  have eA := ktA_eq hR ok hE hw
  have r1 := rwRe_lt ok hw
  obtain ⟨h1, h2, h3⟩ := hE
  have q := h3 (4 * (rwRe R w / 4) + (rwRe R w + 1) % 4) (by omega)
  have b3 : w / 2 < (rwP R).length := by omega
  constructor
  · unfold kturn rwT
    rw [eA, tn, q.1, q.2]
    split <;> omega
  · unfold kturnC
    rw [eA, tn, q.2]
    refine ⟨by omega, ?_, by omega⟩
    have e1 : Int.toNat ((w : Int) / 2) = w / 2 := rfl
    rw [e1]
    by_cases h : w % 2 = 0
    · rw [if_pos (by omega), (h2 _ b3).2.2.1]
      have b4 := rwNx_lt b3
      exact (kein_eq hR ok b4 (h2 _ b4).1).2
    · rw [if_neg (by omega)]
      exact (kein_eq hR ok b3 (h2 _ b3).1).2
theorem kcb_eq {V : km_V} {w : Nat} {R : Rw} (ok : rwOk R) (hE : kME V R) (hw : w < 2 * (rwP R).length) : kcb V w = (rwCb R w : Int) ∧ kcbC V w := by
  have o2 := ok.2.1
  have o3 := ok.len
  obtain ⟨h1, h2, h3⟩ := hE
  have b3 : w / 2 < (rwP R).length := by omega
  have b4 := rwNx_lt b3
  have e1 : Int.toNat ((w : Int) / 2) = w / 2 := rfl
  unfold kcb kcbC rwCb rwRe
  rw [e1, (h2 _ b3).2.2.1]
  by_cases h : w % 2 = 0
  · have cE := rwE_c R (rwNx R (w / 2))
    have l1 := ok.lt (rwNx R (w / 2)) (by omega)
    rw [if_pos h, if_pos (by omega), tn, (h2 _ b4).1]
    unfold rwI
    refine ⟨by omega, by omega, fun _ => by omega, by omega⟩
  · have cE := rwE_c R (w / 2)
    have l1 := ok.lt (w / 2) (by omega)
    rw [if_neg h, if_neg (by omega), e1, (h2 _ b3).1]
    unfold rwO
    refine ⟨by omega, by omega, fun _ => by omega, by omega⟩
theorem kov_eq {V : km_V} {e : Nat} {R : Rw} (ok : rwOk R) (hE : kME V R) (he : e < (rwP R).length) : kov V e = (rwOv R e : Int) ∧ kovC V e := by
  have o2 := ok.2.1
  have o3 := ok.len
  obtain ⟨h1, h2, h3⟩ := hE
  have b4 := rwNx_lt he
  have l1 := ok.lt e (by omega)
  have l2 := ok.lt (rwNx R e) (by omega)
  unfold kov kovC rwOv
  rw [tn, (h2 _ he).2.2.1, tn, (h2 _ he).1, (h2 _ b4).1]
  exact ⟨by omega, by omega, by omega, by omega, by omega⟩
def kMF (V : km_V) (R : Rw) : Prop := kME V R ∧ V 299 32 = ((rwFc R).length : Int) ∧ (∀ f, f < (rwFc R).length → V 319 f = ((rwR (rwV R) f).getD 0 0 : Int) ∧ V 320 f = (rwL (rwV R) f : Int))
theorem kMF.fr {V W : km_V} {R : Rw} (h : kMF V R) (h0 : W 299 25 = V 299 25) (h1 : W 299 32 = V 299 32) (hf : ∀ a j, 313 ≤ a ∧ a ≤ 320 → W a j = V a j) : kMF W R := by
  refine ⟨h.1.fr h0 (fun a j ha => hf a j (by omega)), by rw [h1]; exact h.2.1, fun f hf' => ?_⟩
  rw [hf _ _ (by omega), hf _ _ (by omega)]
  exact h.2.2 f hf'
theorem rwWalk_mem {T : Nat → Nat} {seen : List Nat} {w : Nat} (h : w ∈ seen) (f : Nat) : rwWalk T seen f w = [] := by
  cases f with
  | zero => rfl
  | succ f => unfold rwWalk; rw [if_pos h]
section MFA
variable {xs : Nat → Int32} {Lx d : Nat} {V : km_V} {a : Nat} {R : Rw}
theorem sp_laysFaces {K : Int → km_V → Prop} (ha : km_sh[a]? = some (11, 78)) (ha2 : ¬ (313 ≤ a ∧ a ≤ 321)) (hR : kRf (V a) R) (ok : rwOk R) (k : ∀ W, kMF W R → (∀ b j, ¬ (b = 299 ∧ (j = 25 ∨ j = 32) ∨ 313 ≤ b ∧ b ≤ 321) → W b j = V b j) → K ((rwFc R).length : Int) W) : kCI xs Lx (d + 2) 161 4 [.ref 299, .ref a] V K := by
  have o2 := ok.2.1
  have o3 := ok.len
  have a9 : a ≠ 299 := fun z => by subst z; exact absurd ha (by decide)
  have hT : ∀ w, w < 2 * (rwP R).length → rwT R w < 2 * (rwP R).length := fun w hw => rwT_lt ok hw
  refine b161_0 ha (sp_laysEdges ha (by omega) hR ok (fun W1 j1 f1 => ?_))
  have hR1 : kRf (W1 a) R := hR.fr ok (fun j _ => f1 a j (by omega))
  refine kloop (2 * (rwP R).length) (fun c W => kME W R ∧ (∀ i, i < c → W 321 i = 0) ∧ (∀ b j, ¬ (b = 299 ∧ (j = 25 ∨ j = 32) ∨ 313 ≤ b ∧ b ≤ 321) → W b j = V b j))
    (fun c W => kGo xs Lx (d + 2) 161 7 [some (.ref 299), some (.ref a), some (kI (c : Int)), none] [] W _) (fun W ⟨f2, f3, f4⟩ => ?_) (fun c W hc ⟨f2, f3, f4⟩ ih => ?_) 0 W1 (Nat.zero_le _) ⟨j1, fun i hi => by omega, fun b j hb => f1 b j (by omega)⟩
  · have e5 := f2.1
    refine b161_7 ha ⟨by omega, by omega, fun _ => ?_, fun h => by omega⟩
    suffices H : ∀ c, c ≤ 2 * (rwP R).length → ∀ (W : km_V), W 299 32 = ((rwFs (rwT R) (2 * (rwP R).length) c).length : Int) → kME W R → (∀ i, i < 2 * (rwP R).length → W 321 i = if i ∈ (rwFs (rwT R) (2 * (rwP R).length) c).flatten then 1 else 0) → (∀ f, f < (rwFs (rwT R) (2 * (rwP R).length) c).length → W 319 f = ((rwR (rwFs (rwT R) (2 * (rwP R).length) c, []) f).getD 0 0 : Int) ∧ W 320 f = (rwL (rwFs (rwT R) (2 * (rwP R).length) c, []) f : Int)) → (∀ b j, ¬ (b = 299 ∧ (j = 25 ∨ j = 32) ∨ 313 ≤ b ∧ b ≤ 321) → W b j = V b j) →
        kGo xs Lx (d + 2) 161 37 [some (.ref 299), some (.ref a), some (kI (c : Int)), none] [] W (fun r V' => ∃ x, r = some (kI x) ∧ K x V') from
      H 0 (Nat.zero_le _) _ (by rw [up_at]; rfl) (f2.fr (up_ne (by omega)) (fun b j hb => up_ne (by omega))) (fun i hi => by rw [up_ne (by omega), f3 i hi]; simp [rwFs]) (fun f hf => by simp [rwFs] at hf) (fun b j hb => by rw [up_ne (by omega)]; exact f4 b j hb)
    refine kloop0 (2 * (rwP R).length) _ ?_ (fun c hc ih => ?_)
    · intro W e7 hE hb hF hfr
      have e5 := hE.1
      refine b161_37 ha ⟨by omega, by omega, fun _ => ⟨_, rfl, ?_⟩, fun h => by omega⟩
      have := k W ⟨hE, e7, hF⟩ hfr
      rw [e7]
      exact this
    · intro W e7 hE hb hF hfr
      have nd := rwFs_nd hT c (by omega)
      have l1 := rwFs_len (rwT R) (2 * (rwP R).length) c
      have hbc := hb c hc
      have e5 := hE.1
      generalize hfs : rwFs (rwT R) (2 * (rwP R).length) c = fs at *
      refine b161_37 ha ⟨by omega, by omega, fun h => by omega, fun h => ⟨by omega, ?_, fun h => ?_, fun h => ?_⟩⟩
      · rw [tn, hbc]; split <;> omega
      · have hnm : c ∉ fs.flatten := fun z => by rw [tn, hbc, if_pos z] at h; omega
        have hnx : rwFs (rwT R) (2 * (rwP R).length) (c + 1) = fs ++ [rwWalk (rwT R) fs.flatten (2 * (rwP R).length - fs.flatten.length) c] := by
          show (if c ∈ (rwFs (rwT R) (2 * (rwP R).length) c).flatten then _ else _) = _
          rw [hfs, if_neg hnm]
        rw [hnx] at ih
        simp only [up_nea, ne_eq, reduceCtorEq, not_false_eq_true, Nat.reduceEqDiff, e7, tn]
        refine ⟨by omega, by omega, ?_⟩
        suffices H : ∀ (n : Nat) (u : List Nat) (w : Nat) (W : km_V), n + (fs.flatten ++ u).length = 2 * (rwP R).length → w < 2 * (rwP R).length → u ++ rwWalk (rwT R) (fs.flatten ++ u) (2 * (rwP R).length - (fs.flatten ++ u).length) w = rwWalk (rwT R) fs.flatten (2 * (rwP R).length - fs.flatten.length) c → (fs.flatten ++ u).Nodup → (∀ x, x ∈ fs.flatten ++ u → x < 2 * (rwP R).length) → W 299 32 = (fs.length : Int) → kME W R → (∀ i, i < 2 * (rwP R).length → W 321 i = if i ∈ fs.flatten ++ u then 1 else 0) → (∀ f, f < fs.length → W 319 f = ((rwR (fs, []) f).getD 0 0 : Int) ∧ W 320 f = (rwL (fs, []) f : Int)) → W 319 fs.length = (c : Int) → W 320 fs.length = (u.length : Int) → (∀ b j, ¬ (b = 299 ∧ (j = 25 ∨ j = 32) ∨ 313 ≤ b ∧ b ≤ 321) → W b j = V b j) →
            kGo xs Lx (d + 2) 161 81 [some (.ref 299), some (.ref a), some (kI (c : Int)), some (kI (w : Int))] [] W (fun r V' => ∃ x, r = some (kI x) ∧ K x V') from by
          have hl := nodup_le _ _ nd.1 nd.2
          refine H (2 * (rwP R).length - fs.flatten.length) [] c _ (by rw [List.append_nil]; omega) hc (by rw [List.append_nil]; rfl) (by rw [List.append_nil]; exact nd.1) (by rw [List.append_nil]; exact nd.2) (by rw [up_ne (by omega), up_ne (by omega)]; exact e7) (hE.fr (by rw [up_ne (by omega), up_ne (by omega)]) (fun b j hb => by rw [up_ne (by omega), up_ne (by omega)])) (fun i hi => by rw [up_ne (by omega), up_ne (by omega), List.append_nil]; exact hb i hi) (fun f hf => by rw [up_ne (by omega), up_ne (by omega), up_ne (by omega), up_ne (by omega)]; exact hF f hf) (by rw [up_ne (by omega), up_at]) (by rw [up_at]; rfl) (fun b j hb => by rw [up_ne (by omega), up_ne (by omega)]; exact hfr b j hb)
        clear h hb hF hfr e7 hbc hE e5
        have fin : ∀ (u : List Nat) (w : Nat) (W : km_V), w < 2 * (rwP R).length → u ++ rwWalk (rwT R) (fs.flatten ++ u) (2 * (rwP R).length - (fs.flatten ++ u).length) w = rwWalk (rwT R) fs.flatten (2 * (rwP R).length - fs.flatten.length) c → w ∈ fs.flatten ++ u → W 299 32 = (fs.length : Int) → kME W R → (∀ i, i < 2 * (rwP R).length → W 321 i = if i ∈ fs.flatten ++ u then 1 else 0) → (∀ f, f < fs.length → W 319 f = ((rwR (fs, []) f).getD 0 0 : Int) ∧ W 320 f = (rwL (fs, []) f : Int)) → W 319 fs.length = (c : Int) → W 320 fs.length = (u.length : Int) → (∀ b j, ¬ (b = 299 ∧ (j = 25 ∨ j = 32) ∨ 313 ≤ b ∧ b ≤ 321) → W b j = V b j) →
            kGo xs Lx (d + 2) 161 81 [some (.ref 299), some (.ref a), some (kI (c : Int)), some (kI (w : Int))] [] W (fun r V' => ∃ x, r = some (kI x) ∧ K x V') := by
          intro u w W hw hu hm e7 hE hb hF hc1 hc2 hfr
          rw [rwWalk_mem hm, List.append_nil] at hu
          have hll := nodup_le _ _ (List.nodup_cons.mpr ⟨hnm, nd.1⟩) (fun x hx => by
            rcases List.mem_cons.mp hx with e | e
            · subst e; exact hc
            · exact nd.2 x e)
          rw [List.length_cons] at hll
          have h0 : u.getD 0 0 = c := by
            obtain ⟨m, hm2⟩ : ∃ m, 2 * (rwP R).length - fs.flatten.length = m + 1 := ⟨2 * (rwP R).length - fs.flatten.length - 1, by omega⟩
            rw [hu, hm2]
            unfold rwWalk
            rw [if_neg hnm]
            rfl
          rw [← hu] at ih
          have e1 : (fs ++ [u]).flatten = fs.flatten ++ u := by rw [List.flatten_append, List.flatten_singleton]
          rw [e1] at ih
          refine b161_81 ha ⟨by omega, by rw [tn, hb w hw]; split <;> omega, fun _ => ?_, fun h => by rw [tn, hb w hw, if_pos hm] at h; omega⟩
          refine ih _ ?_ (hE.fr (up_ne (by omega)) (fun b j hb => up_ne (by omega))) (fun i hi => by rw [up_ne (by omega)]; exact hb i hi) (fun f hf => ?_) (fun b j hb => by rw [up_ne (by omega)]; exact hfr b j hb)
          · rw [up_at, e7, List.length_append, List.length_singleton]; omega
          · rw [List.length_append, List.length_singleton] at hf
            rw [up_ne (by omega), up_ne (by omega)]
            unfold rwL rwR
            dsimp only
            by_cases e : f = fs.length
            · subst e
              rw [gd_app1, h0]
              exact ⟨hc1, hc2⟩
            · rw [gd_appl (by omega)]
              exact hF f (by omega)
        intro n
        induction n with
        | zero =>
          intro u w W hn hw hu hnd hlt e7 hE hb hF hc1 hc2 hfr
          exact fin u w W hw hu (nodup_full hnd hlt (by omega) hw) e7 hE hb hF hc1 hc2 hfr
        | succ n ihn =>
          intro u w W hn hw hu hnd hlt e7 hE hb hF hc1 hc2 hfr
          by_cases hm2 : w ∈ fs.flatten ++ u
          · exact fin u w W hw hu hm2 e7 hE hb hF hc1 hc2 hfr
          · have hnd2 : ((fs.flatten ++ u) ++ [w]).Nodup := by
              rw [List.nodup_append]
              refine ⟨hnd, (List.nodup_cons.mpr ⟨List.not_mem_nil, List.nodup_nil⟩), fun a ha b hb => ?_⟩
              rw [List.mem_singleton.mp hb]
              intro e
              subst e
              exact hm2 ha
            have hlt2 : ∀ x, x ∈ (fs.flatten ++ u) ++ [w] → x < 2 * (rwP R).length := fun x hx => by
              rcases List.mem_append.mp hx with e | e
              · exact hlt x e
              · rw [List.mem_singleton.mp e]; exact hw
            have hf2 : 2 * (rwP R).length - ((fs.flatten ++ u) ++ [w]).length = n := by rw [List.length_append (bs := [w]), List.length_singleton]; omega
            have hf : 2 * (rwP R).length - (fs.flatten ++ u).length = n + 1 := by omega
            have hw1 : rwWalk (rwT R) (fs.flatten ++ u) (n + 1) w = w :: rwWalk (rwT R) (fs.flatten ++ u ++ [w]) n (rwT R w) := by
              show (if w ∈ fs.flatten ++ u then _ else _) = _
              rw [if_neg hm2]
            rw [hf, hw1] at hu
            have hE2 : kME (up (up W 321 w 1) 320 fs.length ((u.length : Int) + 1)) R := hE.fr (by rw [up_ne (by omega), up_ne (by omega)]) (fun b j hb => by rw [up_ne (by omega), up_ne (by omega)])
            have hR2 : kRf (up (up W 321 w 1) 320 fs.length ((u.length : Int) + 1) a) R := hR.fr ok (fun j _ => by rw [up_ne (by omega), up_ne (by omega)]; exact hfr a j (by omega))
            obtain ⟨t1, t2⟩ := kturn_eq hR2 ok hE2 hw
            refine b161_81 ha ⟨by omega, by rw [tn, hb w hw]; split <;> omega, fun h => by rw [tn, hb w hw, if_neg hm2] at h; omega, fun _ => ?_⟩
            simp only [up_nea, ne_eq, reduceCtorEq, not_false_eq_true, Nat.reduceEqDiff, e7, tn, hc2]
            refine ⟨by omega, t2, fun z hz => ?_⟩
            rw [t1] at hz
            subst hz
            refine ihn (u ++ [w]) (rwT R w) _ (by rw [← List.append_assoc, List.length_append (bs := [w]), List.length_singleton]; omega) (hT w hw) (by rw [← List.append_assoc, hf2, ← hu, List.append_assoc]; rfl) (by rw [← List.append_assoc]; exact hnd2) (by rw [← List.append_assoc]; exact hlt2) (by rw [up_ne (by omega), up_ne (by omega)]; exact e7) hE2 (fun i hi => ?_) (fun f hf => by rw [up_ne (by omega), up_ne (by omega), up_ne (by omega), up_ne (by omega)]; exact hF f hf) (by rw [up_ne (by omega), up_ne (by omega)]; exact hc1) (by rw [up_at, List.length_append, List.length_singleton]; rfl) (fun b j hb => by rw [up_ne (by omega), up_ne (by omega)]; exact hfr b j hb)
            rw [up_ne (by omega), ← List.append_assoc]
            by_cases e : i = w
            · subst e; rw [up_at, if_pos (List.mem_append_right _ (List.mem_singleton.mpr rfl))]
            · rw [up_ne (by omega), hb i hi]
              by_cases e2 : i ∈ fs.flatten ++ u
              · rw [if_pos e2, if_pos (List.mem_append_left _ e2)]
              · rw [if_neg e2, if_neg]
                intro z
                rcases List.mem_append.mp z with z | z
                · exact e2 z
                · exact e (List.mem_singleton.mp z)
      · have hmm : c ∈ fs.flatten := by
          apply Classical.byContradiction
          intro z
          rw [tn, hbc, if_neg z] at h
          exact h rfl
        have hnx : rwFs (rwT R) (2 * (rwP R).length) (c + 1) = fs := by
          show (if c ∈ (rwFs (rwT R) (2 * (rwP R).length) c).flatten then _ else _) = _
          rw [hfs, if_pos hmm]
        rw [hnx] at ih
        exact ih W e7 hE hb hF hfr
  · have e5 := f2.1
    refine b161_7 ha ⟨by omega, by omega, fun h => by omega, fun h => ⟨by omega, ih _ ⟨f2.fr (up_ne (by omega)) (fun b j hb => up_ne (by omega)), fun i hi => ?_, fun b j hb => by rw [up_ne (by omega)]; exact f4 b j hb⟩⟩⟩
    by_cases e : i = c
    · subst e; exact up_at _ _ _ _
    · rw [up_ne (by rw [tn]; omega)]; exact f3 i (by omega)
end MFA

/-! feed, back, place -/
def kTc (V : km_V) (tp : List Int) : Prop := V 1 0 = (tp.length : Int) ∧ ∀ j, j < tp.length → V 2 j = tp.getD j 0
def kTm (V : km_V) (tp : List Int) : Prop := V 299 2 = (tp.length : Int) ∧ ∀ j, j < tp.length → V 300 j = tp.getD j 0
theorem kTc.fr {V W : km_V} {tp : List Int} (h : kTc V tp) (hf : ∀ b j, (b = 1 ∧ j = 0 ∨ b = 2) → W b j = V b j) : kTc W tp := ⟨by rw [hf _ _ (by omega)]; exact h.1, fun j hj => by rw [hf _ _ (by omega)]; exact h.2 j hj⟩
theorem kTm.fr {V W : km_V} {tp : List Int} (h : kTm V tp) (hf : ∀ b j, (b = 299 ∧ j = 2 ∨ b = 300) → W b j = V b j) : kTm W tp := ⟨by rw [hf _ _ (by omega)]; exact h.1, fun j hj => by rw [hf _ _ (by omega)]; exact h.2 j hj⟩
def pbB (x : Int) (s : Nat) : Int := k8 (k8 (x / ((2 ^ s : Nat) : Int)))
def pbs (x : Int) : List Int := [pbB x 24, pbB x 16, pbB x 8, pbB x 0]
theorem kTc.push {V : km_V} {tp : List Int} (h : kTc V tp) (x : Int) : kTc (up (up V 2 tp.length x) 1 0 ((tp.length : Int) + 1)) (tp ++ [x]) := by
  refine ⟨by rw [up_at, List.length_append]; simp, fun j hj => ?_⟩
  rw [List.length_append, List.length_cons, List.length_nil] at hj
  rw [up_ne (by omega)]
  by_cases z : j = tp.length
  · subst z; rw [up_at, gd_appr (Nat.le_refl _), Nat.sub_self]; rfl
  · rw [up_ne (by omega), gd_appl (by omega)]; exact h.2 j (by omega)
theorem kTm.push {V : km_V} {tp : List Int} (h : kTm V tp) (x : Int) : kTm (up (up V 300 tp.length x) 299 2 ((tp.length : Int) + 1)) (tp ++ [x]) := by
  refine ⟨by rw [up_at, List.length_append]; simp, fun j hj => ?_⟩
  rw [List.length_append, List.length_cons, List.length_nil] at hj
  rw [up_ne (by omega)]
  by_cases z : j = tp.length
  · subst z; rw [up_at, gd_appr (Nat.le_refl _), Nat.sub_self]; rfl
  · rw [up_ne (by omega), gd_appl (by omega)]; exact h.2 j (by omega)
section FEE
variable {xs : Nat → Int32} {Lx d : Nat} {V : km_V} {tp : List Int}
theorem put_step {s : Nat} {x : Int} {Q : Option Value → km_V → Prop} (hs : s < 32) (hT : kTc V tp) (hl : tp.length < 2000) (hx : kR x) (k : ∀ W, kTc W (tp ++ [pbB x s]) → (∀ b j, ¬ (b = 1 ∧ j = 0 ∨ b = 2) → W b j = V b j) → kGo xs Lx (d + 0) 80 3 [some (.ref 1), some (kI x), some (kI ((s : Int) + (-8)))] [] W Q) : kGo xs Lx (d + 0) 80 3 [some (.ref 1), some (kI x), some (kI (s : Int))] [] V Q := by
  refine b80_3 ?_
  rw [up_ne (show ¬ (1 = 2 ∧ 0 = Int.toNat (V 1 0)) by omega), hT.1, tn, tn]
  exact ⟨by omega, fun h => by omega, fun _ => ⟨by omega, fun h => by omega, fun _ => ⟨hx, by omega, by omega, k _ (hT.push _) (fun b j hb => by rw [up_ne (by omega), up_ne (by omega)])⟩⟩⟩
theorem sp_put {x : Int} {K : km_V → Prop} (hT : kTc V tp) (hl : tp.length + 4 ≤ 2000) (hx : kR x) (k : ∀ W, kTc W (tp ++ pbs x) → (∀ b j, ¬ (b = 1 ∧ j = 0 ∨ b = 2) → W b j = V b j) → K W) : kCV xs Lx (d + 0) 80 3 [.ref 1, kI x] V K := by
  refine b80_0 ?_
  refine put_step (s := 24) (by omega) hT (by omega) hx (fun W1 t1 f1 => ?_)
  refine put_step (s := 16) (by omega) t1 (by rw [List.length_append]; simp; omega) hx (fun W2 t2 f2 => ?_)
  refine put_step (s := 8) (by omega) t2 (by simp; omega) hx (fun W3 t3 f3 => ?_)
  refine put_step (s := 0) (by omega) t3 (by simp; omega) hx (fun W4 t4 f4 => ?_)
  have e : tp ++ [pbB x 24] ++ [pbB x 16] ++ [pbB x 8] ++ [pbB x 0] = tp ++ pbs x := by unfold pbs; simp
  rw [e] at t4
  exact b80_3 ⟨by omega, fun _ => ⟨rfl, k W4 t4 (fun b j hb => by rw [f4 _ _ hb, f3 _ _ hb, f2 _ _ hb, f1 _ _ hb])⟩, fun h => by omega⟩
theorem mput_step {s : Nat} {x : Int} {Q : Option Value → km_V → Prop} (hs : s < 32) (hT : kTm V tp) (hl : tp.length < 2000) (hx : kR x) (k : ∀ W, kTm W (tp ++ [pbB x s]) → (∀ b j, ¬ (b = 299 ∧ j = 2 ∨ b = 300) → W b j = V b j) → kGo xs Lx (d + 0) 126 3 [some (.ref 299), some (kI x), some (kI ((s : Int) + (-8)))] [] W Q) : kGo xs Lx (d + 0) 126 3 [some (.ref 299), some (kI x), some (kI (s : Int))] [] V Q := by
  refine b126_3 ?_
  rw [up_ne (show ¬ (299 = 300 ∧ 2 = Int.toNat (V 299 2)) by omega), hT.1, tn, tn]
  exact ⟨by omega, fun h => by omega, fun _ => ⟨hx, by omega, by omega, k _ (hT.push _) (fun b j hb => by rw [up_ne (by omega), up_ne (by omega)])⟩⟩
theorem sp_mput {x : Int} {K : km_V → Prop} (hT : kTm V tp) (hl : tp.length + 4 ≤ 2000) (hx : kR x) (k : ∀ W, kTm W (tp ++ pbs x) → (∀ b j, ¬ (b = 299 ∧ j = 2 ∨ b = 300) → W b j = V b j) → K W) : kCV xs Lx (d + 0) 126 3 [.ref 299, kI x] V K := by
  refine b126_0 ?_
  refine mput_step (s := 24) (by omega) hT (by omega) hx (fun W1 t1 f1 => ?_)
  refine mput_step (s := 16) (by omega) t1 (by rw [List.length_append]; simp; omega) hx (fun W2 t2 f2 => ?_)
  refine mput_step (s := 8) (by omega) t2 (by simp; omega) hx (fun W3 t3 f3 => ?_)
  refine mput_step (s := 0) (by omega) t3 (by simp; omega) hx (fun W4 t4 f4 => ?_)
  have e : tp ++ [pbB x 24] ++ [pbB x 16] ++ [pbB x 8] ++ [pbB x 0] = tp ++ pbs x := by unfold pbs; simp
  rw [e] at t4
  exact b126_3 ⟨by omega, fun _ => ⟨rfl, k W4 t4 (fun b j hb => by rw [f4 _ _ hb, f3 _ _ hb, f2 _ _ hb, f1 _ _ hb])⟩, fun h => by omega⟩
def fed (tp : List Int) (a b c e f : Int) : List Int := tp ++ pbs a ++ pbs b ++ pbs c ++ pbs e ++ pbs f
theorem pbs_len (x : Int) : (pbs x).length = 4 := rfl
theorem sp_cfeed {a b c e f : Int} {K : Int → km_V → Prop} (ha : kR a) (hb : kR b) (hc : kR c) (he : kR e) (hf : kR f) (hT : kTc V tp) (hl : tp.length ≤ 2000) (k1 : tp.length + 20 ≤ 2000 → ∀ W, kTc W (fed tp a b c e f) → (∀ b j, ¬ (b = 1 ∧ j = 0 ∨ b = 2) → W b j = V b j) → K ((fed tp a b c e f).length : Int) W) (k0 : ¬ (tp.length + 20 ≤ 2000) → K (-1) V) : kCI xs Lx (d + 1) 91 6 [.ref 0, kI a, kI b, kI c, kI e, kI f] V K := by
  refine b91_0 ?_
  rw [hT.1]
  refine ⟨by omega, fun h => ?_, fun h => ⟨_, rfl, k0 (by omega)⟩⟩
  refine sp_put hT (by omega) ha (fun W1 t1 f1 => ?_)
  refine sp_put t1 (by simp only [List.length_append, pbs_len]; omega) hb (fun W2 t2 f2 => ?_)
  refine sp_put t2 (by simp only [List.length_append, pbs_len]; omega) hc (fun W3 t3 f3 => ?_)
  refine sp_put t3 (by simp only [List.length_append, pbs_len]; omega) he (fun W4 t4 f4 => ?_)
  refine sp_put t4 (by simp only [List.length_append, pbs_len]; omega) hf (fun W5 t5 f5 => ⟨_, rfl, ?_⟩)
  rw [t5.1]
  exact k1 (by omega) W5 t5 (fun b j hb => by rw [f5 _ _ hb, f4 _ _ hb, f3 _ _ hb, f2 _ _ hb, f1 _ _ hb])
theorem sp_mfeed {a b c e f : Int} {K : Int → km_V → Prop} (ha : kR a) (hb : kR b) (hc : kR c) (he : kR e) (hf : kR f) (hT : kTm V tp) (hl : tp.length ≤ 2000) (k1 : tp.length + 20 ≤ 2000 → ∀ W, kTm W (fed tp a b c e f) → (∀ b j, ¬ (b = 299 ∧ j = 2 ∨ b = 300) → W b j = V b j) → K ((fed tp a b c e f).length : Int) W) (k0 : ¬ (tp.length + 20 ≤ 2000) → K (-1) V) : kCI xs Lx (d + 1) 125 6 [.ref 299, kI a, kI b, kI c, kI e, kI f] V K := by
  refine b125_0 ?_
  rw [hT.1]
  refine ⟨by omega, fun h => ?_, fun h => ⟨_, rfl, k0 (by omega)⟩⟩
  refine sp_mput hT (by omega) ha (fun W1 t1 f1 => ?_)
  refine sp_mput t1 (by simp only [List.length_append, pbs_len]; omega) hb (fun W2 t2 f2 => ?_)
  refine sp_mput t2 (by simp only [List.length_append, pbs_len]; omega) hc (fun W3 t3 f3 => ?_)
  refine sp_mput t3 (by simp only [List.length_append, pbs_len]; omega) he (fun W4 t4 f4 => ?_)
  refine sp_mput t4 (by simp only [List.length_append, pbs_len]; omega) hf (fun W5 t5 f5 => ⟨_, rfl, ?_⟩)
  rw [t5.1]
  exact k1 (by omega) W5 t5 (fun b j hb => by rw [f5 _ _ hb, f4 _ _ hb, f3 _ _ hb, f2 _ _ hb, f1 _ _ hb])
theorem sp_cback {a : Int} {K : Int → km_V → Prop} (ha : kR a) (hT : kTc V tp) (hl : tp.length ≤ 2000) (k1 : ∀ n : Nat, a = (n : Int) → n ≤ tp.length → ∀ W, kTc W (tp.take (tp.length - n)) → (∀ b j, ¬ (b = 1 ∧ j = 0) → W b j = V b j) → K ((tp.length - n : Nat) : Int) W) (k0 : ¬ (0 ≤ a ∧ a ≤ (tp.length : Int)) → K (-1) V) : kCI xs Lx (d + 0) 92 2 [.ref 0, kI a] V K := by
  refine b92_0 ?_
  rw [up_at, hT.1]
  refine ⟨ha, fun h => ⟨_, rfl, k0 (by omega)⟩, fun h => ⟨by omega, fun h2 => ?_, fun h2 => ⟨_, rfl, k0 (by omega)⟩⟩⟩
  obtain ⟨n, rfl⟩ : ∃ n : Nat, a = (n : Int) := ⟨Int.toNat a, by omega⟩
  rw [show (tp.length : Int) - (n : Int) = ((tp.length - n : Nat) : Int) by omega]
  refine ⟨_, rfl, k1 n rfl (by omega) _ ⟨by rw [up_at, List.length_take]; omega, fun j hj => ?_⟩ (fun b j hb => up_ne (by omega))⟩
  rw [List.length_take] at hj
  rw [up_ne (by omega), gd_take (by omega)]
  exact hT.2 j (by omega)
theorem sp_mback {a : Int} {K : Int → km_V → Prop} (ha : kR a) (hT : kTm V tp) (hl : tp.length ≤ 2000) (k1 : ∀ n : Nat, a = (n : Int) → n ≤ tp.length → ∀ W, kTm W (tp.take (tp.length - n)) → (∀ b j, ¬ (b = 299 ∧ j = 2) → W b j = V b j) → K ((tp.length - n : Nat) : Int) W) (k0 : ¬ (0 ≤ a ∧ a ≤ (tp.length : Int)) → K (-1) V) : kCI xs Lx (d + 0) 127 2 [.ref 299, kI a] V K := by
  refine b127_0 ?_
  rw [up_at, hT.1]
  refine ⟨ha, fun h => ⟨_, rfl, k0 (by omega)⟩, fun h => ⟨by omega, fun h2 => ?_, fun h2 => ⟨_, rfl, k0 (by omega)⟩⟩⟩
  obtain ⟨n, rfl⟩ : ∃ n : Nat, a = (n : Int) := ⟨Int.toNat a, by omega⟩
  rw [show (tp.length : Int) - (n : Int) = ((tp.length - n : Nat) : Int) by omega]
  refine ⟨_, rfl, k1 n rfl (by omega) _ ⟨by rw [up_at, List.length_take]; omega, fun j hj => ?_⟩ (fun b j hb => up_ne (by omega))⟩
  rw [List.length_take] at hj
  rw [up_ne (by omega), gd_take (by omega)]
  exact hT.2 j (by omega)
theorem sp_cplace {K : Int → km_V → Prop} (k : K (V 0 16) V) : kCI xs Lx (d + 0) 94 1 [.ref 0] V K := b94_0 ⟨_, rfl, k⟩
end FEE

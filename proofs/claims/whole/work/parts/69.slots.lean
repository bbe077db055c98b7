/-! what is held, and one knot more in the model -/
abbrev Hs : Type := Nat → Option Rw
def hget (hs : Hs) (a : Int) : Option Rw := if 0 ≤ a ∧ a ≤ 2 then hs (Int.toNat a) else none
def hset (hs : Hs) (s : Nat) (R : Rw) : Hs := fun j => if j = s then some R else hs j
def hOk (hs : Hs) : Prop := ∀ s S, hs s = some S → rwOk S
def kHm (V : km_V) (hs : Hs) : Prop := ∀ s, s < 3 → (hs s = none → V 325 s = 0) ∧ (∀ S, hs s = some S → V 325 s = 1 ∧ kRf (fun j => V 324 (78 * s + j)) S)
def kHc (V : km_V) (hs : Hs) : Prop := ∀ s, s < 3 → (hs s = none → V 208 s = 0) ∧ (∀ S, hs s = some S → V 208 s = 1 ∧ kRC V (287 + 4 * s) S)
theorem kHm.fr {V W : km_V} {hs : Hs} (h : kHm V hs) (h1 : ∀ j, W 325 j = V 325 j) (h2 : ∀ j, W 324 j = V 324 j) : kHm W hs := by
  intro s hs'
  have := h s hs'
  refine ⟨fun e => by rw [h1]; exact this.1 e, fun S e => ⟨by rw [h1]; exact (this.2 S e).1, ?_⟩⟩
  have q := (this.2 S e).2
  simp only [h2]
  exact q
theorem kHc.fr {V W : km_V} {hs : Hs} (h : kHc V hs) (hf : ∀ a j, a = 208 ∨ 287 ≤ a ∧ a ≤ 298 → W a j = V a j) : kHc W hs := by
  intro s hs'
  have := h s hs'
  refine ⟨fun e => by rw [hf _ _ (by omega)]; exact this.1 e, fun S e => ⟨by rw [hf _ _ (by omega)]; exact (this.2 S e).1, (this.2 S e).2.fr (fun a j ha => hf a j (by omega))⟩⟩
theorem hget_ok {hs : Hs} {a : Int} {S : Rw} (h : hOk hs) (e : hget hs a = some S) : rwOk S := by
  unfold hget at e
  by_cases c : 0 ≤ a ∧ a ≤ 2
  · rw [if_pos c] at e; exact h _ _ e
  · rw [if_neg c] at e; exact absurd e (by simp)
theorem hset_ok {hs : Hs} {s : Nat} {R : Rw} (h : hOk hs) (ok : rwOk R) : hOk (hset hs s R) := by
  intro j S e
  unfold hset at e
  by_cases c : j = s
  · rw [if_pos c] at e; cases e; exact ok
  · rw [if_neg c] at e; exact h _ _ e
section SLO
variable {xs : Nat → Int32} {Lx d : Nat} {V : km_V} {R S : Rw} {hs : Hs} {ps : List Rw}
theorem sp_hasHeld {a : Int} {K : Int → km_V → Prop} (ha : kR a) (hH : kHm V hs) (hk : hOk hs) (k1 : ∀ S, hget hs a = some S → ∀ W, kRf (W 326) S → (∀ b j, b ≠ 326 → W b j = V b j) → K 1 W) (k0 : hget hs a = none → K 0 V) : kCI xs Lx (d + 1) 179 3 [.ref 299, kI a] V K := by
  refine b179_0 ?_
  simp only [kin_eq]
  refine ⟨ha, by split <;> omega, fun h => ⟨_, rfl, k0 ?_⟩, fun h => ?_⟩
  · unfold hget
    by_cases c : 0 ≤ a ∧ a ≤ 2
    · rw [if_pos c] at h; omega
    · rw [if_neg c]
  · have c : 0 ≤ a ∧ a ≤ 2 := by
      by_cases c : 0 ≤ a ∧ a ≤ 2
      · exact c
      · rw [if_neg c] at h; omega
    obtain ⟨s, rfl⟩ : ∃ s : Nat, a = (s : Int) := ⟨Int.toNat a, by omega⟩
    have g : hget hs (s : Int) = hs s := by unfold hget; rw [if_pos c]; rfl
    rw [g] at k1 k0
    rw [tn]
    obtain ⟨n0, n1⟩ := hH s (by omega)
    cases e : hs s with
    | none =>
      rw [n0 e]
      exact ⟨by omega, by omega, fun h => absurd rfl h, fun _ => ⟨_, rfl, k0 e⟩⟩
    | some S =>
      obtain ⟨m1, m2⟩ := n1 S e
      rw [m1]
      refine ⟨by omega, by omega, fun _ => ?_, fun h => absurd h (by omega)⟩
      refine kloop 78 (fun c W => (∀ j, j < c → W 326 j = V 324 (78 * s + j)) ∧ (∀ b j, b ≠ 326 → W b j = V b j)) (fun c W => kGo xs Lx (d + 1) 179 22 [some (.ref 299), some (kI (s : Int)), some (kI (c : Int))] [] W _) (fun W ⟨q1, q2⟩ => ?_) (fun c W hc ⟨q1, q2⟩ ih => ?_) 0 V (Nat.zero_le _) ⟨fun j hj => by omega, fun _ _ _ => rfl⟩
      · exact b179_22 ⟨by omega, fun _ => ⟨_, rfl, k1 S e W (m2.fr (hk s S e) (fun j hj => q1 j hj)) q2⟩, fun h => by omega⟩
      · have n1 : Int.toNat (78 * (s : Int) + (c : Int)) = 78 * s + c := by omega
        refine b179_22 ⟨by omega, fun h => by omega, fun _ => ⟨by omega, by omega, ih _ ⟨fun j hj => ?_, fun b j hb => by rw [up_ne (by omega)]; exact q2 b j hb⟩⟩⟩
        rw [n1, tn]
        by_cases z : j = c
        · subst z; rw [up_at, q2 _ _ (by omega)]
        · rw [up_ne (by omega)]; exact q1 j (by omega)
theorem sp_mhold {a : Int} {K : Int → km_V → Prop} (ha : kR a) (hR : kRf (V 307) R) (ok : rwOk R) (hH : kHm V hs) (hk : hOk hs) (k1 : 0 ≤ a ∧ a ≤ 2 → ∀ W, kHm W (hset hs (Int.toNat a) R) → (∀ b j, b ≠ 324 ∧ b ≠ 325 → W b j = V b j) → K 1 W) (k0 : ¬ (0 ≤ a ∧ a ≤ 2) → K 0 V) : kCI xs Lx (d + 1) 178 3 [.ref 299, kI a] V K := by
  refine b178_0 ?_
  simp only [kin_eq]
  refine ⟨ha, by split <;> omega, fun h => ?_, fun h => ⟨_, rfl, k0 (fun c => by rw [if_pos c] at h; omega)⟩⟩
  have c : 0 ≤ a ∧ a ≤ 2 := by
    by_cases c : 0 ≤ a ∧ a ≤ 2
    · exact c
    · rw [if_neg c] at h; omega
  obtain ⟨s, rfl⟩ : ∃ s : Nat, a = (s : Int) := ⟨Int.toNat a, by omega⟩
  rw [tn] at k1
  refine kloop 78 (fun c W => (∀ j, j < c → W 324 (78 * s + j) = V 307 j) ∧ (∀ b j, ¬ (b = 324 ∧ 78 * s ≤ j ∧ j < 78 * s + 78) → W b j = V b j)) (fun c W => kGo xs Lx (d + 1) 178 13 [some (.ref 299), some (kI (s : Int)), some (kI (c : Int))] [] W _) (fun W ⟨q1, q2⟩ => ?_) (fun c W hc ⟨q1, q2⟩ ih => ?_) 0 V (Nat.zero_le _) ⟨fun j hj => by omega, fun _ _ _ => rfl⟩
  · refine b178_13 ⟨by omega, fun _ => ⟨by omega, _, rfl, k1 c _ (fun s' hs' => ?_) (fun b j hb => ?_)⟩, fun h => by omega⟩
    · rw [tn]
      unfold hset
      by_cases z : s' = s
      · subst z
        rw [if_pos rfl]
        refine ⟨fun e => by simp at e, fun S e => ?_⟩
        cases e
        rw [up_at]
        exact ⟨rfl, hR.fr ok (fun j hj => by rw [up_ne (by omega)]; exact q1 j hj)⟩
      · rw [if_neg z]
        obtain ⟨n0, n1⟩ := hH s' hs'
        refine ⟨fun e => by rw [up_ne (by omega), q2 _ _ (by omega)]; exact n0 e, fun S e => ⟨by rw [up_ne (by omega), q2 _ _ (by omega)]; exact (n1 S e).1, ?_⟩⟩
        exact (n1 S e).2.fr (hk s' S e) (fun j hj => by rw [up_ne (by omega)]; exact q2 _ _ (by omega))
    · rw [up_ne (by omega)]; exact q2 b j (by omega)
  · have n1 : Int.toNat (78 * (s : Int) + (c : Int)) = 78 * s + c := by omega
    refine b178_13 ⟨by omega, fun h => by omega, fun _ => ⟨by omega, by omega, ih _ ⟨fun j hj => ?_, fun b j hb => by rw [up_ne (by omega)]; exact q2 b j hb⟩⟩⟩
    rw [n1, tn]
    by_cases z : j = c
    · subst z; rw [up_at, q2 _ _ (by omega)]
    · rw [up_ne (by omega)]; exact q1 j (by omega)
theorem sp_mrestore {a : Int} {K : Int → km_V → Prop} (ha : kR a) (hH : kHm V hs) (hk : hOk hs) (k1 : ∀ S, hget hs a = some S → ∀ W, kRf (W 307) S → W 299 39 = 0 → (∀ b j, ¬ (b = 307 ∨ b = 326 ∨ b = 299 ∧ j = 39) → W b j = V b j) → K 1 W) (k0 : hget hs a = none → K 0 V) : kCI xs Lx (d + 2) 180 2 [.ref 299, kI a] V K := by
  refine b180_0 (sp_hasHeld ha hH hk (fun S e W q1 q2 => ⟨by omega, fun _ => ?_, fun h => by omega⟩) (fun e => ⟨by omega, fun h => by omega, fun _ => ⟨_, rfl, k0 e⟩⟩))
  refine sp_copies (by decide) (by decide) (by decide) (fun W2 c1 c2 => ⟨_, rfl, k1 S e _ ?_ (up_at _ _ _ _) (fun b j hb => ?_)⟩)
  · refine q1.fr (hget_ok hk e) (fun j hj => ?_)
    rw [up_ne (by omega)]; exact c1 j hj
  · rw [up_ne (by omega), c2 _ _ (by omega), q2 _ _ (by omega)]
end SLO

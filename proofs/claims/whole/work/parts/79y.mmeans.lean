/-! what rings mean, in the model -/
section TXL
variable {tp : List Int}
theorem txP_mono {a : Nat} : ∀ b, a < b → (∀ j, j < b → txK tp j ≠ 0) → txP tp a < txP tp b := by
  intro b
  induction b with
  | zero => intro h; omega
  | succ b ih =>
    intro h hk
    have s := txP_lt (tp := tp) (hk b (by omega))
    by_cases e : a = b
    · subst e; exact s
    · have := ih (by omega) (fun j hj => hk j (by omega)); omega
theorem rdT_pre {K : Nat → Int} {k : Nat} : ∀ n, ∃ l, rdT K (k + n) = rdT K k ++ l := by
  intro n
  induction n with
  | zero => exact ⟨[], by simp⟩
  | succ n ih =>
    obtain ⟨l, e⟩ := ih
    have eT : rdT K (k + n + 1) = if K (k + n) = 6 ∧ rdS K (k + n) ≠ 5 then rdT K (k + n) ++ [k + n] else rdT K (k + n) := rfl
    rw [show k + (n + 1) = k + n + 1 by omega, eT]
    split
    · exact ⟨l ++ [k + n], by rw [e, List.append_assoc]⟩
    · exact ⟨l, e⟩
theorem rdT_here {K : Nat → Int} {k T : Nat} (hk : k < T) (h6 : K k = 6) (h5 : rdS K k ≠ 5) : (rdT K k).length < (rdT K T).length ∧ (rdT K T).getD (rdT K k).length 0 = k := by
  obtain ⟨l, e⟩ := rdT_pre (K := K) (k := k + 1) (T - (k + 1))
  rw [show k + 1 + (T - (k + 1)) = T by omega] at e
  have eT : rdT K (k + 1) = rdT K k ++ [k] := if_pos ⟨h6, h5⟩
  rw [e, eT]
  refine ⟨by rw [List.length_append, List.length_append, List.length_singleton]; omega, ?_⟩
  rw [List.append_assoc, gd_appr (Nat.le_refl _), Nat.sub_self]; rfl
theorem rdT_low {K W : Nat → Int} {k T i : Nat} (h : ∀ j, j < k → rdPass K W j) (hk : k ≤ T) (hi : i < (rdT K k).length) : (rdT K T).getD i 0 < k := by
  obtain ⟨l, e⟩ := rdT_pre (K := K) (k := k) (T - k)
  rw [show k + (T - k) = T by omega] at e
  rw [e, gd_appl hi]
  exact (rdT_mem k h _ (gd_mem hi)).2.1
end TXL
/-- the first fault of meaning so far -/
def wst (X : km_V) (K W : Nat → Int) (P : Nat → Nat) (L : List Nat) (i : Nat) : Prop := (X 299 14 = 0 ∧ ∀ j, j < i → rfb K W L j = 0) ∨ (∃ i0, i0 < i ∧ i0 < L.length ∧ (∀ j, j < i0 → rfb K W L j = 0) ∧ rfb K W L i0 ≠ 0 ∧ X 299 14 = rfb K W L i0 ∧ X 299 15 = (P (L.getD i0 0) : Int))
def kRw (X : km_V) (R : List (List Nat)) : Prop := (∀ r, r < 4 → X 308 (2 + r) = ((R.getD r []).length : Int)) ∧ (∀ r j, r < R.length → j < (R.getD r []).length → X 308 (6 + 16 * r + j) = ((R.getD r []).getD j 0 : Int))
def kCt (X : km_V) (K W : Nat → Int) (L : List Nat) (U : List Int) (i : Nat) : Prop := ∀ c, c < U.length → X 310 c = ((rcc W L i (U.getD c 0)).length : Int) ∧ (rcc W L i (U.getD c 0) ≠ [] → X 311 c = rdOv K ((rcc W L i (U.getD c 0)).getD 0 0) ∧ X 308 (70 + c) = if rdSg K ((rcc W L i (U.getD c 0)).getD 0 0) = 1 then 1 else -1)
def mFr2 (V X : km_V) : Prop := ∀ b j, ¬ (b = 299 ∧ (j = 14 ∨ j = 15) ∨ b = 308 ∨ b = 310 ∨ b = 311) → X b j = V b j
section MNR
variable {xs : Nat → Int32} {Lx d : Nat} {V : km_V}
theorem sp_mwrong0 {a1 : Int} {k : Nat} {p : Int} {G : km_V → Prop} (hk : k < 403) (h12 : V 299 12 = 0) (h3 : V 303 k = p) (h14 : V 299 14 = 0) (g : G (up (up V 299 14 a1) 299 15 p)) : kCV xs Lx (d + 0) 138 4 [.ref 299, kI a1, kI (k : Int)] V G := by
  refine b138_0 ⟨⟨by omega, by omega⟩, fun z ez => ?_⟩
  rw [tn, h3] at ez
  subst ez
  rw [h12, h14]
  exact ⟨by decide, fun q => absurd q (by decide), fun _ => ⟨by decide, fun _ => ⟨rfl, g⟩, fun q => absurd rfl q⟩⟩
theorem sp_mwrong1 {a1 q : Int} {k : Nat} {p : Int} {G : km_V → Prop} (hk : k < 403) (h12 : V 299 12 = 0) (h3 : V 303 k = p) (h14 : V 299 14 ≠ 0) (r14 : kR (V 299 14)) (h15 : V 299 15 = q) (hq : q < p) (rq : kR q) (rp : kR p) (g : G V) : kCV xs Lx (d + 0) 138 4 [.ref 299, kI a1, kI (k : Int)] V G := by
  refine b138_0 ⟨⟨by omega, by omega⟩, fun z ez => ?_⟩
  rw [tn, h3] at ez
  subst ez
  rw [h12, h15]
  exact ⟨by decide, fun q => absurd q (by decide), fun _ => ⟨r14, fun e => absurd e h14, fun _ => ⟨rp, rq, fun _ => ⟨rfl, g⟩, fun l => by omega⟩⟩⟩
theorem sp_madds {r v : Nat} {R : List (List Nat)} {G : km_V → Prop} (hr : r + 1 = R.length) (h4 : R.length ≤ 4) (hR : kRw V R) (hl : (R.getD r []).length ≤ 15) (hb : ∀ s, (R.getD s []).length ≤ 16) (g : ∀ X, kRw X (R.set r (R.getD r [] ++ [v])) → (∀ b j, ¬ (b = 308 ∧ 2 ≤ j ∧ j < 70) → X b j = V b j) → G X) : kCV xs Lx (d + 0) 149 3 [.ref 308, kI (r : Int), kI (v : Int)] V G := by
  obtain ⟨q1, q2⟩ := hR
  have a := q1 r (by omega)
  refine b149_0 (r0 := 308) (by decide +kernel) ?_
  have t2 : Int.toNat (2 + (r : Int)) = 2 + r := tn_2 r
  rw [t2, a]
  have t6 : Int.toNat (6 + 16 * (r : Int) + ((R.getD r []).length : Int)) = 6 + 16 * r + (R.getD r []).length := tn_6 r _
  rw [t6]
  have u : ∀ y, up V 308 (6 + 16 * r + (R.getD r []).length) y 308 (2 + r) = V 308 (2 + r) := fun y => up_ne (by omega)
  rw [u, a]
  refine ⟨⟨by omega, by omega⟩, ⟨by omega, by omega⟩, rfl, g _ ⟨fun s hs => ?_, fun s j hs hj => ?_⟩ (fun b j hb => ?_)⟩
  · rw [gd_set (by omega)]
    by_cases e : s = r
    · subst e; rw [if_pos rfl, up_at, List.length_append, List.length_singleton]; rfl
    · rw [if_neg e, up_ne (by omega), up_ne (by omega)]; exact q1 s hs
  · rw [List.length_set] at hs
    rw [gd_set (by omega)] at hj ⊢
    rw [up_ne (by omega)]
    by_cases e : s = r
    · subst e
      rw [if_pos rfl] at hj ⊢
      rw [List.length_append, List.length_singleton] at hj
      by_cases z : j = (R.getD s []).length
      · subst z; rw [up_at, gd_appr (Nat.le_refl _), Nat.sub_self]; rfl
      · rw [up_ne (by omega), gd_appl (by omega)]; exact q2 s j (by omega) (by omega)
    · rw [if_neg e] at hj ⊢
      by_cases z : 6 + 16 * s + j = 6 + 16 * r + (R.getD r []).length
      · have := hb s
        omega
      · rw [up_ne (by omega)]; exact q2 s j (by omega) hj
  · rw [up_ne (by omega), up_ne (by omega)]
end MNR

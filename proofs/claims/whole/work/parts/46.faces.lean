/-! faces: walks along a next way, each from the least way that is not gone -/
theorem nodup_le : ∀ (n : Nat) (l : List Nat), l.Nodup → (∀ x, x ∈ l → x < n) → l.length ≤ n := by
  intro n
  induction n with
  | zero =>
    intro l _ h
    cases l with
    | nil => exact Nat.le_refl _
    | cons a t => exact absurd (h a List.mem_cons_self) (by omega)
  | succ n ih =>
    intro l hn h
    have h1 : (l.erase n).length ≤ n := by
      refine ih _ (hn.erase n) (fun x hx => ?_)
      have h2 := (List.Nodup.mem_erase_iff hn).mp hx
      have h3 := h x h2.2
      have h4 := h2.1
      omega
    by_cases hm : n ∈ l
    · rw [List.length_erase_of_mem hm] at h1; omega
    · rw [List.erase_of_not_mem hm] at h1; omega
theorem nodup_full {n : Nat} {l : List Nat} (hn : l.Nodup) (h : ∀ x, x ∈ l → x < n) (hl : l.length = n) {w : Nat} (hw : w < n) : w ∈ l := by
  apply Classical.byContradiction
  intro hc
  have := nodup_le n (w :: l) (List.nodup_cons.mpr ⟨hc, hn⟩) (fun x hx => by
    rcases List.mem_cons.mp hx with e | e
    · subst e; exact hw
    · exact h x e)
  rw [List.length_cons] at this
  omega
def rwWalk (T : Nat → Nat) (seen : List Nat) : Nat → Nat → List Nat
  | 0, _ => []
  | f + 1, w => if w ∈ seen then [] else w :: rwWalk T (seen ++ [w]) f (T w)
def rwFs (T : Nat → Nat) (n : Nat) : Nat → List (List Nat)
  | 0 => []
  | k + 1 => if k ∈ (rwFs T n k).flatten then rwFs T n k else rwFs T n k ++ [rwWalk T (rwFs T n k).flatten (n - (rwFs T n k).flatten.length) k]
def rwFc (R : Rw) : List (List Nat) := rwFs (rwT R) (2 * (rwP R).length) (2 * (rwP R).length)
theorem rwWalk_nd {T : Nat → Nat} {n : Nat} (hT : ∀ w, w < n → T w < n) : ∀ (f : Nat) (seen : List Nat) (w : Nat), seen.Nodup → (∀ x, x ∈ seen → x < n) → w < n → (seen ++ rwWalk T seen f w).Nodup ∧ (∀ x, x ∈ seen ++ rwWalk T seen f w → x < n) := by
  intro f
  induction f with
  | zero => intro seen w h1 h2 _; unfold rwWalk; rw [List.append_nil]; exact ⟨h1, h2⟩
  | succ f ih =>
    intro seen w h1 h2 h3
    unfold rwWalk
    by_cases hw : w ∈ seen
    · rw [if_pos hw, List.append_nil]; exact ⟨h1, h2⟩
    · rw [if_neg hw]
      have h4 : (seen ++ [w]).Nodup := by
        rw [List.nodup_append]
        refine ⟨h1, (List.nodup_cons.mpr ⟨List.not_mem_nil, List.nodup_nil⟩), fun a ha b hb => ?_⟩
        rw [List.mem_singleton.mp hb]
        intro e
        subst e
        exact hw ha
      have h5 : ∀ x, x ∈ seen ++ [w] → x < n := fun x hx => by
        rcases List.mem_append.mp hx with e | e
        · exact h2 x e
        · rw [List.mem_singleton.mp e]; exact h3
      have := ih (seen ++ [w]) (T w) h4 h5 (hT w h3)
      rw [List.append_assoc] at this
      exact this
theorem rwFs_nd {T : Nat → Nat} {n : Nat} (hT : ∀ w, w < n → T w < n) : ∀ k, k ≤ n → (rwFs T n k).flatten.Nodup ∧ (∀ x, x ∈ (rwFs T n k).flatten → x < n) := by
  intro k
  induction k with
  | zero => intro _; exact ⟨List.nodup_nil, fun x hx => by cases hx⟩
  | succ k ih =>
    intro hk
    obtain ⟨h1, h2⟩ := ih (by omega)
    unfold rwFs
    by_cases hm : k ∈ (rwFs T n k).flatten
    · rw [if_pos hm]; exact ⟨h1, h2⟩
    · rw [if_neg hm, List.flatten_append, List.flatten_singleton]
      exact rwWalk_nd hT _ _ _ h1 h2 (by omega)
theorem rwFc_nd {R : Rw} (ok : rwOk R) : (rwFc R).flatten.Nodup ∧ (∀ x, x ∈ (rwFc R).flatten → x < 2 * (rwP R).length) := rwFs_nd (fun w hw => rwT_lt ok hw) _ (Nat.le_refl _)
theorem rwFs_len (T : Nat → Nat) (n : Nat) : ∀ k, (rwFs T n k).length ≤ k := by
  intro k
  induction k with
  | zero => exact Nat.le_refl _
  | succ k ih =>
    unfold rwFs
    split
    · omega
    · rw [List.length_append]; simp; omega
theorem rwFc_len (R : Rw) : (rwFc R).length ≤ 2 * (rwP R).length := rwFs_len _ _ _
/-- a walk goes from way to way -/
theorem rwWalk_at {T : Nat → Nat} : ∀ (f : Nat) (seen : List Nat) (w : Nat), (∀ i, i + 1 < (rwWalk T seen f w).length → (rwWalk T seen f w).getD (i + 1) 0 = T ((rwWalk T seen f w).getD i 0)) ∧ (0 < (rwWalk T seen f w).length → (rwWalk T seen f w).getD 0 0 = w) := by
  intro f
  induction f with
  | zero => intro seen w; unfold rwWalk; exact ⟨fun i hi => by simp at hi, fun h => by simp at h⟩
  | succ f ih =>
    intro seen w
    unfold rwWalk
    by_cases hw : w ∈ seen
    · rw [if_pos hw]; exact ⟨fun i hi => by simp at hi, fun h => by simp at h⟩
    · rw [if_neg hw]
      refine ⟨fun i hi => ?_, fun _ => rfl⟩
      rw [gd_cons]
      rw [List.length_cons] at hi
      cases i with
      | zero => rw [gd_cons0]; exact (ih _ _).2 (by omega)
      | succ i => rw [gd_cons]; exact (ih _ _).1 i (by omega)
theorem rwFs_at {T : Nat → Nat} {n : Nat} : ∀ k, ∀ f, f ∈ rwFs T n k → ∀ i, i + 1 < f.length → f.getD (i + 1) 0 = T (f.getD i 0) := by
  intro k
  induction k with
  | zero => intro f hf; cases hf
  | succ k ih =>
    intro f hf
    unfold rwFs at hf
    split at hf
    · exact ih f hf
    · rcases List.mem_append.mp hf with h | h
      · exact ih f h
      · rw [List.mem_singleton.mp h]; exact (rwWalk_at _ _ _).1
theorem rwFs_pos {T : Nat → Nat} {n : Nat} (hT : ∀ w, w < n → T w < n) : ∀ k, k ≤ n → ∀ f, f ∈ rwFs T n k → 0 < f.length := by
  intro k
  induction k with
  | zero => intro _ f hf; cases hf
  | succ k ih =>
    intro hk f hf
    unfold rwFs at hf
    split at hf
    · exact ih (by omega) f hf
    · rename_i hm
      rcases List.mem_append.mp hf with h | h
      · exact ih (by omega) f h
      · rw [List.mem_singleton.mp h]
        have h1 := rwFs_nd hT k (by omega)
        have h2 : (rwFs T n k).flatten.length < n := by
          have := nodup_le n (k :: (rwFs T n k).flatten) (List.nodup_cons.mpr ⟨hm, h1.1⟩) (fun x hx => by
            rcases List.mem_cons.mp hx with e | e
            · subst e; exact hk
            · exact h1.2 x e)
          rw [List.length_cons] at this
          omega
        obtain ⟨m, hm2⟩ : ∃ m, n - (rwFs T n k).flatten.length = m + 1 := ⟨n - (rwFs T n k).flatten.length - 1, by omega⟩
        rw [hm2]
        unfold rwWalk
        rw [if_neg hm]
        simp
/-- the faces as rows of ways -/
def rwV (R : Rw) : Rw := (rwFc R, [])
theorem rwV_pos {R : Rw} (ok : rwOk R) {f : Nat} (hf : f < (rwFc R).length) : 0 < rwL (rwV R) f := rwFs_pos (fun w hw => rwT_lt ok hw) _ (Nat.le_refl _) _ (gd_mem hf)
theorem rwV_at {R : Rw} {f i : Nat} (hf : f < (rwFc R).length) (hi : i + 1 < rwL (rwV R) f) : (rwR (rwV R) f).getD (i + 1) 0 = rwT R ((rwR (rwV R) f).getD i 0) := rwFs_at _ _ (gd_mem hf) i hi
theorem rwV_lt {R : Rw} (ok : rwOk R) {f i : Nat} (hf : f < (rwFc R).length) (hi : i < rwL (rwV R) f) : (rwR (rwV R) f).getD i 0 < 2 * (rwP R).length := by
  refine (rwFc_nd ok).2 _ ?_
  refine List.mem_flatten.mpr ⟨rwR (rwV R) f, gd_mem hf, gd_mem hi⟩
theorem rwV_len {R : Rw} (ok : rwOk R) : (rwP (rwV R)).length ≤ 2 * (rwP R).length := nodup_le _ _ (rwFc_nd ok).1 (rwFc_nd ok).2

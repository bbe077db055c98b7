/-! words of a braid, all signs plus -/
def fW : List Nat → Nat → Nat → List Nat × Nat
  | [], _, x => ([], x)
  | l :: t, c, x => cond (Nat.beq x l) (f1 (fd c) :: (fW t (f1 c) (f1 x)).1, (fW t (f1 c) (f1 x)).2) (cond (Nat.beq x (f1 l)) (fd c :: (fW t (f1 c) l).1, (fW t (f1 c) l).2) (fW t (f1 c) x))
def fG (ws : List Nat) : Nat → Nat → Nat → List Nat × Nat
  | 0, g, _ => ([], g)
  | f + 1, g, x => cond (fb g x) ([], g) ((fW ws (nat_lit 0) x).1 ++ (fG ws f (Nat.lor g (Nat.pow (nat_lit 2) x)) (fW ws (nat_lit 0) x).2).1, (fG ws f (Nat.lor g (Nat.pow (nat_lit 2) x)) (fW ws (nat_lit 0) x).2).2)
def fR (ws : List Nat) (s : Nat) : Nat → List (List Nat) × Nat
  | 0 => ([], nat_lit 0)
  | p + 1 => cond (fb (fR ws s p).2 p) (fR ws s p) ((fR ws s p).1 ++ [(fG ws s (fR ws s p).2 p).1], (fG ws s (fR ws s p).2 p).2)
def chkW (s : Nat) (w : List Nat) : Bool := chkR (fR w s s).1 w.length
def allW (s : Nat) : Nat → List Nat → Bool
  | 0, w => chkW s w
  | k + 1, w => (List.range (s - 1)).all (fun x => allW s k (x :: w))
theorem fW_cons (l : Nat) (t : List Nat) (c x : Nat) : fW (l :: t) c x = if x = l then ((2 * c + 1) :: (fW t (c + 1) (x + 1)).1, (fW t (c + 1) (x + 1)).2) else if x = l + 1 then ((2 * c) :: (fW t (c + 1) l).1, (fW t (c + 1) l).2) else fW t (c + 1) x := by
  show cond (Nat.beq x l) _ (cond (Nat.beq x (l + 1)) _ _) = _
  rw [cond_if (p := x = l) nbeq, cond_if (p := x = l + 1) nbeq]
  rfl
/-- one letter more at the end -/
theorem fW_snoc : ∀ (ws : List Nat) (l c x : Nat), fW (ws ++ [l]) c x = ((fW ws c x).1 ++ (if (fW ws c x).2 = l then [2 * (c + ws.length) + 1] else if (fW ws c x).2 = l + 1 then [2 * (c + ws.length)] else []), if (fW ws c x).2 = l then (fW ws c x).2 + 1 else if (fW ws c x).2 = l + 1 then (fW ws c x).2 - 1 else (fW ws c x).2) := by
  intro ws
  induction ws with
  | nil =>
    intro l c x
    show fW [l] c x = _
    rw [fW_cons]
    have e : ∀ c x, fW [] c x = ([], x) := fun _ _ => rfl
    simp only [e]
    by_cases a : x = l
    · rw [if_pos a, if_pos a, if_pos a]; rfl
    · rw [if_neg a, if_neg a, if_neg a]
      by_cases b : x = l + 1
      · rw [if_pos b, if_pos b, if_pos b, b]; rfl
      · rw [if_neg b, if_neg b, if_neg b]; rfl
  | cons v t ih =>
    intro l c x
    have e : (v :: t) ++ [l] = v :: (t ++ [l]) := rfl
    have el : c + (v :: t).length = c + 1 + t.length := by rw [List.length_cons]; omega
    rw [e, fW_cons, fW_cons, el]
    by_cases a : x = v
    · rw [if_pos a, if_pos a, ih]; rfl
    · rw [if_neg a, if_neg a]
      by_cases b : x = v + 1
      · rw [if_pos b, if_pos b, ih]; rfl
      · rw [if_neg b, if_neg b, ih]
theorem fW_take {a : Nat → Nat} {ws : List Nat} (x : Nat) : ∀ m, m ≤ ws.length → (∀ c, c < m → ws.getD c 0 = a c) → fW (ws.take m) 0 x = (brL a (fun _ => 1) m x, brX a m x) := by
  intro m
  induction m with
  | zero => intro _ _; rfl
  | succ m ih =>
    intro hm h
    rw [take_gd 0 hm, fW_snoc, ih (by omega) (fun c hc => h c (by omega)), h m (by omega)]
    have lt : (ws.take m).length = m := by rw [List.length_take]; omega
    rw [lt, Nat.zero_add]
    dsimp only
    show _ = (brL a (fun _ => 1) m x ++ brO a (fun _ => 1) m (brX a m x), brT a m (brX a m x))
    unfold brO brT
    by_cases q : brX a m x = a m
    · simp only [if_pos q]
    · simp only [if_neg q]
      by_cases q2 : brX a m x = a m + 1
      · simp only [if_pos q2]; rfl
      · simp only [if_neg q2]
theorem fR_br {a : Nat → Nat} {ws : List Nat} {s : Nat} (h : ∀ c, c < ws.length → ws.getD c 0 = a c) : ∀ p, fR ws s p = brR a (fun _ => 1) ws.length s p := by
  have hW : ∀ x, fW ws 0 x = (brL a (fun _ => 1) ws.length x, brX a ws.length x) := fun x => by
    have := fW_take (a := a) x ws.length (Nat.le_refl _) h
    rw [List.take_length] at this
    exact this
  have hG : ∀ f g x, fG ws f g x = brG a (fun _ => 1) ws.length f g x := by
    intro f
    induction f with
    | zero => intro g x; rfl
    | succ f ih =>
      intro g x
      have e : fG ws (f + 1) g x = if g / 2 ^ x % 2 = 1 then ([], g) else ((fW ws 0 x).1 ++ (fG ws f (g ||| 2 ^ x) (fW ws 0 x).2).1, (fG ws f (g ||| 2 ^ x) (fW ws 0 x).2).2) := cond_if (fb_iff g x)
      rw [e, hW, ih]
      rfl
  intro p
  induction p with
  | zero => rfl
  | succ p ih =>
    have e : fR ws s (p + 1) = if (fR ws s p).2 / 2 ^ p % 2 = 1 then fR ws s p else ((fR ws s p).1 ++ [(fG ws s (fR ws s p).2 p).1], (fG ws s (fR ws s p).2 p).2) := cond_if (fb_iff _ p)
    rw [e, brR_s, ih, hG]
theorem allW_ok {s : Nat} : ∀ k (w u : List Nat), allW s k w = true → u.length = k → (∀ x, x ∈ u → x < s - 1) → chkW s (u ++ w) = true := by
  intro k
  induction k with
  | zero =>
    intro w u h hu _
    rw [List.eq_nil_of_length_eq_zero hu]
    exact h
  | succ k ih =>
    intro w u h hu hx
    have h' : (List.range (s - 1)).all (fun x => allW s k (x :: w)) = true := h
    rcases List.eq_nil_or_concat u with e | ⟨u', x, e⟩
    · rw [e] at hu; exact absurd hu (by simp)
    · rw [List.concat_eq_append] at e
      subst e
      have hx' := hx x (by simp)
      have := ih (x :: w) u' (List.all_eq_true.mp h' x (List.mem_range.mpr hx')) (by simpa using hu) (fun y hy => hx y (by simp [hy]))
      rw [List.append_assoc]
      exact this
/-! other letters' signs: a turn of these rows -/
def brM (b : Nat → Nat) : Nat → Nat
  | 0 => 0
  | n + 1 => brM b n ||| (if b n = 1 then 0 else 2 ^ n)
theorem brM_bit {b : Nat → Nat} : ∀ n c, brM b n / 2 ^ c % 2 = 1 ↔ (c < n ∧ b c ≠ 1) := by
  intro n
  induction n with
  | zero => intro c; show 0 / 2 ^ c % 2 = 1 ↔ _; rw [Nat.zero_div]; exact ⟨fun z => absurd z (by decide), fun z => absurd z.1 (Nat.not_lt_zero _)⟩
  | succ n ih =>
    intro c
    show (brM b n ||| (if b n = 1 then 0 else 2 ^ n)) / 2 ^ c % 2 = 1 ↔ _
    rw [bit_or, ih c]
    by_cases q : b n = 1
    · rw [if_pos q, Nat.zero_div]
      constructor
      · rintro (z | z)
        · exact ⟨by omega, z.2⟩
        · exact absurd z (by decide)
      · rintro ⟨z1, z2⟩
        by_cases e : c = n
        · rw [e] at z2; exact absurd q z2
        · exact Or.inl ⟨by omega, z2⟩
    · rw [if_neg q, bit_pow]
      constructor
      · rintro (z | z)
        · exact ⟨by omega, z.2⟩
        · have e : c = n := by
            apply Decidable.byContradiction
            intro y
            rw [if_neg y] at z
            exact absurd z (by decide)
          rw [e]; exact ⟨by omega, q⟩
      · rintro ⟨z1, z2⟩
        by_cases e : c = n
        · right; rw [if_pos e]
        · exact Or.inl ⟨by omega, z2⟩
section BRT
variable {a b : Nat → Nat} {n s : Nat}
theorem turnP_bit {m c o : Nat} (ho : o < 2) (hm : m / 2 ^ c % 2 < 2) : rwTurnP m (2 * c + o) = 2 * c + (if m / 2 ^ c % 2 = 1 then 1 - o else o) := by
  have e : (2 * c + o) / 2 = c := by omega
  rcases rwTurnP_cases m (2 * c + o) with ⟨x, y⟩ | ⟨x, y, z⟩
  · rw [e] at y
    rw [x, if_neg (by omega)]
  · rw [e] at x y
    rw [if_pos x]
    omega
theorem brL_turn (hb : ∀ c, c < n → b c ≤ 1) (x : Nat) : ∀ m, m ≤ n → brL a b m x = (brL a (fun _ => 1) m x).map (rwTurnP (brM b n)) := by
  intro m
  induction m with
  | zero => intro _; rfl
  | succ m ih =>
    intro hm
    show brL a b m x ++ brO a b m (brX a m x) = (brL a (fun _ => 1) m x ++ brO a (fun _ => 1) m (brX a m x)).map _
    rw [List.map_append, ih (by omega)]
    congr 1
    have bm := brM_bit (b := b) n m
    have hbm := hb m (by omega)
    have l2 : brM b n / 2 ^ m % 2 < 2 := Nat.mod_lt _ (by decide)
    unfold brO
    by_cases q : brX a m x = a m
    · rw [if_pos q, if_pos q, List.map_cons, List.map_nil, turnP_bit (o := 1) (show 1 < 2 by decide) l2]
      by_cases z : b m = 1
      · rw [if_neg (fun y => (bm.mp y).2 z), z]
      · rw [if_pos (bm.mpr ⟨by omega, z⟩), show b m = 0 by omega]
    · rw [if_neg q, if_neg q]
      by_cases q2 : brX a m x = a m + 1
      · rw [if_pos q2, if_pos q2, List.map_cons, List.map_nil, turnP_bit (o := 1 - 1) (show 1 - 1 < 2 by decide) l2]
        by_cases z : b m = 1
        · rw [if_neg (fun y => (bm.mp y).2 z), z]
        · rw [if_pos (bm.mpr ⟨by omega, z⟩), show b m = 0 by omega]
      · rw [if_neg q2, if_neg q2]; rfl
theorem brG_turn (hb : ∀ c, c < n → b c ≤ 1) : ∀ f g x, (brG a b n f g x).1 = (brG a (fun _ => 1) n f g x).1.map (rwTurnP (brM b n)) ∧ (brG a b n f g x).2 = (brG a (fun _ => 1) n f g x).2 := by
  intro f
  induction f with
  | zero => intro g x; exact ⟨rfl, rfl⟩
  | succ f ih =>
    intro g x
    unfold brG
    split
    · exact ⟨rfl, rfl⟩
    · obtain ⟨u, v⟩ := ih (g ||| 2 ^ x) (brX a n x)
      dsimp only
      rw [u, v, brL_turn hb x n (Nat.le_refl _), List.map_append]
      exact ⟨rfl, rfl⟩
theorem brR_turn (hb : ∀ c, c < n → b c ≤ 1) : ∀ p, (brR a b n s p).1 = (brR a (fun _ => 1) n s p).1.map (fun l => l.map (rwTurnP (brM b n))) ∧ (brR a b n s p).2 = (brR a (fun _ => 1) n s p).2 := by
  intro p
  induction p with
  | zero => exact ⟨rfl, rfl⟩
  | succ p ih =>
    obtain ⟨u, v⟩ := ih
    rw [brR_s, brR_s, v]
    split
    · exact ⟨u, v⟩
    · obtain ⟨x, y⟩ := brG_turn (a := a) hb s (brR a (fun _ => 1) n s p).2 p
      dsimp only
      rw [u, x, y, List.map_append]
      exact ⟨rfl, rfl⟩
theorem brRw_turn (hb : ∀ c, c < n → b c ≤ 1) : brRw a b n s = rwTurn (brM b n) (brRw a (fun _ => 1) n s) := by
  have en : rwn (brRw a (fun _ => 1) n s) = n := by show ((List.range n).map _).length = n; rw [List.length_map, List.length_range]
  refine Prod.ext (brR_turn hb s).1 ?_
  show (List.range n).map (fun c => if b c = 1 then (1 : Int) else -1) = (List.range (rwn (brRw a (fun _ => 1) n s))).map _
  rw [en]
  refine List.map_congr_left (fun c hc => ?_)
  have hc := List.mem_range.mp hc
  have e1 : (brRw a (fun _ => 1) n s).2.getD c 0 = 1 := gd_rmap hc
  rw [e1]
  by_cases z : b c = 1
  · rw [if_pos z, if_neg (fun y => ((brM_bit n c).mp y).2 z)]
  · rw [if_neg z, if_pos ((brM_bit n c).mpr ⟨hc, z⟩)]
end BRT

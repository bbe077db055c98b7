/-! a quick check of rows, all signs plus: tables packed into numbers -/
def fg (t i : Nat) : Nat := Nat.mod (Nat.div t (Nat.pow (nat_lit 64) i)) (nat_lit 64)
def fb (s w : Nat) : Bool := Nat.beq (Nat.mod (Nat.div s (Nat.pow (nat_lit 2) w)) (nat_lit 2)) (nat_lit 1)
def fo (v : Nat) : Bool := Nat.beq (Nat.mod v (nat_lit 2)) (nat_lit 1)
def fd (x : Nat) : Nat := Nat.mul (nat_lit 2) x
def f1 (x : Nat) : Nat := Nat.add x (nat_lit 1)
def tbM : List Nat → Nat
  | [] => nat_lit 0
  | v :: t => Nat.add v (Nat.mul (nat_lit 64) (tbM t))
def tbW : List Nat → Nat → Nat
  | [], _ => nat_lit 0
  | v :: t, i => Nat.add (Nat.mul i (Nat.pow (nat_lit 64) v)) (tbW t (f1 i))
def upL (a : Nat) : Nat → List Nat
  | 0 => []
  | k + 1 => a :: upL (f1 a) k
def nxM : List (List Nat) → Nat → List Nat
  | [], _ => []
  | [] :: t, f => nxM t f
  | (_ :: l) :: t, f => upL (f1 f) l.length ++ (f :: nxM t (Nat.add f (f1 l.length)))
def ahM : List (List Nat) → Nat → List Nat
  | [], _ => []
  | [] :: t, f => ahM t f
  | (_ :: l) :: t, f => Nat.add f l.length :: (upL f l.length ++ ahM t (Nat.add f (f1 l.length)))
def chV (tV : Nat) : List Nat → Nat → Bool
  | [], _ => true
  | v :: t, i => cond (Nat.beq (fg tV v) i) (chV tV t (f1 i)) false
def fTd (tA tV v : Nat) : Nat := cond (fo v) (f1 (fd (fg tA (fg tV (Nat.sub v (nat_lit 1)))))) (fd (fg tV (f1 v)))
def fTu (tA tV v : Nat) : Nat := cond (fo v) (fd (fg tV (Nat.sub v (nat_lit 1)))) (f1 (fd (fg tA (fg tV (f1 v)))))
def fT (tP tX tA tV w : Nat) : Nat := cond (fo w) (fTu tA tV (fg tP (Nat.div w (nat_lit 2)))) (fTd tA tV (fg tP (fg tX (Nat.div w (nat_lit 2)))))
def fK (T : Nat → Nat) : Nat → Nat → Nat → Nat × Nat
  | 0, s, _ => (s, nat_lit 0)
  | r + 1, s, w => cond (fb s w) (s, f1 r) (fK T r (Nat.lor s (Nat.pow (nat_lit 2) w)) (T w))
def fC (T : Nat → Nat) (n : Nat) : Nat → (Nat × Nat) × Nat
  | 0 => ((nat_lit 0, n), nat_lit 0)
  | k + 1 => cond (fb (fC T n k).1.1 k) (fC T n k) (fK T (fC T n k).1.2 (fC T n k).1.1 k, f1 (fC T n k).2)
def tab (f : Nat → Nat) : Nat → Nat
  | 0 => nat_lit 0
  | k + 1 => Nat.add (tab f k) (Nat.mul (f k) (Nat.pow (nat_lit 64) k))
def fU (n tP tX : Nat) : Nat → Nat × Nat
  | 0 => (tab (fun k => k) n, n)
  | k + 1 => cond (Nat.beq (fg (fU n tP tX k).1 (Nat.div (fg tP k) (nat_lit 2))) (fg (fU n tP tX k).1 (Nat.div (fg tP (fg tX k)) (nat_lit 2)))) (fU n tP tX k) (tab (fun j => cond (Nat.beq (fg (fU n tP tX k).1 j) (fg (fU n tP tX k).1 (Nat.div (fg tP k) (nat_lit 2)))) (fg (fU n tP tX k).1 (Nat.div (fg tP (fg tX k)) (nat_lit 2))) (fg (fU n tP tX k).1 j)) n, Nat.sub (fU n tP tX k).2 (nat_lit 1))
def chkR (rs : List (List Nat)) (n : Nat) : Bool := cond (rs.flatten.isPerm (List.range (fd n))) (cond (Nat.ble rs.length (nat_lit 4)) (cond (chV (tbW rs.flatten (nat_lit 0)) rs.flatten (nat_lit 0)) (Nat.beq (fC (fT (tbM rs.flatten) (tbM (nxM rs (nat_lit 0))) (tbM (ahM rs (nat_lit 0))) (tbW rs.flatten (nat_lit 0))) (Nat.mul (nat_lit 4) n) (Nat.mul (nat_lit 4) n)).2 (Nat.add n (fd (fU n (tbM rs.flatten) (tbM (nxM rs (nat_lit 0))) (fd n)).2))) false) false) false
/-! what the tables hold -/
theorem cond_if {α : Type} {b : Bool} {p : Prop} [Decidable p] {x y : α} (h : b = true ↔ p) : cond b x y = if p then x else y := by
  cases b with
  | true => rw [if_pos (h.mp rfl)]; rfl
  | false => rw [if_neg (fun q => Bool.noConfusion (h.mpr q))]; rfl
theorem fg_eq (t i : Nat) : fg t i = t / 64 ^ i % 64 := rfl
theorem nbeq {x y : Nat} : Nat.beq x y = true ↔ x = y := ⟨Nat.eq_of_beq_eq_true, fun h => by subst h; exact Nat.beq_refl x⟩
theorem fb_iff (s w : Nat) : fb s w = true ↔ s / 2 ^ w % 2 = 1 := nbeq
theorem fo_iff (v : Nat) : fo v = true ↔ v % 2 = 1 := nbeq
theorem tbM_get : ∀ (l : List Nat) (i : Nat), (∀ x, x ∈ l → x < 64) → i < l.length → fg (tbM l) i = l.getD i 0 := by
  intro l
  induction l with
  | nil => intro i _ h; exact absurd h (Nat.not_lt_zero _)
  | cons v t ih =>
    intro i hl hi
    have e : tbM (v :: t) = v + 64 * tbM t := rfl
    have hv := hl v (by simp)
    rw [fg_eq, e]
    cases i with
    | zero => rw [Nat.pow_zero, Nat.div_one, gd_cons0]; omega
    | succ i =>
      have q := ih i (fun x hx => hl x (List.mem_cons_of_mem _ hx)) (by simpa using hi)
      rw [fg_eq] at q
      rw [gd_cons, ← q, Nat.pow_succ, Nat.mul_comm (64 ^ i) 64, ← Nat.div_div_eq_div_mul]
      have : (v + 64 * tbM t) / 64 = tbM t := by omega
      rw [this]
theorem tab_lt {f : Nat → Nat} : ∀ n, (∀ k, k < n → f k < 64) → tab f n < 64 ^ n := by
  intro n
  induction n with
  | zero => intro _; show 0 < 1; decide
  | succ n ih =>
    intro h
    have a := ih (fun k hk => h k (by omega))
    have b := h n (by omega)
    have e : tab f (n + 1) = tab f n + f n * 64 ^ n := rfl
    rw [e, Nat.pow_succ]
    have : f n * 64 ^ n ≤ 63 * 64 ^ n := Nat.mul_le_mul_right _ (by omega)
    omega
theorem tab_get {f : Nat → Nat} : ∀ n, (∀ k, k < n → f k < 64) → ∀ k, k < n → fg (tab f n) k = f k := by
  intro n
  induction n with
  | zero => intro _ k h; exact absurd h (Nat.not_lt_zero _)
  | succ n ih =>
    intro h k hk
    have e : tab f (n + 1) = tab f n + f n * 64 ^ n := rfl
    have lt := tab_lt n (fun k hk => h k (by omega))
    rw [fg_eq, e]
    by_cases q : k = n
    · subst q
      rw [Nat.add_mul_div_right _ _ (Nat.pow_pos (by decide)), Nat.div_eq_of_lt lt, Nat.zero_add]
      exact Nat.mod_eq_of_lt (h k (by omega))
    · have g := ih (fun k hk => h k (by omega)) k (by omega)
      rw [fg_eq] at g
      have e2 : f n * 64 ^ n = 64 ^ k * (64 * (f n * 64 ^ (n - k - 1))) := by
        have : (64 : Nat) ^ n = 64 ^ k * (64 * 64 ^ (n - k - 1)) := by
          rw [← Nat.mul_assoc, ← Nat.pow_succ, ← Nat.pow_add]
          congr 1
          omega
        rw [this]
        rw [← Nat.mul_assoc, Nat.mul_comm (f n), Nat.mul_assoc]
        congr 1
        rw [← Nat.mul_assoc, Nat.mul_comm (f n), Nat.mul_assoc]
      rw [e2, Nat.add_mul_div_left _ _ (Nat.pow_pos (by decide)), Nat.add_mul_mod_self_left]
      exact g
theorem upL_len : ∀ k a, (upL a k).length = k := by
  intro k
  induction k with
  | zero => intro a; rfl
  | succ k ih => intro a; show (upL (a + 1) k).length + 1 = k + 1; rw [ih]
theorem upL_get : ∀ k a i, i < k → (upL a k).getD i 0 = a + i := by
  intro k
  induction k with
  | zero => intro a i h; exact absurd h (Nat.not_lt_zero _)
  | succ k ih =>
    intro a i h
    have e : upL a (k + 1) = a :: upL (a + 1) k := rfl
    rw [e]
    cases i with
    | zero => rw [gd_cons0]; rfl
    | succ i => rw [gd_cons, ih (a + 1) i (by omega)]; omega
theorem nxM_len : ∀ (rs : List (List Nat)) (f : Nat), (nxM rs f).length = rs.flatten.length := by
  intro rs
  induction rs with
  | nil => intro f; rfl
  | cons l t ih =>
    intro f
    cases l with
    | nil =>
      show (nxM t f).length = _
      rw [ih]; simp
    | cons v l =>
      show (upL (f + 1) l.length ++ (f :: nxM t (f + (l.length + 1)))).length = _
      rw [List.length_append, upL_len, List.length_cons, ih, List.flatten_cons, List.length_append, List.length_cons]
      omega
theorem ahM_len : ∀ (rs : List (List Nat)) (f : Nat), (ahM rs f).length = rs.flatten.length := by
  intro rs
  induction rs with
  | nil => intro f; rfl
  | cons l t ih =>
    intro f
    cases l with
    | nil =>
      show (ahM t f).length = _
      rw [ih]; simp
    | cons v l =>
      show ((f + l.length) :: (upL f l.length ++ ahM t (f + (l.length + 1)))).length = _
      rw [List.length_cons, List.length_append, upL_len, ih, List.flatten_cons, List.length_append, List.length_cons]
      omega
theorem nxM_get : ∀ (rs : List (List Nat)) (f i j : Nat), i < rs.length → j < (rs.getD i []).length → (nxM rs f).getD ((rs.take i).flatten.length + j) 0 = f + (rs.take i).flatten.length + (if j + 1 < (rs.getD i []).length then j + 1 else 0) := by
  intro rs
  induction rs with
  | nil => intro f i j h; exact absurd h (Nat.not_lt_zero _)
  | cons l t ih =>
    intro f i j hi hj
    cases l with
    | nil =>
      have e : nxM ([] :: t) f = nxM t f := rfl
      rw [e]
      cases i with
      | zero => exact absurd hj (Nat.not_lt_zero _)
      | succ i =>
        rw [gd_cons] at hj ⊢
        have := ih f i j (by simpa using hi) hj
        have e2 : (([] :: t).take (i + 1)).flatten.length = (t.take i).flatten.length := by simp
        rw [e2]; exact this
    | cons v l =>
      have e : nxM ((v :: l) :: t) f = upL (f + 1) l.length ++ (f :: nxM t (f + (l.length + 1))) := rfl
      rw [e]
      cases i with
      | zero =>
        rw [gd_cons0] at hj ⊢
        rw [List.length_cons] at hj ⊢
        have e2 : (((v :: l) :: t).take 0).flatten.length = 0 := rfl
        rw [e2, Nat.zero_add]
        by_cases q : j < l.length
        · rw [gd_appl (by rw [upL_len]; exact q), upL_get _ _ _ q, if_pos (by omega)]; omega
        · rw [gd_appr (by rw [upL_len]; omega), upL_len, show j - l.length = 0 by omega, gd_cons0, if_neg (by omega)]; rfl
      | succ i =>
        rw [gd_cons] at hj ⊢
        have := ih (f + (l.length + 1)) i j (by simpa using hi) hj
        have e2 : (((v :: l) :: t).take (i + 1)).flatten.length = (l.length + 1) + (t.take i).flatten.length := by simp; omega
        rw [e2, gd_appr (by rw [upL_len]; omega), upL_len, show l.length + 1 + (t.take i).flatten.length + j - l.length = (t.take i).flatten.length + j + 1 by omega, gd_cons, this]
        omega
theorem ahM_get : ∀ (rs : List (List Nat)) (f i j : Nat), i < rs.length → j < (rs.getD i []).length → (ahM rs f).getD ((rs.take i).flatten.length + j) 0 = f + (rs.take i).flatten.length + (if j = 0 then (rs.getD i []).length - 1 else j - 1) := by
  intro rs
  induction rs with
  | nil => intro f i j h; exact absurd h (Nat.not_lt_zero _)
  | cons l t ih =>
    intro f i j hi hj
    cases l with
    | nil =>
      have e : ahM ([] :: t) f = ahM t f := rfl
      rw [e]
      cases i with
      | zero => exact absurd hj (Nat.not_lt_zero _)
      | succ i =>
        rw [gd_cons] at hj ⊢
        have := ih f i j (by simpa using hi) hj
        have e2 : (([] :: t).take (i + 1)).flatten.length = (t.take i).flatten.length := by simp
        rw [e2]; exact this
    | cons v l =>
      have e : ahM ((v :: l) :: t) f = (f + l.length) :: (upL f l.length ++ ahM t (f + (l.length + 1))) := rfl
      rw [e]
      cases i with
      | zero =>
        rw [gd_cons0] at hj ⊢
        rw [List.length_cons] at hj ⊢
        have e2 : (((v :: l) :: t).take 0).flatten.length = 0 := rfl
        rw [e2, Nat.zero_add]
        cases j with
        | zero => rw [gd_cons0, if_pos rfl]; omega
        | succ j => rw [gd_cons, gd_appl (by rw [upL_len]; omega), upL_get _ _ _ (by omega), if_neg (by omega)]; omega
      | succ i =>
        rw [gd_cons] at hj ⊢
        have := ih (f + (l.length + 1)) i j (by simpa using hi) hj
        have e2 : (((v :: l) :: t).take (i + 1)).flatten.length = (l.length + 1) + (t.take i).flatten.length := by simp; omega
        rw [e2, show l.length + 1 + (t.take i).flatten.length + j = l.length + (t.take i).flatten.length + j + 1 by omega, gd_cons, gd_appr (by rw [upL_len]; omega), upL_len, show l.length + (t.take i).flatten.length + j - l.length = (t.take i).flatten.length + j by omega, this]
        omega
theorem chV_get {tV : Nat} : ∀ (l : List Nat) (i : Nat), chV tV l i = true → ∀ j, j < l.length → fg tV (l.getD j 0) = i + j := by
  intro l
  induction l with
  | nil => intro i _ j h; exact absurd h (Nat.not_lt_zero _)
  | cons v t ih =>
    intro i h j hj
    have h' : cond (Nat.beq (fg tV v) i) (chV tV t (i + 1)) false = true := h
    cases hb : Nat.beq (fg tV v) i with
    | false => rw [hb] at h'; exact Bool.noConfusion h'
    | true =>
      rw [hb] at h'
      cases j with
      | zero => rw [gd_cons0]; exact Nat.eq_of_beq_eq_true hb
      | succ j => rw [gd_cons, ih (i + 1) h' j (by simpa using hj)]; omega
/-! cycles counted by a mask -/
theorem fK_walk {T T' : Nat → Nat} {N : Nat} (hT : ∀ w, w < N → T w < N ∧ T' w = T w) : ∀ (r s : Nat) (seen : List Nat) (w : Nat), w < N → (∀ x, x < N → (s / 2 ^ x % 2 = 1 ↔ x ∈ seen)) → (fK T' r s w).2 = r - (rwWalk T seen r w).length ∧ (rwWalk T seen r w).length ≤ r ∧ ∀ x, x < N → ((fK T' r s w).1 / 2 ^ x % 2 = 1 ↔ x ∈ seen ++ rwWalk T seen r w) := by
  intro r
  induction r with
  | zero => intro s seen w _ h; exact ⟨rfl, Nat.le_refl _, fun x hx => by unfold rwWalk; rw [List.append_nil]; exact h x hx⟩
  | succ r ih =>
    intro s seen w hw h
    have e : fK T' (r + 1) s w = if s / 2 ^ w % 2 = 1 then (s, r + 1) else fK T' r (s ||| 2 ^ w) (T' w) := cond_if (fb_iff s w)
    rw [e]
    unfold rwWalk
    by_cases q : s / 2 ^ w % 2 = 1
    · rw [if_pos q, if_pos ((h w hw).mp q)]
      exact ⟨rfl, Nat.zero_le _, fun x hx => by rw [List.append_nil]; exact h x hx⟩
    · rw [if_neg q, if_neg (fun z => q ((h w hw).mpr z))]
      rw [(hT w hw).2]
      obtain ⟨a, b, c⟩ := ih (s ||| 2 ^ w) (seen ++ [w]) (T w) (hT w hw).1 (fun x hx => by
        rw [bit_or, bit_pow, h x hx, List.mem_append, List.mem_singleton]
        constructor
        · rintro (z | z)
          · exact Or.inl z
          · right
            apply Decidable.byContradiction
            intro n
            rw [if_neg n] at z
            exact absurd z (by decide)
        · rintro (z | z)
          · exact Or.inl z
          · right; rw [if_pos z])
      refine ⟨by rw [a, List.length_cons]; omega, by rw [List.length_cons]; omega, fun x hx => ?_⟩
      rw [c x hx, List.append_assoc]; rfl
theorem fC_faces {T T' : Nat → Nat} {N : Nat} (hT : ∀ w, w < N → T w < N ∧ T' w = T w) : ∀ k, k ≤ N → (fC T' N k).2 = (rwFs T N k).length ∧ (fC T' N k).1.2 = N - (rwFs T N k).flatten.length ∧ ∀ x, x < N → ((fC T' N k).1.1 / 2 ^ x % 2 = 1 ↔ x ∈ (rwFs T N k).flatten) := by
  intro k
  induction k with
  | zero =>
    intro _
    refine ⟨rfl, rfl, fun x hx => ?_⟩
    have e0 : (fC T' N 0).1.1 = 0 := rfl
    rw [e0, Nat.zero_div]
    exact ⟨fun z => absurd z (by decide), fun z => absurd z (by simp [rwFs])⟩
  | succ k ih =>
    intro hk
    obtain ⟨a, b, c⟩ := ih (by omega)
    have e : fC T' N (k + 1) = if (fC T' N k).1.1 / 2 ^ k % 2 = 1 then fC T' N k else (fK T' (fC T' N k).1.2 (fC T' N k).1.1 k, (fC T' N k).2 + 1) := cond_if (fb_iff _ k)
    have e2 : rwFs T N (k + 1) = if k ∈ (rwFs T N k).flatten then rwFs T N k else rwFs T N k ++ [rwWalk T (rwFs T N k).flatten (N - (rwFs T N k).flatten.length) k] := rfl
    rw [e, e2]
    by_cases q : k ∈ (rwFs T N k).flatten
    · rw [if_pos ((c k (by omega)).mpr q), if_pos q]
      exact ⟨a, b, c⟩
    · rw [if_neg (fun z => q ((c k (by omega)).mp z)), if_neg q]
      obtain ⟨u, v, w⟩ := fK_walk hT (N - (rwFs T N k).flatten.length) (fC T' N k).1.1 (rwFs T N k).flatten k (by omega) c
      refine ⟨?_, ?_, fun x hx => ?_⟩
      · rw [List.length_append, List.length_singleton, ← a]
      · show (fK T' (fC T' N k).1.2 (fC T' N k).1.1 k).2 = _
        rw [b, u, List.flatten_append, List.length_append]
        simp; omega
      · show (fK T' (fC T' N k).1.2 (fC T' N k).1.1 k).1 / 2 ^ x % 2 = 1 ↔ _
        rw [b, w x hx, List.flatten_append]
        simp

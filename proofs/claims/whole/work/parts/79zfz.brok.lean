section BROK
variable {a b : Nat → Nat} {n s : Nat}
theorem brL_cong {a' : Nat → Nat} {x : Nat} : ∀ m, (∀ c, c < m → a c = a' c) → brL a b m x = brL a' b m x ∧ brX a m x = brX a' m x := by
  intro m
  induction m with
  | zero => intro _; exact ⟨rfl, rfl⟩
  | succ m ih =>
    intro h
    obtain ⟨u, v⟩ := ih (fun c hc => h c (by omega))
    show brL a b m x ++ brO a b m (brX a m x) = brL a' b m x ++ brO a' b m (brX a' m x) ∧ brT a m (brX a m x) = brT a' m (brX a' m x)
    unfold brO brT
    rw [u, v, h m (by omega)]
    exact ⟨rfl, rfl⟩
theorem brRw_cong {a' : Nat → Nat} (h : ∀ c, c < n → a c = a' c) : brRw a b n s = brRw a' b n s := by
  have hG : ∀ f g x, brG a b n f g x = brG a' b n f g x := by
    intro f
    induction f with
    | zero => intro g x; rfl
    | succ f ih =>
      intro g x
      unfold brG
      rw [(brL_cong n h).1, (brL_cong (b := b) n h).2, ih]
  have hR : ∀ p, brR a b n s p = brR a' b n s p := by
    intro p
    induction p with
    | zero => rfl
    | succ p ih => rw [brR_s, brR_s, ih, hG]
  unfold brRw
  rw [hR]
theorem br_ok (s2 : 2 ≤ s) (s4 : s ≤ 4) (hn : n ≤ 8) (ha : ∀ c, c < n → a c + 2 ≤ s) (hb : ∀ c, c < n → b c ≤ 1) : rwOk (brRw a b n s) ∧ rwPl (brRw a b n s) := by
  have aw := aw_all s n s2 s4 hn
  have hl : ((List.range n).map a).length = n := by rw [List.length_map, List.length_range]
  have h1 := allW_ok (s := s) n [] ((List.range n).map a) aw hl (fun x hx => by
    obtain ⟨c, hc, e⟩ := List.mem_map.mp hx
    have := ha c (List.mem_range.mp hc)
    omega)
  rw [List.append_nil] at h1
  unfold chkW at h1
  rw [hl] at h1
  have hr := fR_br (a := a) (ws := (List.range n).map a) (s := s) (fun c hc => by rw [hl] at hc; exact gd_rmap hc) s
  rw [hl] at hr
  rw [hr] at h1
  obtain ⟨ok, pl⟩ := chkR_ok hn h1
  have e : plusR (brR a (fun _ => 1) n s s).1 n = brRw a (fun _ => 1) n s := rfl
  rw [e] at ok pl
  rw [brRw_turn (s := s) (a := a) hb]
  exact ⟨rwTurn_ok ok, rwTurn_pl ok pl⟩
end BROK

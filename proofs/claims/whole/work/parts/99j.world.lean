/-! the world at the law's entry -/
theorem lt4 {p : Nat → Prop} (h0 : p 0) (h1 : p 1) (h2 : p 2) (h3 : p 3) : ∀ i, i < 4 → p i
  | 0, _ => h0
  | 1, _ => h1
  | 2, _ => h2
  | 3, _ => h3
  | n + 4, h => absurd h (by omega)
theorem lt5 {p : Nat → Prop} (h0 : p 0) (h1 : p 1) (h2 : p 2) (h3 : p 3) (h4 : p 4) : ∀ i, i < 5 → p i
  | 0, _ => h0
  | 1, _ => h1
  | 2, _ => h2
  | 3, _ => h3
  | 4, _ => h4
  | n + 5, h => absurd h (by omega)
theorem lt10 {p : Nat → Prop} (h0 : p 0) (h1 : p 1) (h2 : p 2) (h3 : p 3) (h4 : p 4) (h5 : p 5) (h6 : p 6) (h7 : p 7) (h8 : p 8) (h9 : p 9) : ∀ i, i < 10 → p i
  | 0, _ => h0
  | 1, _ => h1
  | 2, _ => h2
  | 3, _ => h3
  | 4, _ => h4
  | 5, _ => h5
  | 6, _ => h6
  | 7, _ => h7
  | 8, _ => h8
  | 9, _ => h9
  | n + 10, h => absurd h (by omega)
def ws_T (i : Nat) : Term := Term.string "KnotRows$Tape" (km_si i)
def ws_V (i : Nat) : Term := Term.field (ws_T i) "java/lang/String" "value" "[B"
section WST
variable {args : Array Value} {s : State}
theorem ws_str (hs : ∀ w ∈ flatC (Jvm.Cond.and given_1 narrow_1), w.before args s = true) : ∃ adK adV : Nat → Nat, vk_S 4 [4, 5, 4, 5] km_txB adK adV (fun q => s.heap.size ≤ q) s s.heap ∧ ∀ i : Nat, i < 4 → (ws_T i).eval args s none [] s = some (.ref (adK i)) := by
  refine vk_Sof (tm := ws_T) (lt4 (by decide) (by decide) (by decide) (by decide)) (lt4 ?_ ?_ ?_ ?_) (lt4 ?_ ?_ ?_ ?_) (lt4 ?_ ?_ ?_ ?_) (lt4 ?_ ?_ ?_ ?_) (lt4 (lt4 ?_ ?_ ?_ ?_) (lt5 ?_ ?_ ?_ ?_ ?_) (lt4 ?_ ?_ ?_ ?_) (lt5 ?_ ?_ ?_ ?_ ?_)) ?_ (fun a h => Nat.not_le.mpr h)
  iterate 34 (first
    | exact hs _ (by decide +kernel)
    | skip)
  intro i j hi hj hij
  have key : ∀ i, i < 4 → ∀ j, j < 4 → i ≠ j → (Cond.not (Cond.eq (ws_T i) (ws_T j))) ∈ flatC (Jvm.Cond.and given_1 narrow_1) ∨ (Cond.not (Cond.eq (ws_T j) (ws_T i))) ∈ flatC (Jvm.Cond.and given_1 narrow_1) := by decide +kernel
  rcases key i hi j hj hij with h | h
  · exact Or.inl (hs _ h)
  · exact Or.inr (hs _ h)
theorem ws_in {w : Cond} (i : Nat) (h : lw_tbl[i]? = some w) : w ∈ lw_tbl := List.mem_of_getElem? h
theorem ws_lay {k : Nat} (hk : k < 10) : ∀ w ∈ u_ws (km_R k) (km_X k) (km_N k), w ∈ lw_tbl := by
  intro w hw
  obtain ⟨j, hj, e⟩ := List.mem_map.mp hw
  subst e
  have h1 := List.all_eq_true.mp km_L_all k (List.mem_range.mpr hk)
  have h2 := List.all_eq_true.mp h1 j hj
  obtain ⟨x, hx, hxe⟩ := List.any_eq_true.mp h2
  rw [Bool.and_eq_true] at hxe
  have e1 := Nat.eq_of_beq_eq_true hxe.1
  have e2 := Nat.eq_of_beq_eq_true hxe.2
  have h3 := List.all_eq_true.mp km_L_ok x hx
  unfold km_okL at h3
  rw [Bool.and_eq_true, e1, e2] at h3
  exact List.mem_of_getElem? (of_decide_eq_true h3.1)
set_option maxRecDepth 100000 in
theorem ws_inst : ∀ k, k < 10 → ∃ n, Cond.instantiable (km_R k) n ∈ lw_tbl := lt10 ⟨3, ws_in 317 (by decide +kernel)⟩ ⟨3, ws_in 338 (by decide +kernel)⟩ ⟨11, ws_in 259 (by decide +kernel)⟩ ⟨3, ws_in 354 (by decide +kernel)⟩ ⟨18, ws_in 152 (by decide +kernel)⟩ ⟨5, ws_in 217 (by decide +kernel)⟩ ⟨2, ws_in 374 (by decide +kernel)⟩ ⟨6, ws_in 121 (by decide +kernel)⟩ ⟨17, ws_in 113 (by decide +kernel)⟩ ⟨52, ws_in 1001 (by decide +kernel)⟩
theorem ws_kn (hts : ∀ w ∈ lw_tbl, w.before args s = true) : ∃ (dC : Nat → ClassId) (dI : Nat → Nat → Nat), ∀ k, k < 10 → u_Kn s (km_R k) (km_X k) (km_N k) (dC k) (dI k) := by
  have h0 : ∀ k : Nat, ∃ q : ClassId × (Nat → Nat), k < 10 → u_Kn s (km_R k) (km_X k) (km_N k) q.1 q.2 := by
    intro k
    by_cases hk : k < 10
    · obtain ⟨n, hn⟩ := ws_inst k hk
      obtain ⟨cC, iS, h⟩ := u_known hts (ws_lay hk) (hts _ hn)
      exact ⟨(cC, iS), fun _ => h⟩
    · obtain ⟨n, hn⟩ := ws_inst 0 (by decide)
      obtain ⟨cC, iS, _⟩ := u_known hts (ws_lay (k := 0) (by decide)) (hts _ hn)
      exact ⟨(cC, iS), fun h => absurd h hk⟩
  obtain ⟨f, hf⟩ := Classical.axiomOfChoice h0
  exact ⟨fun k => (f k).1, fun k => (f k).2, hf⟩
set_option maxRecDepth 100000 in
theorem ws_nw : ∀ w ∈ km_Nw, w ∈ lw_tbl ∧ w.onTables = true := by decide +kernel
set_option maxRecDepth 100000 in
theorem ws_ref : ∀ i, i < 4 → Cond.stringRef RX7 (km_si i) (km_st i) ∈ lw_tbl := lt4 (ws_in 489 (by decide +kernel)) (ws_in 542 (by decide +kernel)) (ws_in 543 (by decide +kernel)) (ws_in 544 (by decide +kernel))
set_option maxRecDepth 100000 in
theorem ws_over : Cond.arrayOver (.object RX2) ∈ lw_tbl ∧ Cond.arrayOver (.object RX5) ∈ lw_tbl ∧ Cond.arrayOver (.array .long) ∈ lw_tbl := ⟨ws_in 381 (by decide +kernel), ws_in 360 (by decide +kernel), ws_in 323 (by decide +kernel)⟩
set_option maxRecDepth 100000 in
theorem ws_stat : Cond.laysStatic "java/lang/String" "COMPACT_STRINGS" "Z" ∈ lw_tbl ∧ Cond.laysStatic "jdk/internal/util/Preconditions" "SIOOBE_FORMATTER" "Ljava/util/function/BiFunction;" ∈ lw_tbl ∧ Cond.initialized "java/lang/String" ∈ lw_tbl ∧ Cond.initialized "jdk/internal/util/Preconditions" ∈ lw_tbl := ⟨by decide +kernel, by decide +kernel, ws_in 105 (by decide +kernel), ws_in 107 (by decide +kernel)⟩
end WST

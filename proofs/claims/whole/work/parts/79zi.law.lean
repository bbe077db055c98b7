/-! the law's loop -/
def wJ (x : Int) : Int := (Int64.ofInt x).toInt
theorem kJ_w (x : Int) : kJ (wJ x) = kJ x := by
  show Value.long (Int64.ofInt (Int64.ofInt x).toInt) = Value.long (Int64.ofInt x)
  rw [Int64.ofInt_toInt]
theorem kR_wI (x : Int) : kR (wI x) := by
  have a := Int32.toInt_lt (Int32.ofInt x)
  have b := Int32.le_toInt (Int32.ofInt x)
  unfold wI
  exact ⟨by omega, by omega⟩
theorem kR64_wJ (x : Int) : kR64 (wJ x) := by
  have a := Int64.toInt_lt (Int64.ofInt x)
  have b := Int64.le_toInt (Int64.ofInt x)
  unfold wJ
  exact ⟨by omega, by omega⟩
theorem kR_32 (x : Int32) : kR x.toInt := by
  have a := Int32.toInt_lt x
  have b := Int32.le_toInt x
  exact ⟨by omega, by omega⟩
section LAW
variable {xs : Nat → Int32} {Lx d : Nat} {V : km_V}
theorem two_wrap {D j mx j' mx' : Nat} {as as' : List Value} {F : Int → Int → km_V → Prop} (h : kCI xs Lx D j mx as V (fun y1 W1 => kCI xs Lx D j' mx' as' W1 (fun y2 W2 => F (wI y1) (wI y2) W2))) : kCI xs Lx D j mx as V (fun y1 W1 => kCI xs Lx D j' mx' as' W1 (fun y2 W2 => F y1 y2 W2)) :=
  kCI.wrap (kCI.map h (fun _ _ q => kCI.wrap q))
theorem two_wrapJ {D j mx j' mx' : Nat} {as as' : List Value} {F : Int → Int → km_V → Prop} (h : kCJ xs Lx D j mx as V (fun y1 W1 => kCJ xs Lx D j' mx' as' W1 (fun y2 W2 => F (wJ y1) (wJ y2) W2))) : kCJ xs Lx D j mx as V (fun y1 W1 => kCJ xs Lx D j' mx' as' W1 (fun y2 W2 => F y1 y2 W2)) :=
  kGo.mono h (fun _ _ ⟨x, e, q⟩ => ⟨wJ x, by rw [kJ_w]; exact e, kGo.mono q (fun _ _ ⟨x', e', q'⟩ => ⟨wJ x', by rw [kJ_w]; exact e', q'⟩)⟩)
theorem law_loop (hL : Lx ≤ 3072) : ∀ n i V R ps hs tp pl, i + n = Lx + 6 → kInv V R ps hs tp pl → kGo xs Lx (d + 13) 223 18 [some (.ref km_scr), some (.ref 0), some (.ref 299), some (kI (i : Int))] [] V (fun r _ => r = some (kI 1)) := by
  intro n
  induction n using Nat.strongRecOn with
  | _ n IH =>
    intro i V R ps hs tp pl hn hI
    have nx : i + 6 ≤ Lx → ∀ W R' ps' hs' tp' pl', kInv W R' ps' hs' tp' pl' → kGo xs Lx (d + 13) 223 18 [some (.ref km_scr), some (.ref 0), some (.ref 299), some (kI ((i : Int) + 6))] [] W (fun r _ => r = some (kI 1)) := by
      intro hi W R' ps' hs' tp' pl' hW
      exact IH (n - 6) (by omega) (i + 6) W R' ps' hs' tp' pl' (by omega) hW
    refine b223_18 (d := d + 5) ⟨by omega, by omega, fun _ => rfl, fun go => ?_⟩
    have hi : i + 6 ≤ Lx := by omega
    have k1 := nx hi
    have rk : ∀ t : Int, kR ((xs (Int.toNat t)).toInt) := fun t => kR_32 _
    have fin : ∀ y W R' ps' hs' tp' pl', kInv W R' ps' hs' tp' pl' → (fun y1 y2 W => (kR y1) ∧ (kR y2) ∧ ((y1 = y2 → kGo xs Lx (d + 13) 223 18 [some (.ref km_scr), some (.ref 0), some (.ref 299), some (kI ((i : Int) + 6))] [] W (fun r _ => r = some (kI 1))) ∧ (y1 ≠ y2 → some (kI 0) = some (kI 1)))) (wI y) (wI y) W := fun y W R' ps' hs' tp' pl' hW => ⟨kR_wI y, kR_wI y, fun _ => k1 W R' ps' hs' tp' pl' hW, fun q => absurd rfl q⟩
    refine ⟨⟨by omega, by omega⟩, by omega, ⟨by omega, by omega⟩, fun _ => k1 V R ps hs tp pl hI, fun _ => ?_, fun _ => ?_, fun _ => ?_, fun _ => ?_, fun _ => ?_, fun _ => ?_, fun _ => ?_, fun _ => ?_, fun _ => ?_, fun _ => ?_, fun _ => ?_, fun _ => ?_, fun _ => ?_, fun _ => ?_, fun _ => ?_, fun _ => ?_, fun _ => ?_, fun _ => ?_, fun _ => ?_, fun _ => ?_, fun _ => ?_, fun _ => ?_, fun _ => ?_, fun _ => ?_, fun _ => ?_, fun _ => ?_⟩
    · exact ⟨⟨by omega, by omega⟩, ⟨by omega, by omega⟩, ⟨by omega, by omega⟩, ⟨by omega, by omega⟩, ⟨by omega, by omega⟩, two_wrap (bo_feed (rk _) (rk _) (rk _) (rk _) (rk _) hI (fun y W tp' hW => fin y W _ _ _ _ _ hW))⟩
    · exact ⟨⟨by omega, by omega⟩, two_wrap (bo_back (rk _) hI (fun y W tp' hW => fin y W _ _ _ _ _ hW))⟩
    · exact two_wrap (bo_read hI (fun y W R' ps' hs' tp' pl' hW => fin y W _ _ _ _ _ hW))
    · exact two_wrap (bo_place hI (fin _ V _ _ _ _ _ hI))
    · exact ⟨⟨by omega, by omega⟩, two_wrap (bo_out (rk _) hI (fun y W R' ps' hs' hW => fin y W _ _ _ _ _ hW))⟩
    · exact ⟨⟨by omega, by omega⟩, two_wrap (bo_slide (rk _) hI (fun y W R' ps' hs' hW => fin y W _ _ _ _ _ hW))⟩
    · refine ⟨⟨by omega, by omega⟩, ⟨by omega, by omega⟩, rk _, fun _ => ⟨⟨by omega, by omega⟩, rk _, fun _ => ?_, fun _ => ?_⟩, fun _ => ⟨⟨by omega, by omega⟩, rk _, fun _ => ?_, fun _ => ?_⟩⟩
      · exact two_wrap (bo_kink (ov := false) (pl' := false) (rk _) hI (fun y W R' ps' hs' hW => fin y W _ _ _ _ _ hW))
      · exact two_wrap (bo_kink (ov := false) (pl' := true) (rk _) hI (fun y W R' ps' hs' hW => fin y W _ _ _ _ _ hW))
      · exact two_wrap (bo_kink (ov := true) (pl' := false) (rk _) hI (fun y W R' ps' hs' hW => fin y W _ _ _ _ _ hW))
      · exact two_wrap (bo_kink (ov := true) (pl' := true) (rk _) hI (fun y W R' ps' hs' hW => fin y W _ _ _ _ _ hW))
    · exact two_wrap (bo_loosen hI (fun y W R' ps' hs' hW => fin y W _ _ _ _ _ hW))
    · exact two_wrap (bo_mirror hI (fun y W R' ps' hs' hW => fin y W _ _ _ _ _ hW))
    · exact ⟨⟨by omega, by omega⟩, two_wrap (bo_round (rk _) hI (fun y W R' ps' hs' hW => fin y W _ _ _ _ _ hW))⟩
    · exact ⟨⟨by omega, by omega⟩, two_wrap (bo_switches (rk _) hI (fun y W R' ps' hs' hW => fin y W _ _ _ _ _ hW))⟩
    · exact ⟨⟨by omega, by omega⟩, two_wrap (bo_sum (rk _) hI (fun y W R' ps' hs' hW => fin y W _ _ _ _ _ hW))⟩
    · exact two_wrap (bo_undo hI (fun y W R' ps' hs' hW => fin y W _ _ _ _ _ hW))
    · exact ⟨⟨by omega, by omega⟩, ⟨by omega, by omega⟩, two_wrap (bo_ring (rk _) (rk _) hI (fun y W R' ps' hs' hW => fin y W _ _ _ _ _ hW))⟩
    · exact ⟨⟨by omega, by omega⟩, ⟨by omega, by omega⟩, two_wrap (bo_cross (rk _) (rk _) hI (fun y W R' ps' hs' hW => fin y W _ _ _ _ _ hW))⟩
    · exact ⟨⟨by omega, by omega⟩, ⟨by omega, by omega⟩, two_wrap (bo_face (rk _) (rk _) hI (fun y W R' ps' hs' hW => fin y W _ _ _ _ _ hW))⟩
    · exact ⟨⟨by omega, by omega⟩, two_wrap (bo_loops (rk _) hI (fun y W R' ps' hs' hW => fin y W _ _ _ _ _ hW))⟩
    · refine ⟨⟨by omega, by omega⟩, ⟨by omega, by omega⟩, rk _, fun _ => ?_, fun _ => ?_⟩
      · exact two_wrap (bo_coef (b := 0) (rk _) (by decide) hI (fun y W R' ps' hs' hW => fin y W _ _ _ _ _ hW))
      · exact two_wrap (bo_coef (b := 1) (rk _) (by decide) hI (fun y W R' ps' hs' hW => fin y W _ _ _ _ _ hW))
    · exact ⟨⟨by omega, by omega⟩, ⟨by omega, by omega⟩, two_wrap (bo_wind (rk _) (rk _) hI (fun y W R' ps' hs' hW => fin y W _ _ _ _ _ hW))⟩
    · refine ⟨⟨by omega, by omega⟩, two_wrapJ (F := fun y1 y2 W => (kR64 y1) ∧ (kR64 y2) ∧ (kR (kcmp y1 y2)) ∧ ((kcmp y1 y2 = 0 → kGo xs Lx (d + 13) 223 18 [some (.ref km_scr), some (.ref 0), some (.ref 299), some (kI ((i : Int) + 6))] [] W (fun r _ => r = some (kI 1))) ∧ (kcmp y1 y2 ≠ 0 → some (kI 0) = some (kI 1)))) (bo_col (rk _) hI (fun y W R' ps' hs' hW => ?_))⟩
      have e : kcmp (wJ y) (wJ y) = 0 := by unfold kcmp; (repeat' split) <;> omega
      rw [e]
      exact ⟨kR64_wJ y, kR64_wJ y, by decide, fun _ => k1 W R' ps' hs' tp pl hW, fun q => absurd rfl q⟩
    · exact ⟨⟨by omega, by omega⟩, two_wrap (bo_freed (rk _) hI (fun y W R' ps' hs' hW => fin y W _ _ _ _ _ hW))⟩
    · exact ⟨⟨by omega, by omega⟩, two_wrap (bo_looser (rk _) hI (fun y W R' ps' hs' hW => fin y W _ _ _ _ _ hW))⟩
    · exact ⟨⟨by omega, by omega⟩, ⟨by omega, by omega⟩, two_wrap (bo_alike (rk _) (rk _) hI (fun y W R' ps' hs' hW => fin y W _ _ _ _ _ hW))⟩
    · exact ⟨⟨by omega, by omega⟩, two_wrap (bo_hold (rk _) hI (fun y W R' ps' hs' hW => fin y W _ _ _ _ _ hW))⟩
    · exact ⟨⟨by omega, by omega⟩, two_wrap (bo_restore (rk _) hI (fun y W R' ps' hs' hW => fin y W _ _ _ _ _ hW))⟩
    · exact ⟨⟨by omega, by omega⟩, two_wrap (bo_count (rk _) hI (fun y W R' ps' hs' hW => fin y W _ _ _ _ _ hW))⟩
end LAW

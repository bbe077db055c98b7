/-! more calls of both -/
def wI (x : Int) : Int := (Int32.ofInt x).toInt
theorem kI_w (x : Int) : kI (wI x) = kI x := by
  show Value.int (Int32.ofInt (Int32.ofInt x).toInt) = Value.int (Int32.ofInt x)
  rw [Int32.ofInt_toInt]
section BO2
variable {xs : Nat → Int32} {Lx d : Nat} {V W1 W2 : km_V} {R R' : Rw} {hs hs' : Hs} {ps ps' : List Rw} {tp : List Int} {pl : Int}
/-- an answer may be taken as it lies in a word -/
theorem kCI.wrap {j mx : Nat} {as : List Value} {K : Int → km_V → Prop} (h : kCI xs Lx d j mx as V (fun y W => K (wI y) W)) : kCI xs Lx d j mx as V K :=
  kGo.mono h (fun _ _ ⟨x, e, k⟩ => ⟨wI x, by rw [kI_w]; exact e, k⟩)
theorem bo_round {a : Int} {K : Int → Int → km_V → Prop} (ha : kR a) (hI : kInv V R ps hs tp pl) (k : ∀ y W R' ps' hs', kInv W R' ps' hs' tp pl → K y y W) : kCI xs Lx (d + 12) 100 2 [.ref 0, kI a] V (fun y1 W1 => kCI xs Lx (d + 12) 186 7 [.ref 299, kI a] W1 (fun y2 W2 => K y1 y2 W2)) := by
  have ok := hI.2.2.1
  refine sp_cround (d := d + 8) ha hI.1 ok (fun h1 h2 W1 c1 f1 => ?_) (fun no => ?_)
  · have m := inv_mid hI f1
    refine sp_mround (d := d + 11) ha m.1 ok.1 m.2.1 ok.2.1 (fun _ _ W2 r2 p2 f2 => ?_) (fun no => absurd ⟨h1, h2⟩ no)
    exact k _ W2 _ _ _ (inv_next hI c1 f1 (kM.mk2 (V := W1) r2 p2 m.2.2 (fun b j hb => f2 _ _ (by omega))) (fun b j hb => f2 _ _ (by omega)) (kOk_push ok (rwRev_ok ok.1 (by omega))))
  · exact sp_mround (d := d + 11) ha hI.2.1.1 ok.1 hI.2.1.2.1 ok.2.1 (fun h1 h2 => absurd ⟨h1, h2⟩ no) (fun _ => k _ V _ _ _ hI)
theorem bo_undo {K : Int → Int → km_V → Prop} (hI : kInv V R ps hs tp pl) (k : ∀ y W R' ps' hs', kInv W R' ps' hs' tp pl → K y y W) : kCI xs Lx (d + 12) 103 1 [.ref 0] V (fun y1 W1 => kCI xs Lx (d + 12) 177 3 [.ref 299] W1 (fun y2 W2 => K y1 y2 W2)) := by
  have ok := hI.2.2.1
  refine sp_cundo (d := d + 8) hI.1 ok (fun S qs e W1 c1 f1 => ?_) (fun e => ?_)
  · have m := inv_mid hI f1
    refine sp_mundo (d := d + 12) m.2.1 ok.2.1 (fun e2 => by rw [e] at e2; exact absurd e2 (by simp)) (fun S' qs' e2 W2 r2 p2 f2 => ?_)
    rw [e] at e2
    cases e2
    refine k _ W2 _ _ _ (inv_next hI c1 f1 (kM.mk2 (V := W1) r2 p2 m.2.2 (fun b j hb => f2 _ _ (by omega))) (fun b j hb => f2 _ _ (by omega)) ⟨ok.2.1.2 S (by rw [e]; exact List.mem_cons_self), ⟨?_, fun T hT => ok.2.1.2 T (by rw [e]; exact List.mem_cons_of_mem _ hT)⟩, ok.2.2⟩)
    have := ok.2.1.1
    rw [e, List.length_cons] at this
    omega
  · exact sp_mundo (d := d + 12) hI.2.1.2.1 ok.2.1 (fun _ => k _ V _ _ _ hI) (fun S' qs' e2 => by rw [e] at e2; exact absurd e2 (by simp))
theorem bo_freed {a : Int} {K : Int → Int → km_V → Prop} (ha : kR a) (hI : kInv V R ps hs tp pl) (k : ∀ y W R' ps' hs', kInv W R' ps' hs' tp pl → K y y W) : kCI xs Lx (d + 12) 111 2 [.ref 0, kI a] V (fun y1 W1 => kCI xs Lx (d + 12) 211 3 [.ref 299, kI a] W1 (fun y2 W2 => K y1 y2 W2)) := by
  have ok := hI.2.2.1
  refine sp_cfreed (d := d + 6) ha hI.1 ok (fun h v hv W1 c1 f1 => ?_) (fun no => ?_)
  · refine sp_mfreed (d := d + 6) ha (inv_mid hI f1) ok (fun _ w hw W2 m2 f2 => ?_) (fun no => absurd h no)
    rw [hw.uniq hv]
    exact k _ W2 _ _ _ (inv_next hI c1 f1 m2 f2 ok)
  · exact sp_mfreed (d := d + 6) ha hI.2.1 ok (fun h => absurd h no) (fun _ => k _ V _ _ _ hI)
theorem bo_hold {a : Int} {K : Int → Int → km_V → Prop} (ha : kR a) (hI : kInv V R ps hs tp pl) (k : ∀ y W R' ps' hs', kInv W R' ps' hs' tp pl → K y y W) : kCI xs Lx (d + 12) 114 2 [.ref 0, kI a] V (fun y1 W1 => kCI xs Lx (d + 12) 178 3 [.ref 299, kI a] W1 (fun y2 W2 => K y1 y2 W2)) := by
  have ok := hI.2.2.1
  refine sp_chold (d := d + 11) ha hI.1 ok (fun h W1 c1 f1 => ?_) (fun no => ?_)
  · have m := inv_mid hI f1
    refine sp_mhold (d := d + 11) ha m.1 ok.1 m.2.2 ok.2.2 (fun _ W2 h2 f2 => ?_) (fun no => absurd h no)
    exact k _ W2 _ _ _ (inv_next hI c1 f1 ⟨m.1.fr ok.1 (fun j _ => f2 _ _ (by omega)), m.2.1.fr (f2 _ _ (by omega)) (f2 _ _ (by omega)) (fun j => f2 _ _ (by omega)), h2⟩ (fun b j hb => f2 _ _ (by omega)) ⟨ok.1, ok.2.1, hset_ok ok.2.2 ok.1⟩)
  · exact sp_mhold (d := d + 11) ha hI.2.1.1 ok.1 hI.2.1.2.2 ok.2.2 (fun h => absurd h no) (fun _ => k _ V _ _ _ hI)
theorem bo_restore {a : Int} {K : Int → Int → km_V → Prop} (ha : kR a) (hI : kInv V R ps hs tp pl) (k : ∀ y W R' ps' hs', kInv W R' ps' hs' tp pl → K y y W) : kCI xs Lx (d + 12) 115 2 [.ref 0, kI a] V (fun y1 W1 => kCI xs Lx (d + 12) 180 2 [.ref 299, kI a] W1 (fun y2 W2 => K y1 y2 W2)) := by
  have ok := hI.2.2.1
  refine sp_crestore (d := d + 8) ha hI.1 ok (fun S e W1 c1 f1 => ?_) (fun no => ?_)
  · have m := inv_mid hI f1
    refine sp_mrestore (d := d + 10) ha m.2.2 ok.2.2 (fun S' e2 W2 r2 z2 f2 => ?_) (fun no => by rw [e] at no; exact absurd no (by simp))
    rw [e] at e2
    cases e2
    have hP : kPm W2 [] := by
      obtain ⟨_, x, hx, hx2, _⟩ := m.2.1
      exact ⟨by rw [z2]; rfl, x, hx, by rw [f2 _ _ (by omega)]; exact hx2, fun i hi => absurd hi (by simp)⟩
    exact k _ W2 _ _ _ (inv_next hI c1 f1 (kM.mk2 (V := W1) r2 hP m.2.2 (fun b j hb => f2 _ _ (by omega))) (fun b j hb => f2 _ _ (by omega)) ⟨hget_ok ok.2.2 e, ⟨by simp, fun T hT => absurd hT (by simp)⟩, ok.2.2⟩)
  · exact sp_mrestore (d := d + 10) ha hI.2.1.2.2 ok.2.2 (fun S' e2 => by rw [no] at e2; exact absurd e2 (by simp)) (fun _ => k _ V _ _ _ hI)
theorem bo_count {a : Int} {K : Int → Int → km_V → Prop} (ha : kR a) (hI : kInv V R ps hs tp pl) (k : ∀ y W R' ps' hs', kInv W R' ps' hs' tp pl → K y y W) : kCI xs Lx (d + 12) 116 2 [.ref 0, kI a] V (fun y1 W1 => kCI xs Lx (d + 12) 217 2 [.ref 299, kI a] W1 (fun y2 W2 => K y1 y2 W2)) := by
  have ok := hI.2.2.1
  have t1 := hI.2.2.2.1.1
  have t2 := hI.2.2.2.2.1.1
  refine sp_ccount (d := d + 7) ha hI.1 ok (fun W1 c1 f1 v hv => ?_)
  refine sp_mcount (d := d + 7) ha (inv_mid hI f1) ok (fun W2 m2 f2 w hw => ?_)
  rw [f1 _ _ (by omega), t2] at hw
  rw [t1] at hv
  rw [hw.uniq hv]
  exact k _ W2 _ _ _ (inv_next hI c1 f1 m2 f2 ok)
theorem bo_feed {a b c e f : Int} {K : Int → Int → km_V → Prop} (ha : kR a) (hb : kR b) (hc : kR c) (he : kR e) (hf : kR f) (hI : kInv V R ps hs tp pl) (k : ∀ y W tp', kInv W R ps hs tp' pl → K y y W) : kCI xs Lx (d + 12) 91 6 [.ref 0, kI a, kI b, kI c, kI e, kI f] V (fun y1 W1 => kCI xs Lx (d + 12) 125 6 [.ref 299, kI a, kI b, kI c, kI e, kI f] W1 (fun y2 W2 => K y1 y2 W2)) := by
  obtain ⟨i1, i2, i3, i4, i5, i6, i7, i8, i9⟩ := id hI
  refine sp_cfeed (d := d + 11) ha hb hc he hf i4 i6 (fun l W1 t1 f1 => ?_) (fun l => ?_)
  · refine sp_mfeed (d := d + 11) ha hb hc he hf (i5.fr (fun b j hb => f1 _ _ (by omega))) i6 (fun _ W2 t2 f2 => ?_) (fun n => absurd l n)
    refine k _ W2 _ ⟨i1.fr (fun b j hb => by rw [f2 _ _ (by omega), f1 _ _ (by omega)]), i2.fr i3.1 (fun b j hb => by rw [f2 _ _ (by omega), f1 _ _ (by omega)]), i3, t1.fr (fun b j hb => f2 _ _ (by omega)), t2, ?_, by rw [f2 _ _ (by omega), f1 _ _ (by omega)]; exact i7, by rw [f2 _ _ (by omega), f1 _ _ (by omega)]; exact i8, fun i hi => by rw [f2 _ _ (by omega), f1 _ _ (by omega)]; exact i9 i hi⟩
    unfold fed
    simp only [List.length_append, pbs_len]
    omega
  · exact sp_mfeed (d := d + 11) ha hb hc he hf i5 i6 (fun n => absurd n l) (fun _ => k _ V _ hI)
theorem bo_back {a : Int} {K : Int → Int → km_V → Prop} (ha : kR a) (hI : kInv V R ps hs tp pl) (k : ∀ y W tp', kInv W R ps hs tp' pl → K y y W) : kCI xs Lx (d + 12) 92 2 [.ref 0, kI a] V (fun y1 W1 => kCI xs Lx (d + 12) 127 2 [.ref 299, kI a] W1 (fun y2 W2 => K y1 y2 W2)) := by
  obtain ⟨i1, i2, i3, i4, i5, i6, i7, i8, i9⟩ := id hI
  refine sp_cback (d := d + 12) ha i4 i6 (fun n e l W1 t1 f1 => ?_) (fun no => ?_)
  · refine sp_mback (d := d + 12) ha (i5.fr (fun b j hb => f1 _ _ (by omega))) i6 (fun n' e2 l2 W2 t2 f2 => ?_) (fun no => absurd ⟨by omega, by omega⟩ no)
    have : n' = n := by omega
    subst this
    refine k _ W2 _ ⟨i1.fr (fun b j hb => by rw [f2 _ _ (by omega), f1 _ _ (by omega)]), i2.fr i3.1 (fun b j hb => by rw [f2 _ _ (by omega), f1 _ _ (by omega)]), i3, t1.fr (fun b j hb => f2 _ _ (by omega)), t2, by rw [List.length_take]; omega, by rw [f2 _ _ (by omega), f1 _ _ (by omega)]; exact i7, by rw [f2 _ _ (by omega), f1 _ _ (by omega)]; exact i8, fun i hi => by rw [f2 _ _ (by omega), f1 _ _ (by omega)]; exact i9 i hi⟩
  · exact sp_mback (d := d + 12) ha i5 i6 (fun n' e2 l2 W2 t2 f2 => absurd ⟨by omega, by omega⟩ no) (fun _ => k _ V _ hI)
theorem bo_place {K : Int → Int → km_V → Prop} (hI : kInv V R ps hs tp pl) (k : K pl pl V) : kCI xs Lx (d + 12) 94 1 [.ref 0] V (fun y1 W1 => kCI xs Lx (d + 12) 142 1 [.ref 299] W1 (fun y2 W2 => K y1 y2 W2)) := by
  obtain ⟨i1, i2, i3, i4, i5, i6, i7, i8, i9⟩ := hI
  refine sp_cplace (d := d + 12) ?_
  refine b142_0 (d := d + 12) ⟨_, rfl, ?_⟩
  rw [i7, i8]
  exact k
end BO2

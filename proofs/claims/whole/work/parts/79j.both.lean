/-! a call of the class and the same call of the model -/
def kInv (V : km_V) (R : Rw) (ps : List Rw) (hs : Hs) (tp : List Int) (pl : Int) : Prop := kC V R ps hs ∧ kM V R ps hs ∧ kOk R ps hs ∧ kTc V tp ∧ kTm V tp ∧ tp.length ≤ 2000 ∧ V 0 16 = pl ∧ V 299 16 = pl ∧ kKy V
section BOT
variable {xs : Nat → Int32} {Lx d : Nat} {V W1 W2 : km_V} {R R' : Rw} {hs hs' : Hs} {ps ps' : List Rw} {tp : List Int} {pl : Int}
theorem kCI.map {j mx : Nat} {as : List Value} {K K' : Int → km_V → Prop} (h : kCI xs Lx d j mx as V K) (f : ∀ y W, K y W → K' y W) : kCI xs Lx d j mx as V K' :=
  kGo.mono h (fun _ _ ⟨x, e, k⟩ => ⟨x, e, f _ _ k⟩)
theorem inv_mid (hI : kInv V R ps hs tp pl) (f1 : cFr V W1) : kM W1 R ps hs := hI.2.1.fr hI.2.2.1.1 (fun b j hb => f1 b j (by omega))
theorem inv_next (hI : kInv V R ps hs tp pl) (c : kC W1 R' ps' hs') (f1 : cFr V W1) (m : kM W2 R' ps' hs') (f2 : mFr W1 W2) (ok : kOk R' ps' hs') : kInv W2 R' ps' hs' tp pl := by
  obtain ⟨_, _, _, h4, h5, h6, h7, h8, h9⟩ := hI
  refine ⟨c.fr (fun b j hb => f2 b j (by omega)), m, ok, h4.fr (fun b j hb => by rw [f2 b j (by omega), f1 b j (by omega)]), h5.fr (fun b j hb => by rw [f2 b j (by omega), f1 b j (by omega)]), h6, by rw [f2 _ _ (by omega), f1 _ _ (by omega)]; exact h7, by rw [f2 _ _ (by omega), f1 _ _ (by omega)]; exact h8, fun i hi => by rw [f2 _ _ (by omega), f1 _ _ (by omega)]; exact h9 i hi⟩
theorem cFr.refl (V : km_V) : cFr V V := fun _ _ _ => rfl
theorem mFr.refl (V : km_V) : mFr V V := fun _ _ _ => rfl
theorem kOk_push {S : Rw} (ok : kOk R ps hs) (h : rwOk S) : kOk S (rwPush R ps) hs := ⟨h, rwOks_push ok.1 ok.2.1, ok.2.2⟩
theorem bo_out {a : Int} {K : Int → Int → km_V → Prop} (ha : kR a) (hI : kInv V R ps hs tp pl) (k : ∀ y W R' ps' hs', kInv W R' ps' hs' tp pl → K y y W) : kCI xs Lx (d + 12) 95 3 [.ref 0, kI a] V (fun y1 W1 => kCI xs Lx (d + 12) 181 3 [.ref 299, kI a] W1 (fun y2 W2 => K y1 y2 W2)) := by
  have ok := hI.2.2.1
  refine sp_cout (d := d + 8) ha hI.1 ok (fun f e hf hk W1 c1 f1 => ?_) (fun no => ?_)
  · refine sp_mout (d := d + 9) ha (inv_mid hI f1) ok (fun g e2 _ _ W2 m2 f2 => ?_) (fun no => absurd ⟨f, e, hf, hk⟩ no)
    have : g = f := by omega
    subst this
    exact k _ W2 _ _ _ (inv_next hI c1 f1 m2 f2 (kOk_push ok (rwDrop_ok ok.1)))
  · exact sp_mout (d := d + 9) ha hI.2.1 ok (fun g e2 hg hk W2 m2 f2 => absurd ⟨g, e2, hg, hk⟩ no) (fun _ W2 m2 f2 => k _ W2 _ _ _ (inv_next hI hI.1 (cFr.refl V) m2 f2 ok))
theorem bo_slide {a : Int} {K : Int → Int → km_V → Prop} (ha : kR a) (hI : kInv V R ps hs tp pl) (k : ∀ y W R' ps' hs', kInv W R' ps' hs' tp pl → K y y W) : kCI xs Lx (d + 12) 96 2 [.ref 0, kI a] V (fun y1 W1 => kCI xs Lx (d + 12) 182 2 [.ref 299, kI a] W1 (fun y2 W2 => K y1 y2 W2)) := by
  have ok := hI.2.2.1
  refine sp_cslide (d := d + 8) ha hI.1 ok (fun f e hf hk W1 c1 f1 => ?_) (fun no => ?_)
  · refine sp_mslide (d := d + 9) ha (inv_mid hI f1) ok (fun g e2 _ _ W2 m2 f2 => ?_) (fun no => absurd ⟨f, e, hf, hk⟩ no)
    have : g = f := by omega
    subst this
    exact k _ W2 _ _ _ (inv_next hI c1 f1 m2 f2 (kOk_push ok (rwSlide_ok ok.1 hf).1))
  · exact sp_mslide (d := d + 9) ha hI.2.1 ok (fun g e2 hg hk W2 m2 f2 => absurd ⟨g, e2, hg, hk⟩ no) (fun _ W2 m2 f2 => k _ W2 _ _ _ (inv_next hI hI.1 (cFr.refl V) m2 f2 ok))
theorem bo_kink {a : Int} {ov pl' : Bool} {K : Int → Int → km_V → Prop} (ha : kR a) (hI : kInv V R ps hs tp pl) (k : ∀ y W R' ps' hs', kInv W R' ps' hs' tp pl → K y y W) : kCI xs Lx (d + 12) 97 4 [.ref 0, kI a, kI (if ov then 1 else 0), kI (if pl' then 1 else 0)] V (fun y1 W1 => kCI xs Lx (d + 12) 183 8 [.ref 299, kI a, kI (if ov then 1 else 0), kI (if pl' then 1 else 0)] W1 (fun y2 W2 => K y1 y2 W2)) := by
  have ok := hI.2.2.1
  have l := ok.1.len
  refine sp_ckink (d := d + 8) ha hI.1 ok (fun e he hl hn W1 c1 f1 => ?_) (fun no => ?_)
  · refine sp_mkink (d := d + 11) ha (inv_mid hI f1) ok (fun g e2 _ _ W2 m2 f2 => ?_) (fun no => absurd ⟨by omega, by omega, hn⟩ no)
    have : g = e := by omega
    subst this
    exact k _ W2 _ _ _ (inv_next hI c1 f1 m2 f2 (kOk_push ok (rwCurl_ok ok.1 (by omega) ov pl' hn)))
  · exact sp_mkink (d := d + 11) ha hI.2.1 ok (fun g e2 hg hk W2 m2 f2 => absurd ⟨by omega, by omega, hk⟩ no) (fun _ => k _ V _ _ _ (inv_next hI hI.1 (cFr.refl V) hI.2.1 (mFr.refl V) ok))
theorem bo_loosen {K : Int → Int → km_V → Prop} (hI : kInv V R ps hs tp pl) (k : ∀ y W R' ps' hs', kInv W R' ps' hs' tp pl → K y y W) : kCI xs Lx (d + 12) 98 2 [.ref 0] V (fun y1 W1 => kCI xs Lx (d + 12) 184 2 [.ref 299] W1 (fun y2 W2 => K y1 y2 W2)) := by
  have ok := hI.2.2.1
  refine sp_cloosen (d := d + 8) hI.1 ok (fun ne W1 c1 f1 => ?_) (fun e W1 c1 f1 => ?_)
  · exact sp_mloosen (d := d + 7) (inv_mid hI f1) ok (fun _ W2 m2 f2 => k _ W2 _ _ _ (inv_next hI c1 f1 m2 f2 (kOk_push ok (rwShed_ok 8 R ok.1).1))) (fun e => absurd e ne)
  · exact sp_mloosen (d := d + 7) (inv_mid hI f1) ok (fun ne => absurd e ne) (fun _ W2 m2 f2 => k _ W2 _ _ _ (inv_next hI c1 f1 m2 f2 ok))
theorem bo_mirror {K : Int → Int → km_V → Prop} (hI : kInv V R ps hs tp pl) (k : ∀ y W R' ps' hs', kInv W R' ps' hs' tp pl → K y y W) : kCI xs Lx (d + 12) 99 1 [.ref 0] V (fun y1 W1 => kCI xs Lx (d + 12) 185 2 [.ref 299] W1 (fun y2 W2 => K y1 y2 W2)) := by
  have ok := hI.2.2.1
  refine sp_cmirror (d := d + 8) hI.1 ok (fun ne W1 c1 f1 => ?_) (fun e => ?_)
  · exact sp_mmirror (d := d + 11) (inv_mid hI f1) ok (fun _ W2 m2 f2 => k _ W2 _ _ _ (inv_next hI c1 f1 m2 f2 (kOk_push ok (rwTurn_ok ok.1)))) (fun e => absurd e ne)
  · exact sp_mmirror (d := d + 11) hI.2.1 ok (fun ne => absurd e ne) (fun _ => k _ V _ _ _ hI)
theorem bo_switches {a : Int} {K : Int → Int → km_V → Prop} (ha : kR a) (hI : kInv V R ps hs tp pl) (k : ∀ y W R' ps' hs', kInv W R' ps' hs' tp pl → K y y W) : kCI xs Lx (d + 12) 101 2 [.ref 0, kI a] V (fun y1 W1 => kCI xs Lx (d + 12) 187 2 [.ref 299, kI a] W1 (fun y2 W2 => K y1 y2 W2)) := by
  have ok := hI.2.2.1
  refine sp_cswitches (d := d + 8) ha hI.1 ok (fun c e hc W1 c1 f1 => ?_) (fun no => ?_)
  · refine sp_mswitches (d := d + 11) ha (inv_mid hI f1) ok (fun g e2 _ W2 m2 f2 => ?_) (fun no => absurd ⟨by omega, by omega⟩ no)
    have : g = c := by omega
    subst this
    exact k _ W2 _ _ _ (inv_next hI c1 f1 m2 f2 (kOk_push ok (rwTurn_ok ok.1)))
  · exact sp_mswitches (d := d + 11) ha hI.2.1 ok (fun g e2 hg W2 m2 f2 => absurd ⟨by omega, by omega⟩ no) (fun _ => k _ V _ _ _ hI)
theorem bo_sum {a : Int} {K : Int → Int → km_V → Prop} (ha : kR a) (hI : kInv V R ps hs tp pl) (k : ∀ y W R' ps' hs', kInv W R' ps' hs' tp pl → K y y W) : kCI xs Lx (d + 12) 102 2 [.ref 0, kI a] V (fun y1 W1 => kCI xs Lx (d + 12) 188 6 [.ref 299, kI a] W1 (fun y2 W2 => K y1 y2 W2)) := by
  have ok := hI.2.2.1
  refine sp_csum (d := d + 8) ha hI.1 ok (fun S e c W1 c1 f1 => ?_) (fun no => ?_)
  · refine sp_msum (d := d + 10) ha (inv_mid hI f1) ok (fun S' e2 _ W2 m2 f2 => ?_) (fun no => absurd ⟨S, e, c⟩ no)
    rw [e] at e2
    cases e2
    exact k _ W2 _ _ _ (inv_next hI c1 f1 m2 f2 (kOk_push ok (rwTake_ok ok.1 (hget_ok ok.2.2 e) c)))
  · exact sp_msum (d := d + 10) ha hI.2.1 ok (fun S e c W2 m2 f2 => absurd ⟨S, e, c⟩ no) (fun _ W2 m2 f2 => k _ W2 _ _ _ (inv_next hI hI.1 (cFr.refl V) m2 f2 ok))
theorem bo_ring {a b : Int} {K : Int → Int → km_V → Prop} (ha : kR a) (hb : kR b) (hI : kInv V R ps hs tp pl) (k : ∀ y W R' ps' hs', kInv W R' ps' hs' tp pl → K y y W) : kCI xs Lx (d + 12) 104 5 [.ref 0, kI a, kI b] V (fun y1 W1 => kCI xs Lx (d + 12) 189 5 [.ref 299, kI a, kI b] W1 (fun y2 W2 => K y1 y2 W2)) :=
  sp_cring (d := d + 11) ha hb hI.1 hI.2.2.1 (sp_mring (d := d + 11) ha hb hI.2.1 hI.2.2.1 (k _ V _ _ _ hI))
theorem bo_cross {a b : Int} {K : Int → Int → km_V → Prop} (ha : kR a) (hb : kR b) (hI : kInv V R ps hs tp pl) (k : ∀ y W R' ps' hs', kInv W R' ps' hs' tp pl → K y y W) : kCI xs Lx (d + 12) 105 3 [.ref 0, kI a, kI b] V (fun y1 W1 => kCI xs Lx (d + 12) 191 4 [.ref 299, kI a, kI b] W1 (fun y2 W2 => K y1 y2 W2)) :=
  sp_ccross (d := d + 11) ha hb hI.1 hI.2.2.1 (sp_mcross (d := d + 9) ha hb hI.2.1 hI.2.2.1 (fun W m f => k _ W _ _ _ (inv_next hI hI.1 (cFr.refl V) m f hI.2.2.1)))
theorem bo_face {a b : Int} {K : Int → Int → km_V → Prop} (ha : kR a) (hb : kR b) (hI : kInv V R ps hs tp pl) (k : ∀ y W R' ps' hs', kInv W R' ps' hs' tp pl → K y y W) : kCI xs Lx (d + 12) 106 4 [.ref 0, kI a, kI b] V (fun y1 W1 => kCI xs Lx (d + 12) 192 6 [.ref 299, kI a, kI b] W1 (fun y2 W2 => K y1 y2 W2)) :=
  sp_cface (d := d + 11) ha hb hI.1 hI.2.2.1 (sp_mface (d := d + 9) ha hb hI.2.1 hI.2.2.1 (fun W m f => k _ W _ _ _ (inv_next hI hI.1 (cFr.refl V) m f hI.2.2.1)))
theorem bo_loops {a : Int} {K : Int → Int → km_V → Prop} (ha : kR a) (hI : kInv V R ps hs tp pl) (k : ∀ y W R' ps' hs', kInv W R' ps' hs' tp pl → K y y W) : kCI xs Lx (d + 12) 107 2 [.ref 0, kI a] V (fun y1 W1 => kCI xs Lx (d + 12) 195 2 [.ref 299, kI a] W1 (fun y2 W2 => K y1 y2 W2)) :=
  sp_cloops (d := d + 10) ha hI.1 hI.2.2.1 (sp_mloops (d := d + 10) ha hI.2.1 hI.2.2.1 (fun W m f => k _ W _ _ _ (inv_next hI hI.1 (cFr.refl V) m f hI.2.2.1)))
theorem bo_coef {a b : Int} {K : Int → Int → km_V → Prop} (ha : kR a) (hb : kR b) (hI : kInv V R ps hs tp pl) (k : ∀ y W R' ps' hs', kInv W R' ps' hs' tp pl → K y y W) : kCI xs Lx (d + 12) 108 4 [.ref 0, kI a, kI b] V (fun y1 W1 => kCI xs Lx (d + 12) 200 3 [.ref 299, kI a, kI b] W1 (fun y2 W2 => K y1 y2 W2)) :=
  sp_ccoef (d := d + 7) ha hb hI.1 hI.2.2.1 (fun W1 c1 f1 => sp_mcoef (d := d + 9) ha hb (inv_mid hI f1) hI.2.2.1 (fun W m f => k _ W _ _ _ (inv_next hI c1 f1 m f hI.2.2.1)))
theorem bo_wind {a b : Int} {K : Int → Int → km_V → Prop} (ha : kR a) (hb : kR b) (hI : kInv V R ps hs tp pl) (k : ∀ y W R' ps' hs', kInv W R' ps' hs' tp pl → K y y W) : kCI xs Lx (d + 12) 109 7 [.ref 0, kI a, kI b] V (fun y1 W1 => kCI xs Lx (d + 12) 202 7 [.ref 299, kI a, kI b] W1 (fun y2 W2 => K y1 y2 W2)) :=
  sp_cwind (d := d + 12) ha hb hI.1 hI.2.2.1 (sp_mwind (d := d + 10) ha hb hI.2.1 hI.2.2.1 (fun W m f => k _ W _ _ _ (inv_next hI hI.1 (cFr.refl V) m f hI.2.2.1)))
theorem bo_col {a : Int} {K : Int → Int → km_V → Prop} (ha : kR a) (hI : kInv V R ps hs tp pl) (k : ∀ y W R' ps' hs', kInv W R' ps' hs' tp pl → K y y W) : kCJ xs Lx (d + 12) 110 2 [.ref 0, kI a] V (fun y1 W1 => kCJ xs Lx (d + 12) 205 8 [.ref 299, kI a] W1 (fun y2 W2 => K y1 y2 W2)) :=
  sp_ccol (d := d + 8) ha hI.1 hI.2.2.1 (fun W1 c1 f1 => sp_mcol (d := d + 8) ha (inv_mid hI f1) hI.2.2.1 (fun W m f => k _ W _ _ _ (inv_next hI c1 f1 m f hI.2.2.1)))
theorem bo_looser {a : Int} {K : Int → Int → km_V → Prop} (ha : kR a) (hI : kInv V R ps hs tp pl) (k : ∀ y W R' ps' hs', kInv W R' ps' hs' tp pl → K y y W) : kCI xs Lx (d + 12) 112 2 [.ref 0, kI a] V (fun y1 W1 => kCI xs Lx (d + 12) 213 5 [.ref 299, kI a] W1 (fun y2 W2 => K y1 y2 W2)) :=
  sp_clooser (d := d + 2) ha hI.1 hI.2.2.1 (fun W1 c1 f1 => sp_mlooser (d := d + 6) ha (inv_mid hI f1) hI.2.2.1 (fun W m f => k _ W _ _ _ (inv_next hI c1 f1 m f hI.2.2.1)))
theorem bo_alike {a b : Int} {K : Int → Int → km_V → Prop} (ha : kR a) (hb : kR b) (hI : kInv V R ps hs tp pl) (k : ∀ y W R' ps' hs', kInv W R' ps' hs' tp pl → K y y W) : kCI xs Lx (d + 12) 113 3 [.ref 0, kI a, kI b] V (fun y1 W1 => kCI xs Lx (d + 12) 215 4 [.ref 299, kI a, kI b] W1 (fun y2 W2 => K y1 y2 W2)) :=
  sp_calike (d := d + 7) ha hb hI.1 hI.2.2.1 (fun W1 c1 f1 v hv => sp_malike (d := d + 9) ha hb (inv_mid hI f1) hI.2.2.1 (fun W m f w hw => by
    rw [hw.uniq hv]
    exact k _ W _ _ _ (inv_next hI c1 f1 m f hI.2.2.1)))
end BOT

/-- the entries of the pools that name methods -/
def km_okI (e : Nat × Nat × Nat × Nat × Nat) : Bool :=
  match e.2.2.1 with
  | 4 => km_gw e.2.2.2.2 (.methodLink (km_R e.1) e.2.1 objectInit)
  | 5 => km_gw e.2.2.2.2 (.methodLink (km_R e.1) e.2.1 arraycopyName)
  | 6 => km_gw e.2.2.2.2 (.methodLink (km_R e.1) e.2.1 yJ0_length_8abf5)
  | 7 => km_gw e.2.2.2.2 (.methodLink (km_R e.1) e.2.1 yJ0_charAt_5068e)
  | k => match km_T[e.2.2.2.1]?, km_Mp[e.2.2.2.1]? with
    | some q, some x => Nat.blt e.2.2.2.1 223 && (cond (Nat.beq k 3) (km_Nw.any (fun w => decide (w = .methodLinkNest (km_R e.1) e.2.1 q.1 RX8))) (km_gw e.2.2.2.2 (.methodLink (km_R e.1) e.2.1 q.1)) &&
        match k with
        | 0 => q.2.2.2.2.2.2.1
        | 1 => !q.2.2.2.2.2.2.1 && (!(Nat.beq x.2.2.2 9999) && Nat.blt q.2.2.2.2.1 10)
        | _ => !q.2.2.2.2.2.2.1 && (decide (q.1.name = "<init>") && (decide (q.2.2.2.1 = none) && Nat.blt q.2.2.2.2.1 10)))
    | _, _ => false
set_option maxRecDepth 100000 in
theorem km_I0 : ((km_I.drop 0).take 30).all km_okI = true := by decide +kernel
set_option maxRecDepth 100000 in
theorem km_I30 : ((km_I.drop 30).take 30).all km_okI = true := by decide +kernel
set_option maxRecDepth 100000 in
theorem km_I60 : ((km_I.drop 60).take 30).all km_okI = true := by decide +kernel
set_option maxRecDepth 100000 in
theorem km_I90 : ((km_I.drop 90).take 30).all km_okI = true := by decide +kernel
set_option maxRecDepth 100000 in
theorem km_I120 : ((km_I.drop 120).take 30).all km_okI = true := by decide +kernel
set_option maxRecDepth 100000 in
theorem km_I150 : ((km_I.drop 150).take 30).all km_okI = true := by decide +kernel
set_option maxRecDepth 100000 in
theorem km_I180 : ((km_I.drop 180).take 30).all km_okI = true := by decide +kernel
set_option maxRecDepth 100000 in
theorem km_I210 : ((km_I.drop 210).take 30).all km_okI = true := by decide +kernel
set_option maxRecDepth 100000 in
theorem km_I240 : ((km_I.drop 240).take 30).all km_okI = true := by decide +kernel
set_option maxRecDepth 100000 in
theorem km_I_ok : km_I.all km_okI = true := km_dstep2 km_I0 (km_dstep2 km_I30 (km_dstep2 km_I60 (km_dstep2 km_I90 (km_dstep2 km_I120 (km_dstep2 km_I150 (km_dstep2 km_I180 (km_dstep2 km_I210 (km_dlast2 (by decide +kernel) km_I240))))))))
def km_Cp : List (Nat × Nat) := [(317, 100), (338, 101), (259, 99), (354, 102), (152, 97), (217, 98), (374, 103), (121, 96), (113, 95), (1001, 104)]
set_option maxRecDepth 100000 in
theorem km_C_ok : ((List.range 10).zip km_Cp).all (fun x => km_gw x.2.1 (.instantiable (km_R x.1) (km_N x.1)) && km_gw x.2.2 (.initialized (km_R x.1))) = true := by decide +kernel
theorem km_C_at {k : Nat} (hk : k < 10) : Cond.instantiable (km_R k) (km_N k) ∈ km_G ∧ Cond.initialized (km_R k) ∈ km_G := by
  have h1 : k < km_Cp.length := hk
  have h2 : ((List.range 10).zip km_Cp)[k]? = some (k, km_Cp[k]) := by
    rw [List.getElem?_zip_eq_some]
    exact ⟨by rw [List.getElem?_range hk], List.getElem?_eq_getElem h1⟩
  have h3 := List.all_eq_true.mp km_C_ok _ (List.mem_of_getElem? h2)
  rw [Bool.and_eq_true] at h3
  exact ⟨km_gw_s h3.1, km_gw_s h3.2⟩
def km_okW (e : Nat × Nat × Nat × Nat × Nat) : Bool := cond (Nat.blt e.2.2.1 10) (km_gw e.2.2.2.2 (.classLink (km_R e.1) e.2.1 (km_R e.2.2.1))) (Nat.beq e.2.2.1 16 && km_gw e.2.2.2.2 (.classLink (km_R e.1) e.2.1 "[[J"))
set_option maxRecDepth 100000 in
theorem km_W_ok : km_W5.all km_okW = true := by decide +kernel
theorem km_ac_byte : Cond.arrayClass .byte ∈ km_G := km_inG (i := 150) (by decide +kernel) rfl
theorem km_ac_int : Cond.arrayClass .int ∈ km_G := km_inG (i := 214) (by decide +kernel) rfl
theorem km_ac_long : Cond.arrayClass .long ∈ km_G := km_inG (i := 336) (by decide +kernel) rfl
theorem km_ac_boolean : Cond.arrayClass .boolean ∈ km_G := km_inG (i := 215) (by decide +kernel) rfl
theorem km_cp1 : Cond.native arraycopyName ∈ km_G := km_gw_s (i := 678) (by decide +kernel)
theorem km_cp2 : Cond.static arraycopyName ∈ km_G := km_gw_s (i := 677) (by decide +kernel)
theorem km_cp3 : Cond.initialized "java/lang/System" ∈ km_G := km_gw_s (i := 111) (by decide +kernel)
theorem km_oi1 : Cond.instanceMethod objectInit ∈ km_G := km_gw_s (i := 118) (by decide +kernel)
theorem km_oi2 : Cond.code objectInit ⟨#[0xb1]⟩ 1 none ∈ km_G := km_gw_s (i := 119) (by decide +kernel)

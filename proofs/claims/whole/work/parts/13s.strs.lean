section KMS
variable {p : Program} {l : Launch} {e : Env} {R : Room} {s : State} {m : MethodId} {args : Array Value} {below : List Frame} {meth : Method} {c : Code} {H : Heap} {locs : List Loc} {Q : State → Prop}
variable {cc : ByteArray} {pc nL : Nat} {LS : Array Slot} {po : Nat} {D : km_D}
theorem km_strs (X : km_Cx D p s m args c cc nL po) (hls : LS.size = nL) {L L' : km_M} {H0 : Heap} {c0 s0 : Nat} (w : km_Wd D s H0 H L locs) (hfr : 8 ≤ R.frames) (hlo : 512 ≤ R.locals) {i : Nat} {xs : Nat → Int32} {Lx : Nat} {it : Bool} {st st' : List Value}
    (h : km_mem xs Lx po it (.invokevirtual i) st L = some (st', L')) (hd : decode cc pc = .ok (.invokevirtual i, 3))
    (k : ∀ (H' : Heap) (locs' : List Loc), km_Wd D s H0 H' L' locs' → km_Go p l e R s m args below meth c D H' locs' L' c0 s0 Q (pc + 3) LS st') : km_Go p l e R s m args below meth c D H locs L c0 s0 Q pc LS st := by
  sorry
end KMS

section KMM
variable {p : Program} {l : Launch} {e : Env} {R : Room} {s : State} {m : MethodId} {args : Array Value} {below : List Frame} {meth : Method} {c : Code} {H : Heap} {locs : List Loc} {Q : State → Prop}
variable {cc : ByteArray} {pc nL : Nat} {LS : Array Slot} {po : Nat} {D : km_D}
theorem km_multi (X : km_Cx D p s m args c cc nL po) {L : km_M} {H0 : Heap} {c0 s0 : Nat} (w : km_Wd D s H0 H L locs) (hc0 : c0 ≤ L.length) (hs0 : s0 ≤ km_sl L)
    {i pl z : Nat} {x y : Int32} {r : List Value} (hf : km_fF km_W5 po i = some (16, z, pl)) (hn : ¬ (x < 0 ∨ 60 < x.toNatClampNeg ∨ y < 0 ∨ 60000000 < y.toNatClampNeg)) (hL : L.length + 100 < km_scr)
    (hR : (L ++ ([(16, x.toNatClampNeg, fun j => Value.ref (L.length + 1 + j))] : km_M) ++ (List.replicate x.toNatClampNeg (12, y.toNatClampNeg, fun _ => Value.long 0) : km_M)).length - c0 ≤ R.cells ∧ km_sl (L ++ ([(16, x.toNatClampNeg, fun j => Value.ref (L.length + 1 + j))] : km_M) ++ (List.replicate x.toNatClampNeg (12, y.toNatClampNeg, fun _ => Value.long 0) : km_M)) - s0 ≤ R.slots)
    (hd : decode cc pc = .ok (.multianewarray i 2, 4))
    (k : ∀ H' : Heap, km_Wd D s H0 H' (L ++ ([(16, x.toNatClampNeg, fun j => Value.ref (L.length + 1 + j))] : km_M) ++ (List.replicate x.toNatClampNeg (12, y.toNatClampNeg, fun _ => Value.long 0) : km_M)) locs → km_Go p l e R s m args below meth c D H' locs (L ++ ([(16, x.toNatClampNeg, fun j => Value.ref (L.length + 1 + j))] : km_M) ++ (List.replicate x.toNatClampNeg (12, y.toNatClampNeg, fun _ => Value.long 0) : km_M)) c0 s0 Q (pc + 4) LS (.ref L.length :: r)) : km_Go p l e R s m args below meth c D H locs L c0 s0 Q pc LS (.int y :: .int x :: r) := by
  sorry
end KMM

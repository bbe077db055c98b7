section
-- ===== PART A: goes FIRST, ahead of the names: the tables' words, and 'selects' of the private methods out of them =====
/-- a private method of a class that the tables say can be made, by its rows of tables_1 -/
def lw_okq (q : MethodName × Nat) : Prop := (q.1.cls ≠ "java/lang/invoke/MethodHandle" ∧ q.1.cls ≠ "java/lang/invoke/VarHandle") ∧ Cond.instantiable q.1.cls q.2 ∈ tables_1 ∧ Cond.privateMethod q.1 ∈ tables_1 ∧ Cond.instanceMethod q.1 ∈ tables_1
theorem lw_p0 : lw_okq (⟨"KnotRows$Reader", "takesTokens", "(LKnotRows$Tape;)Z"⟩, 18) := ⟨⟨by decide +kernel, by decide +kernel⟩, List.mem_of_getElem? (i := 58) (by decide +kernel), List.mem_of_getElem? (i := 370) (by decide +kernel), List.mem_of_getElem? (i := 371) (by decide +kernel)⟩
theorem lw_p1 : lw_okq (⟨"KnotRows$Tape", "byteAt", "(I)I"⟩, 6) := ⟨⟨by decide +kernel, by decide +kernel⟩, List.mem_of_getElem? (i := 27) (by decide +kernel), List.mem_of_getElem? (i := 382) (by decide +kernel), List.mem_of_getElem? (i := 383) (by decide +kernel)⟩
theorem lw_p2 : lw_okq (⟨"KnotRows$Tape", "stepWord", "()V"⟩, 6) := ⟨⟨by decide +kernel, by decide +kernel⟩, List.mem_of_getElem? (i := 27) (by decide +kernel), List.mem_of_getElem? (i := 392) (by decide +kernel), List.mem_of_getElem? (i := 393) (by decide +kernel)⟩
theorem lw_p3 : lw_okq (⟨"KnotRows$Tape", "spells", "(Ljava/lang/String;)Z"⟩, 6) := ⟨⟨by decide +kernel, by decide +kernel⟩, List.mem_of_getElem? (i := 27) (by decide +kernel), List.mem_of_getElem? (i := 397) (by decide +kernel), List.mem_of_getElem? (i := 398) (by decide +kernel)⟩
theorem lw_p4 : lw_okq (⟨"KnotRows$Tape", "stepInt", "()V"⟩, 6) := ⟨⟨by decide +kernel, by decide +kernel⟩, List.mem_of_getElem? (i := 27) (by decide +kernel), List.mem_of_getElem? (i := 455) (by decide +kernel), List.mem_of_getElem? (i := 456) (by decide +kernel)⟩
theorem lw_p5 : lw_okq (⟨"KnotRows$Reader", "fails", "(II)Z"⟩, 18) := ⟨⟨by decide +kernel, by decide +kernel⟩, List.mem_of_getElem? (i := 58) (by decide +kernel), List.mem_of_getElem? (i := 459) (by decide +kernel), List.mem_of_getElem? (i := 460) (by decide +kernel)⟩
theorem lw_p6 : lw_okq (⟨"KnotRows$Reader", "takes", "(ILKnotRows$Tape;)Z"⟩, 18) := ⟨⟨by decide +kernel, by decide +kernel⟩, List.mem_of_getElem? (i := 58) (by decide +kernel), List.mem_of_getElem? (i := 466) (by decide +kernel), List.mem_of_getElem? (i := 467) (by decide +kernel)⟩
theorem lw_p7 : lw_okq (⟨"KnotRows$Reader", "takesRing", "()Z"⟩, 18) := ⟨⟨by decide +kernel, by decide +kernel⟩, List.mem_of_getElem? (i := 58) (by decide +kernel), List.mem_of_getElem? (i := 470) (by decide +kernel), List.mem_of_getElem? (i := 471) (by decide +kernel)⟩
theorem lw_p8 : lw_okq (⟨"KnotRows$Reader", "takesSign", "(Z)Z"⟩, 18) := ⟨⟨by decide +kernel, by decide +kernel⟩, List.mem_of_getElem? (i := 58) (by decide +kernel), List.mem_of_getElem? (i := 474) (by decide +kernel), List.mem_of_getElem? (i := 475) (by decide +kernel)⟩
theorem lw_p9 : lw_okq (⟨"KnotRows$Reader", "takesInt", "(ILKnotRows$Tape;)Z"⟩, 18) := ⟨⟨by decide +kernel, by decide +kernel⟩, List.mem_of_getElem? (i := 58) (by decide +kernel), List.mem_of_getElem? (i := 478) (by decide +kernel), List.mem_of_getElem? (i := 479) (by decide +kernel)⟩
theorem lw_p10 : lw_okq (⟨"KnotRows$Reader", "takesNumber", "()Z"⟩, 18) := ⟨⟨by decide +kernel, by decide +kernel⟩, List.mem_of_getElem? (i := 58) (by decide +kernel), List.mem_of_getElem? (i := 482) (by decide +kernel), List.mem_of_getElem? (i := 483) (by decide +kernel)⟩
theorem lw_p11 : lw_okq (⟨"KnotRows$Reader", "braidStands", "()Z"⟩, 18) := ⟨⟨by decide +kernel, by decide +kernel⟩, List.mem_of_getElem? (i := 58) (by decide +kernel), List.mem_of_getElem? (i := 489) (by decide +kernel), List.mem_of_getElem? (i := 490) (by decide +kernel)⟩
theorem lw_p12 : lw_okq (⟨"KnotRows$Reader", "weave", "(LKnotRows$Rows;)V"⟩, 18) := ⟨⟨by decide +kernel, by decide +kernel⟩, List.mem_of_getElem? (i := 58) (by decide +kernel), List.mem_of_getElem? (i := 493) (by decide +kernel), List.mem_of_getElem? (i := 494) (by decide +kernel)⟩
theorem lw_p13 : lw_okq (⟨"KnotRows$Reader", "placeBehind", "(II)I"⟩, 18) := ⟨⟨by decide +kernel, by decide +kernel⟩, List.mem_of_getElem? (i := 58) (by decide +kernel), List.mem_of_getElem? (i := 497) (by decide +kernel), List.mem_of_getElem? (i := 498) (by decide +kernel)⟩
theorem lw_p14 : lw_okq (⟨"KnotRows$Reader", "ringsStand", "()Z"⟩, 18) := ⟨⟨by decide +kernel, by decide +kernel⟩, List.mem_of_getElem? (i := 58) (by decide +kernel), List.mem_of_getElem? (i := 501) (by decide +kernel), List.mem_of_getElem? (i := 502) (by decide +kernel)⟩
theorem lw_p15 : lw_okq (⟨"KnotRows$Reader", "isPartner", "(III)Z"⟩, 18) := ⟨⟨by decide +kernel, by decide +kernel⟩, List.mem_of_getElem? (i := 58) (by decide +kernel), List.mem_of_getElem? (i := 505) (by decide +kernel), List.mem_of_getElem? (i := 506) (by decide +kernel)⟩
def lw_privs_1 : List (MethodName × Nat) := [(⟨"KnotRows$Reader", "takesTokens", "(LKnotRows$Tape;)Z"⟩, 18), (⟨"KnotRows$Tape", "byteAt", "(I)I"⟩, 6), (⟨"KnotRows$Tape", "stepWord", "()V"⟩, 6), (⟨"KnotRows$Tape", "spells", "(Ljava/lang/String;)Z"⟩, 6), (⟨"KnotRows$Tape", "stepInt", "()V"⟩, 6), (⟨"KnotRows$Reader", "fails", "(II)Z"⟩, 18), (⟨"KnotRows$Reader", "takes", "(ILKnotRows$Tape;)Z"⟩, 18), (⟨"KnotRows$Reader", "takesRing", "()Z"⟩, 18), (⟨"KnotRows$Reader", "takesSign", "(Z)Z"⟩, 18), (⟨"KnotRows$Reader", "takesInt", "(ILKnotRows$Tape;)Z"⟩, 18), (⟨"KnotRows$Reader", "takesNumber", "()Z"⟩, 18), (⟨"KnotRows$Reader", "braidStands", "()Z"⟩, 18), (⟨"KnotRows$Reader", "weave", "(LKnotRows$Rows;)V"⟩, 18), (⟨"KnotRows$Reader", "placeBehind", "(II)I"⟩, 18), (⟨"KnotRows$Reader", "ringsStand", "()Z"⟩, 18), (⟨"KnotRows$Reader", "isPartner", "(III)Z"⟩, 18)]
theorem lw_r1 : ∀ q ∈ lw_privs_1, lw_okq q := List.forall_mem_cons.mpr ⟨lw_p0, List.forall_mem_cons.mpr ⟨lw_p1, List.forall_mem_cons.mpr ⟨lw_p2, List.forall_mem_cons.mpr ⟨lw_p3, List.forall_mem_cons.mpr ⟨lw_p4, List.forall_mem_cons.mpr ⟨lw_p5, List.forall_mem_cons.mpr ⟨lw_p6, List.forall_mem_cons.mpr ⟨lw_p7, List.forall_mem_cons.mpr ⟨lw_p8, List.forall_mem_cons.mpr ⟨lw_p9, List.forall_mem_cons.mpr ⟨lw_p10, List.forall_mem_cons.mpr ⟨lw_p11, List.forall_mem_cons.mpr ⟨lw_p12, List.forall_mem_cons.mpr ⟨lw_p13, List.forall_mem_cons.mpr ⟨lw_p14, List.forall_mem_cons.mpr ⟨lw_p15, fun _ h => absurd h List.not_mem_nil⟩⟩⟩⟩⟩⟩⟩⟩⟩⟩⟩⟩⟩⟩⟩⟩
theorem lw_p16 : lw_okq (⟨"KnotRows$Reader", "string", "(LKnotRows$Rows;)V"⟩, 18) := ⟨⟨by decide +kernel, by decide +kernel⟩, List.mem_of_getElem? (i := 58) (by decide +kernel), List.mem_of_getElem? (i := 509) (by decide +kernel), List.mem_of_getElem? (i := 510) (by decide +kernel)⟩
theorem lw_p17 : lw_okq (⟨"KnotRows$Drawing", "joinPasses", "(LKnotRows$Rows;)V"⟩, 11) := ⟨⟨by decide +kernel, by decide +kernel⟩, List.mem_of_getElem? (i := 165) (by decide +kernel), List.mem_of_getElem? (i := 517) (by decide +kernel), List.mem_of_getElem? (i := 518) (by decide +kernel)⟩
theorem lw_p18 : lw_okq (⟨"KnotRows$Drawing", "joinEnds", "(LKnotRows$Rows;)V"⟩, 11) := ⟨⟨by decide +kernel, by decide +kernel⟩, List.mem_of_getElem? (i := 165) (by decide +kernel), List.mem_of_getElem? (i := 521) (by decide +kernel), List.mem_of_getElem? (i := 522) (by decide +kernel)⟩
theorem lw_p19 : lw_okq (⟨"KnotRows$Drawing", "joinEnd", "(II)V"⟩, 11) := ⟨⟨by decide +kernel, by decide +kernel⟩, List.mem_of_getElem? (i := 165) (by decide +kernel), List.mem_of_getElem? (i := 537) (by decide +kernel), List.mem_of_getElem? (i := 538) (by decide +kernel)⟩
theorem lw_p20 : lw_okq (⟨"KnotRows$Drawing", "walkFaces", "(I)V"⟩, 11) := ⟨⟨by decide +kernel, by decide +kernel⟩, List.mem_of_getElem? (i := 165) (by decide +kernel), List.mem_of_getElem? (i := 541) (by decide +kernel), List.mem_of_getElem? (i := 542) (by decide +kernel)⟩
theorem lw_p21 : lw_okq (⟨"KnotRows$Drawing", "judged", "(LKnotRows$Rows;I)I"⟩, 11) := ⟨⟨by decide +kernel, by decide +kernel⟩, List.mem_of_getElem? (i := 165) (by decide +kernel), List.mem_of_getElem? (i := 545) (by decide +kernel), List.mem_of_getElem? (i := 546) (by decide +kernel)⟩
theorem lw_p22 : lw_okq (⟨"KnotRows$Drawing", "partWith", "(LKnotRows$Rows;I)I"⟩, 11) := ⟨⟨by decide +kernel, by decide +kernel⟩, List.mem_of_getElem? (i := 165) (by decide +kernel), List.mem_of_getElem? (i := 571) (by decide +kernel), List.mem_of_getElem? (i := 572) (by decide +kernel)⟩
theorem lw_p23 : lw_okq (⟨"KnotRows", "changed", "()V"⟩, 17) := ⟨⟨by decide +kernel, by decide +kernel⟩, List.mem_of_getElem? (i := 19) (by decide +kernel), List.mem_of_getElem? (i := 586) (by decide +kernel), List.mem_of_getElem? (i := 587) (by decide +kernel)⟩
theorem lw_p24 : lw_okq (⟨"KnotRows$Arcs", "fill", "(LKnotRows$Rows;II)V"⟩, 3) := ⟨⟨by decide +kernel, by decide +kernel⟩, List.mem_of_getElem? (i := 223) (by decide +kernel), List.mem_of_getElem? (i := 596) (by decide +kernel), List.mem_of_getElem? (i := 597) (by decide +kernel)⟩
theorem lw_p25 : lw_okq (⟨"KnotRows$Arcs", "numberRing", "(LKnotRows$Rows;II)I"⟩, 3) := ⟨⟨by decide +kernel, by decide +kernel⟩, List.mem_of_getElem? (i := 223) (by decide +kernel), List.mem_of_getElem? (i := 600) (by decide +kernel), List.mem_of_getElem? (i := 601) (by decide +kernel)⟩
theorem lw_p26 : lw_okq (⟨"KnotRows", "kindOfFace", "(I)I"⟩, 17) := ⟨⟨by decide +kernel, by decide +kernel⟩, List.mem_of_getElem? (i := 19) (by decide +kernel), List.mem_of_getElem? (i := 612) (by decide +kernel), List.mem_of_getElem? (i := 613) (by decide +kernel)⟩
theorem lw_p27 : lw_okq (⟨"KnotRows$Rows", "swap", "(II)V"⟩, 5) := ⟨⟨by decide +kernel, by decide +kernel⟩, List.mem_of_getElem? (i := 123) (by decide +kernel), List.mem_of_getElem? (i := 642) (by decide +kernel), List.mem_of_getElem? (i := 643) (by decide +kernel)⟩
theorem lw_p28 : lw_okq (⟨"KnotRows", "holds", "(I)Z"⟩, 17) := ⟨⟨by decide +kernel, by decide +kernel⟩, List.mem_of_getElem? (i := 19) (by decide +kernel), List.mem_of_getElem? (i := 699) (by decide +kernel), List.mem_of_getElem? (i := 700) (by decide +kernel)⟩
theorem lw_p29 : lw_okq (⟨"KnotRows", "ownBracket", "()LKnotRows$Bracket;"⟩, 17) := ⟨⟨by decide +kernel, by decide +kernel⟩, List.mem_of_getElem? (i := 19) (by decide +kernel), List.mem_of_getElem? (i := 754) (by decide +kernel), List.mem_of_getElem? (i := 755) (by decide +kernel)⟩
theorem lw_p30 : lw_okq (⟨"KnotRows$Bracket", "tallyStates", "(LKnotRows$Rows;LKnotRows$Drawing;)V"⟩, 3) := ⟨⟨by decide +kernel, by decide +kernel⟩, List.mem_of_getElem? (i := 244) (by decide +kernel), List.mem_of_getElem? (i := 766) (by decide +kernel), List.mem_of_getElem? (i := 767) (by decide +kernel)⟩
theorem lw_p31 : lw_okq (⟨"KnotRows$Bracket", "addPower", "(III)V"⟩, 3) := ⟨⟨by decide +kernel, by decide +kernel⟩, List.mem_of_getElem? (i := 244) (by decide +kernel), List.mem_of_getElem? (i := 773) (by decide +kernel), List.mem_of_getElem? (i := 774) (by decide +kernel)⟩
def lw_privs_2 : List (MethodName × Nat) := [(⟨"KnotRows$Reader", "string", "(LKnotRows$Rows;)V"⟩, 18), (⟨"KnotRows$Drawing", "joinPasses", "(LKnotRows$Rows;)V"⟩, 11), (⟨"KnotRows$Drawing", "joinEnds", "(LKnotRows$Rows;)V"⟩, 11), (⟨"KnotRows$Drawing", "joinEnd", "(II)V"⟩, 11), (⟨"KnotRows$Drawing", "walkFaces", "(I)V"⟩, 11), (⟨"KnotRows$Drawing", "judged", "(LKnotRows$Rows;I)I"⟩, 11), (⟨"KnotRows$Drawing", "partWith", "(LKnotRows$Rows;I)I"⟩, 11), (⟨"KnotRows", "changed", "()V"⟩, 17), (⟨"KnotRows$Arcs", "fill", "(LKnotRows$Rows;II)V"⟩, 3), (⟨"KnotRows$Arcs", "numberRing", "(LKnotRows$Rows;II)I"⟩, 3), (⟨"KnotRows", "kindOfFace", "(I)I"⟩, 17), (⟨"KnotRows$Rows", "swap", "(II)V"⟩, 5), (⟨"KnotRows", "holds", "(I)Z"⟩, 17), (⟨"KnotRows", "ownBracket", "()LKnotRows$Bracket;"⟩, 17), (⟨"KnotRows$Bracket", "tallyStates", "(LKnotRows$Rows;LKnotRows$Drawing;)V"⟩, 3), (⟨"KnotRows$Bracket", "addPower", "(III)V"⟩, 3)]
theorem lw_r2 : ∀ q ∈ lw_privs_2, lw_okq q := List.forall_mem_cons.mpr ⟨lw_p16, List.forall_mem_cons.mpr ⟨lw_p17, List.forall_mem_cons.mpr ⟨lw_p18, List.forall_mem_cons.mpr ⟨lw_p19, List.forall_mem_cons.mpr ⟨lw_p20, List.forall_mem_cons.mpr ⟨lw_p21, List.forall_mem_cons.mpr ⟨lw_p22, List.forall_mem_cons.mpr ⟨lw_p23, List.forall_mem_cons.mpr ⟨lw_p24, List.forall_mem_cons.mpr ⟨lw_p25, List.forall_mem_cons.mpr ⟨lw_p26, List.forall_mem_cons.mpr ⟨lw_p27, List.forall_mem_cons.mpr ⟨lw_p28, List.forall_mem_cons.mpr ⟨lw_p29, List.forall_mem_cons.mpr ⟨lw_p30, List.forall_mem_cons.mpr ⟨lw_p31, fun _ h => absurd h List.not_mem_nil⟩⟩⟩⟩⟩⟩⟩⟩⟩⟩⟩⟩⟩⟩⟩⟩
theorem lw_p32 : lw_okq (⟨"KnotRows$Arcs", "writeRows", "(LKnotRows$Rows;LKnotRows$Drawing;)V"⟩, 3) := ⟨⟨by decide +kernel, by decide +kernel⟩, List.mem_of_getElem? (i := 223) (by decide +kernel), List.mem_of_getElem? (i := 799) (by decide +kernel), List.mem_of_getElem? (i := 800) (by decide +kernel)⟩
theorem lw_p33 : lw_okq (⟨"KnotRows$Arcs", "rank", "(II)I"⟩, 3) := ⟨⟨by decide +kernel, by decide +kernel⟩, List.mem_of_getElem? (i := 223) (by decide +kernel), List.mem_of_getElem? (i := 807) (by decide +kernel), List.mem_of_getElem? (i := 808) (by decide +kernel)⟩
theorem lw_p34 : lw_okq (⟨"KnotRows$Arcs", "pivotRow", "(III)I"⟩, 3) := ⟨⟨by decide +kernel, by decide +kernel⟩, List.mem_of_getElem? (i := 223) (by decide +kernel), List.mem_of_getElem? (i := 811) (by decide +kernel), List.mem_of_getElem? (i := 812) (by decide +kernel)⟩
theorem lw_p35 : lw_okq (⟨"KnotRows$Arcs", "swapRows", "(II)V"⟩, 3) := ⟨⟨by decide +kernel, by decide +kernel⟩, List.mem_of_getElem? (i := 223) (by decide +kernel), List.mem_of_getElem? (i := 815) (by decide +kernel), List.mem_of_getElem? (i := 816) (by decide +kernel)⟩
theorem lw_p36 : lw_okq (⟨"KnotRows$Arcs", "clear", "(IIII)V"⟩, 3) := ⟨⟨by decide +kernel, by decide +kernel⟩, List.mem_of_getElem? (i := 223) (by decide +kernel), List.mem_of_getElem? (i := 819) (by decide +kernel), List.mem_of_getElem? (i := 820) (by decide +kernel)⟩
theorem lw_p37 : lw_okq (⟨"KnotRows", "fewestSwitches", "()I"⟩, 17) := ⟨⟨by decide +kernel, by decide +kernel⟩, List.mem_of_getElem? (i := 19) (by decide +kernel), List.mem_of_getElem? (i := 827) (by decide +kernel), List.mem_of_getElem? (i := 828) (by decide +kernel)⟩
theorem lw_p38 : lw_okq (⟨"KnotRows", "comesLoose", "(I)Z"⟩, 17) := ⟨⟨by decide +kernel, by decide +kernel⟩, List.mem_of_getElem? (i := 19) (by decide +kernel), List.mem_of_getElem? (i := 832) (by decide +kernel), List.mem_of_getElem? (i := 833) (by decide +kernel)⟩
theorem lw_p39 : lw_okq (⟨"KnotRows$Arcs", "eliminated", "(I)J"⟩, 3) := ⟨⟨by decide +kernel, by decide +kernel⟩, List.mem_of_getElem? (i := 223) (by decide +kernel), List.mem_of_getElem? (i := 882) (by decide +kernel), List.mem_of_getElem? (i := 883) (by decide +kernel)⟩
theorem lw_p40 : lw_okq (⟨"KnotRows", "slotsHeld", "()I"⟩, 17) := ⟨⟨by decide +kernel, by decide +kernel⟩, List.mem_of_getElem? (i := 19) (by decide +kernel), List.mem_of_getElem? (i := 903) (by decide +kernel), List.mem_of_getElem? (i := 904) (by decide +kernel)⟩
theorem lw_p41 : lw_okq (⟨"KnotRowsModel", "lays", "(I)V"⟩, 52) := ⟨⟨by decide +kernel, by decide +kernel⟩, List.mem_of_getElem? (i := 907) (by decide +kernel), List.mem_of_getElem? (i := 1080) (by decide +kernel), List.mem_of_getElem? (i := 1081) (by decide +kernel)⟩
theorem lw_p42 : lw_okq (⟨"KnotRowsModel", "cutsText", "()V"⟩, 52) := ⟨⟨by decide +kernel, by decide +kernel⟩, List.mem_of_getElem? (i := 907) (by decide +kernel), List.mem_of_getElem? (i := 1092) (by decide +kernel), List.mem_of_getElem? (i := 1093) (by decide +kernel)⟩
theorem lw_p43 : lw_okq (⟨"KnotRowsModel", "byteAt", "(I)I"⟩, 52) := ⟨⟨by decide +kernel, by decide +kernel⟩, List.mem_of_getElem? (i := 907) (by decide +kernel), List.mem_of_getElem? (i := 1096) (by decide +kernel), List.mem_of_getElem? (i := 1097) (by decide +kernel)⟩
theorem lw_p44 : lw_okq (⟨"KnotRowsModel", "token", "(IIIJ)V"⟩, 52) := ⟨⟨by decide +kernel, by decide +kernel⟩, List.mem_of_getElem? (i := 907) (by decide +kernel), List.mem_of_getElem? (i := 1100) (by decide +kernel), List.mem_of_getElem? (i := 1101) (by decide +kernel)⟩
theorem lw_p45 : lw_okq (⟨"KnotRowsModel", "sign", "(II)I"⟩, 52) := ⟨⟨by decide +kernel, by decide +kernel⟩, List.mem_of_getElem? (i := 907) (by decide +kernel), List.mem_of_getElem? (i := 1110) (by decide +kernel), List.mem_of_getElem? (i := 1111) (by decide +kernel)⟩
theorem lw_p46 : lw_okq (⟨"KnotRowsModel", "is", "(I)Z"⟩, 52) := ⟨⟨by decide +kernel, by decide +kernel⟩, List.mem_of_getElem? (i := 907) (by decide +kernel), List.mem_of_getElem? (i := 1114) (by decide +kernel), List.mem_of_getElem? (i := 1115) (by decide +kernel)⟩
theorem lw_p47 : lw_okq (⟨"KnotRowsModel", "tellBraid", "()V"⟩, 52) := ⟨⟨by decide +kernel, by decide +kernel⟩, List.mem_of_getElem? (i := 907) (by decide +kernel), List.mem_of_getElem? (i := 1118) (by decide +kernel), List.mem_of_getElem? (i := 1119) (by decide +kernel)⟩
def lw_privs_3 : List (MethodName × Nat) := [(⟨"KnotRows$Arcs", "writeRows", "(LKnotRows$Rows;LKnotRows$Drawing;)V"⟩, 3), (⟨"KnotRows$Arcs", "rank", "(II)I"⟩, 3), (⟨"KnotRows$Arcs", "pivotRow", "(III)I"⟩, 3), (⟨"KnotRows$Arcs", "swapRows", "(II)V"⟩, 3), (⟨"KnotRows$Arcs", "clear", "(IIII)V"⟩, 3), (⟨"KnotRows", "fewestSwitches", "()I"⟩, 17), (⟨"KnotRows", "comesLoose", "(I)Z"⟩, 17), (⟨"KnotRows$Arcs", "eliminated", "(I)J"⟩, 3), (⟨"KnotRows", "slotsHeld", "()I"⟩, 17), (⟨"KnotRowsModel", "lays", "(I)V"⟩, 52), (⟨"KnotRowsModel", "cutsText", "()V"⟩, 52), (⟨"KnotRowsModel", "byteAt", "(I)I"⟩, 52), (⟨"KnotRowsModel", "token", "(IIIJ)V"⟩, 52), (⟨"KnotRowsModel", "sign", "(II)I"⟩, 52), (⟨"KnotRowsModel", "is", "(I)Z"⟩, 52), (⟨"KnotRowsModel", "tellBraid", "()V"⟩, 52)]
theorem lw_r3 : ∀ q ∈ lw_privs_3, lw_okq q := List.forall_mem_cons.mpr ⟨lw_p32, List.forall_mem_cons.mpr ⟨lw_p33, List.forall_mem_cons.mpr ⟨lw_p34, List.forall_mem_cons.mpr ⟨lw_p35, List.forall_mem_cons.mpr ⟨lw_p36, List.forall_mem_cons.mpr ⟨lw_p37, List.forall_mem_cons.mpr ⟨lw_p38, List.forall_mem_cons.mpr ⟨lw_p39, List.forall_mem_cons.mpr ⟨lw_p40, List.forall_mem_cons.mpr ⟨lw_p41, List.forall_mem_cons.mpr ⟨lw_p42, List.forall_mem_cons.mpr ⟨lw_p43, List.forall_mem_cons.mpr ⟨lw_p44, List.forall_mem_cons.mpr ⟨lw_p45, List.forall_mem_cons.mpr ⟨lw_p46, List.forall_mem_cons.mpr ⟨lw_p47, fun _ h => absurd h List.not_mem_nil⟩⟩⟩⟩⟩⟩⟩⟩⟩⟩⟩⟩⟩⟩⟩⟩
theorem lw_p48 : lw_okq (⟨"KnotRowsModel", "passes", "()V"⟩, 52) := ⟨⟨by decide +kernel, by decide +kernel⟩, List.mem_of_getElem? (i := 907) (by decide +kernel), List.mem_of_getElem? (i := 1122) (by decide +kernel), List.mem_of_getElem? (i := 1123) (by decide +kernel)⟩
theorem lw_p49 : lw_okq (⟨"KnotRowsModel", "fail", "(I)V"⟩, 52) := ⟨⟨by decide +kernel, by decide +kernel⟩, List.mem_of_getElem? (i := 907) (by decide +kernel), List.mem_of_getElem? (i := 1126) (by decide +kernel), List.mem_of_getElem? (i := 1127) (by decide +kernel)⟩
theorem lw_p50 : lw_okq (⟨"KnotRowsModel", "must", "(I)V"⟩, 52) := ⟨⟨by decide +kernel, by decide +kernel⟩, List.mem_of_getElem? (i := 907) (by decide +kernel), List.mem_of_getElem? (i := 1130) (by decide +kernel), List.mem_of_getElem? (i := 1131) (by decide +kernel)⟩
theorem lw_p51 : lw_okq (⟨"KnotRowsModel", "tellRing", "()V"⟩, 52) := ⟨⟨by decide +kernel, by decide +kernel⟩, List.mem_of_getElem? (i := 907) (by decide +kernel), List.mem_of_getElem? (i := 1134) (by decide +kernel), List.mem_of_getElem? (i := 1135) (by decide +kernel)⟩
theorem lw_p52 : lw_okq (⟨"KnotRowsModel", "meets", "(I)V"⟩, 52) := ⟨⟨by decide +kernel, by decide +kernel⟩, List.mem_of_getElem? (i := 907) (by decide +kernel), List.mem_of_getElem? (i := 1138) (by decide +kernel), List.mem_of_getElem? (i := 1139) (by decide +kernel)⟩
theorem lw_p53 : lw_okq (⟨"KnotRowsModel", "unlikeAt", "(I)I"⟩, 52) := ⟨⟨by decide +kernel, by decide +kernel⟩, List.mem_of_getElem? (i := 907) (by decide +kernel), List.mem_of_getElem? (i := 1142) (by decide +kernel), List.mem_of_getElem? (i := 1143) (by decide +kernel)⟩
theorem lw_p54 : lw_okq (⟨"KnotRowsModel", "means", "()V"⟩, 52) := ⟨⟨by decide +kernel, by decide +kernel⟩, List.mem_of_getElem? (i := 907) (by decide +kernel), List.mem_of_getElem? (i := 1146) (by decide +kernel), List.mem_of_getElem? (i := 1147) (by decide +kernel)⟩
theorem lw_p55 : lw_okq (⟨"KnotRowsModel", "meansBraid", "()V"⟩, 52) := ⟨⟨by decide +kernel, by decide +kernel⟩, List.mem_of_getElem? (i := 907) (by decide +kernel), List.mem_of_getElem? (i := 1150) (by decide +kernel), List.mem_of_getElem? (i := 1151) (by decide +kernel)⟩
theorem lw_p56 : lw_okq (⟨"KnotRowsModel", "wrong", "(II)V"⟩, 52) := ⟨⟨by decide +kernel, by decide +kernel⟩, List.mem_of_getElem? (i := 907) (by decide +kernel), List.mem_of_getElem? (i := 1157) (by decide +kernel), List.mem_of_getElem? (i := 1158) (by decide +kernel)⟩
theorem lw_p57 : lw_okq (⟨"KnotRowsModel", "goesDown", "(II)I"⟩, 52) := ⟨⟨by decide +kernel, by decide +kernel⟩, List.mem_of_getElem? (i := 907) (by decide +kernel), List.mem_of_getElem? (i := 1164) (by decide +kernel), List.mem_of_getElem? (i := 1165) (by decide +kernel)⟩
theorem lw_p58 : lw_okq (⟨"KnotRowsModel", "meansRings", "()V"⟩, 52) := ⟨⟨by decide +kernel, by decide +kernel⟩, List.mem_of_getElem? (i := 907) (by decide +kernel), List.mem_of_getElem? (i := 1171) (by decide +kernel), List.mem_of_getElem? (i := 1172) (by decide +kernel)⟩
theorem lw_p59 : lw_okq (⟨"KnotRowsModel", "lacks", "()V"⟩, 52) := ⟨⟨by decide +kernel, by decide +kernel⟩, List.mem_of_getElem? (i := 907) (by decide +kernel), List.mem_of_getElem? (i := 1175) (by decide +kernel), List.mem_of_getElem? (i := 1176) (by decide +kernel)⟩
theorem lw_p60 : lw_okq (⟨"KnotRowsModel", "canBeDrawn", "([I)Z"⟩, 52) := ⟨⟨by decide +kernel, by decide +kernel⟩, List.mem_of_getElem? (i := 907) (by decide +kernel), List.mem_of_getElem? (i := 1179) (by decide +kernel), List.mem_of_getElem? (i := 1180) (by decide +kernel)⟩
theorem lw_p61 : lw_okq (⟨"KnotRowsModel", "laysFaces", "([I)I"⟩, 52) := ⟨⟨by decide +kernel, by decide +kernel⟩, List.mem_of_getElem? (i := 907) (by decide +kernel), List.mem_of_getElem? (i := 1183) (by decide +kernel), List.mem_of_getElem? (i := 1184) (by decide +kernel)⟩
theorem lw_p62 : lw_okq (⟨"KnotRowsModel", "laysEdges", "([I)V"⟩, 52) := ⟨⟨by decide +kernel, by decide +kernel⟩, List.mem_of_getElem? (i := 907) (by decide +kernel), List.mem_of_getElem? (i := 1187) (by decide +kernel), List.mem_of_getElem? (i := 1188) (by decide +kernel)⟩
theorem lw_p63 : lw_okq (⟨"KnotRowsModel", "endIn", "([II)I"⟩, 52) := ⟨⟨by decide +kernel, by decide +kernel⟩, List.mem_of_getElem? (i := 907) (by decide +kernel), List.mem_of_getElem? (i := 1191) (by decide +kernel), List.mem_of_getElem? (i := 1192) (by decide +kernel)⟩
def lw_privs_4 : List (MethodName × Nat) := [(⟨"KnotRowsModel", "passes", "()V"⟩, 52), (⟨"KnotRowsModel", "fail", "(I)V"⟩, 52), (⟨"KnotRowsModel", "must", "(I)V"⟩, 52), (⟨"KnotRowsModel", "tellRing", "()V"⟩, 52), (⟨"KnotRowsModel", "meets", "(I)V"⟩, 52), (⟨"KnotRowsModel", "unlikeAt", "(I)I"⟩, 52), (⟨"KnotRowsModel", "means", "()V"⟩, 52), (⟨"KnotRowsModel", "meansBraid", "()V"⟩, 52), (⟨"KnotRowsModel", "wrong", "(II)V"⟩, 52), (⟨"KnotRowsModel", "goesDown", "(II)I"⟩, 52), (⟨"KnotRowsModel", "meansRings", "()V"⟩, 52), (⟨"KnotRowsModel", "lacks", "()V"⟩, 52), (⟨"KnotRowsModel", "canBeDrawn", "([I)Z"⟩, 52), (⟨"KnotRowsModel", "laysFaces", "([I)I"⟩, 52), (⟨"KnotRowsModel", "laysEdges", "([I)V"⟩, 52), (⟨"KnotRowsModel", "endIn", "([II)I"⟩, 52)]
theorem lw_r4 : ∀ q ∈ lw_privs_4, lw_okq q := List.forall_mem_cons.mpr ⟨lw_p48, List.forall_mem_cons.mpr ⟨lw_p49, List.forall_mem_cons.mpr ⟨lw_p50, List.forall_mem_cons.mpr ⟨lw_p51, List.forall_mem_cons.mpr ⟨lw_p52, List.forall_mem_cons.mpr ⟨lw_p53, List.forall_mem_cons.mpr ⟨lw_p54, List.forall_mem_cons.mpr ⟨lw_p55, List.forall_mem_cons.mpr ⟨lw_p56, List.forall_mem_cons.mpr ⟨lw_p57, List.forall_mem_cons.mpr ⟨lw_p58, List.forall_mem_cons.mpr ⟨lw_p59, List.forall_mem_cons.mpr ⟨lw_p60, List.forall_mem_cons.mpr ⟨lw_p61, List.forall_mem_cons.mpr ⟨lw_p62, List.forall_mem_cons.mpr ⟨lw_p63, fun _ h => absurd h List.not_mem_nil⟩⟩⟩⟩⟩⟩⟩⟩⟩⟩⟩⟩⟩⟩⟩⟩
theorem lw_p64 : lw_okq (⟨"KnotRowsModel", "turnsTo", "([II)I"⟩, 52) := ⟨⟨by decide +kernel, by decide +kernel⟩, List.mem_of_getElem? (i := 907) (by decide +kernel), List.mem_of_getElem? (i := 1195) (by decide +kernel), List.mem_of_getElem? (i := 1196) (by decide +kernel)⟩
theorem lw_p65 : lw_okq (⟨"KnotRowsModel", "partsOf", "([I)I"⟩, 52) := ⟨⟨by decide +kernel, by decide +kernel⟩, List.mem_of_getElem? (i := 907) (by decide +kernel), List.mem_of_getElem? (i := 1199) (by decide +kernel), List.mem_of_getElem? (i := 1200) (by decide +kernel)⟩
theorem lw_p66 : lw_okq (⟨"KnotRowsModel", "joins", "(III)I"⟩, 52) := ⟨⟨by decide +kernel, by decide +kernel⟩, List.mem_of_getElem? (i := 907) (by decide +kernel), List.mem_of_getElem? (i := 1203) (by decide +kernel), List.mem_of_getElem? (i := 1204) (by decide +kernel)⟩
theorem lw_p67 : lw_okq (⟨"KnotRowsModel", "hasHeld", "(I)Z"⟩, 52) := ⟨⟨by decide +kernel, by decide +kernel⟩, List.mem_of_getElem? (i := 907) (by decide +kernel), List.mem_of_getElem? (i := 1226) (by decide +kernel), List.mem_of_getElem? (i := 1227) (by decide +kernel)⟩
theorem lw_p68 : lw_okq (⟨"KnotRowsModel", "kindOf", "([II)I"⟩, 52) := ⟨⟨by decide +kernel, by decide +kernel⟩, List.mem_of_getElem? (i := 907) (by decide +kernel), List.mem_of_getElem? (i := 1234) (by decide +kernel), List.mem_of_getElem? (i := 1235) (by decide +kernel)⟩
theorem lw_p69 : lw_okq (⟨"KnotRowsModel", "crossingBehind", "(I)I"⟩, 52) := ⟨⟨by decide +kernel, by decide +kernel⟩, List.mem_of_getElem? (i := 907) (by decide +kernel), List.mem_of_getElem? (i := 1238) (by decide +kernel), List.mem_of_getElem? (i := 1239) (by decide +kernel)⟩
theorem lw_p70 : lw_okq (⟨"KnotRowsModel", "oversOf", "(I)I"⟩, 52) := ⟨⟨by decide +kernel, by decide +kernel⟩, List.mem_of_getElem? (i := 907) (by decide +kernel), List.mem_of_getElem? (i := 1242) (by decide +kernel), List.mem_of_getElem? (i := 1243) (by decide +kernel)⟩
theorem lw_p71 : lw_okq (⟨"KnotRowsModel", "marks", "()V"⟩, 52) := ⟨⟨by decide +kernel, by decide +kernel⟩, List.mem_of_getElem? (i := 907) (by decide +kernel), List.mem_of_getElem? (i := 1246) (by decide +kernel), List.mem_of_getElem? (i := 1247) (by decide +kernel)⟩
theorem lw_p72 : lw_okq (⟨"KnotRowsModel", "goesOut", "([II)V"⟩, 52) := ⟨⟨by decide +kernel, by decide +kernel⟩, List.mem_of_getElem? (i := 907) (by decide +kernel), List.mem_of_getElem? (i := 1250) (by decide +kernel), List.mem_of_getElem? (i := 1251) (by decide +kernel)⟩
theorem lw_p73 : lw_okq (⟨"KnotRowsModel", "slides", "([II)V"⟩, 52) := ⟨⟨by decide +kernel, by decide +kernel⟩, List.mem_of_getElem? (i := 907) (by decide +kernel), List.mem_of_getElem? (i := 1261) (by decide +kernel), List.mem_of_getElem? (i := 1262) (by decide +kernel)⟩
theorem lw_p74 : lw_okq (⟨"KnotRowsModel", "exchanges", "([II)V"⟩, 52) := ⟨⟨by decide +kernel, by decide +kernel⟩, List.mem_of_getElem? (i := 907) (by decide +kernel), List.mem_of_getElem? (i := 1265) (by decide +kernel), List.mem_of_getElem? (i := 1266) (by decide +kernel)⟩
theorem lw_p75 : lw_okq (⟨"KnotRowsModel", "whereOf", "([II)I"⟩, 52) := ⟨⟨by decide +kernel, by decide +kernel⟩, List.mem_of_getElem? (i := 907) (by decide +kernel), List.mem_of_getElem? (i := 1269) (by decide +kernel), List.mem_of_getElem? (i := 1270) (by decide +kernel)⟩
theorem lw_p76 : lw_okq (⟨"KnotRowsModel", "loosens", "([I)I"⟩, 52) := ⟨⟨by decide +kernel, by decide +kernel⟩, List.mem_of_getElem? (i := 907) (by decide +kernel), List.mem_of_getElem? (i := 1281) (by decide +kernel), List.mem_of_getElem? (i := 1282) (by decide +kernel)⟩
theorem lw_p77 : lw_okq (⟨"KnotRowsModel", "firstOf", "([II)I"⟩, 52) := ⟨⟨by decide +kernel, by decide +kernel⟩, List.mem_of_getElem? (i := 907) (by decide +kernel), List.mem_of_getElem? (i := 1285) (by decide +kernel), List.mem_of_getElem? (i := 1286) (by decide +kernel)⟩
theorem lw_p78 : lw_okq (⟨"KnotRowsModel", "laysArcs", "([I)I"⟩, 52) := ⟨⟨by decide +kernel, by decide +kernel⟩, List.mem_of_getElem? (i := 907) (by decide +kernel), List.mem_of_getElem? (i := 1317) (by decide +kernel), List.mem_of_getElem? (i := 1318) (by decide +kernel)⟩
theorem lw_p79 : lw_okq (⟨"KnotRowsModel", "passAt", "(II)I"⟩, 52) := ⟨⟨by decide +kernel, by decide +kernel⟩, List.mem_of_getElem? (i := 907) (by decide +kernel), List.mem_of_getElem? (i := 1321) (by decide +kernel), List.mem_of_getElem? (i := 1322) (by decide +kernel)⟩
def lw_privs_5 : List (MethodName × Nat) := [(⟨"KnotRowsModel", "turnsTo", "([II)I"⟩, 52), (⟨"KnotRowsModel", "partsOf", "([I)I"⟩, 52), (⟨"KnotRowsModel", "joins", "(III)I"⟩, 52), (⟨"KnotRowsModel", "hasHeld", "(I)Z"⟩, 52), (⟨"KnotRowsModel", "kindOf", "([II)I"⟩, 52), (⟨"KnotRowsModel", "crossingBehind", "(I)I"⟩, 52), (⟨"KnotRowsModel", "oversOf", "(I)I"⟩, 52), (⟨"KnotRowsModel", "marks", "()V"⟩, 52), (⟨"KnotRowsModel", "goesOut", "([II)V"⟩, 52), (⟨"KnotRowsModel", "slides", "([II)V"⟩, 52), (⟨"KnotRowsModel", "exchanges", "([II)V"⟩, 52), (⟨"KnotRowsModel", "whereOf", "([II)I"⟩, 52), (⟨"KnotRowsModel", "loosens", "([I)I"⟩, 52), (⟨"KnotRowsModel", "firstOf", "([II)I"⟩, 52), (⟨"KnotRowsModel", "laysArcs", "([I)I"⟩, 52), (⟨"KnotRowsModel", "passAt", "(II)I"⟩, 52)]
theorem lw_r5 : ∀ q ∈ lw_privs_5, lw_okq q := List.forall_mem_cons.mpr ⟨lw_p64, List.forall_mem_cons.mpr ⟨lw_p65, List.forall_mem_cons.mpr ⟨lw_p66, List.forall_mem_cons.mpr ⟨lw_p67, List.forall_mem_cons.mpr ⟨lw_p68, List.forall_mem_cons.mpr ⟨lw_p69, List.forall_mem_cons.mpr ⟨lw_p70, List.forall_mem_cons.mpr ⟨lw_p71, List.forall_mem_cons.mpr ⟨lw_p72, List.forall_mem_cons.mpr ⟨lw_p73, List.forall_mem_cons.mpr ⟨lw_p74, List.forall_mem_cons.mpr ⟨lw_p75, List.forall_mem_cons.mpr ⟨lw_p76, List.forall_mem_cons.mpr ⟨lw_p77, List.forall_mem_cons.mpr ⟨lw_p78, List.forall_mem_cons.mpr ⟨lw_p79, fun _ h => absurd h List.not_mem_nil⟩⟩⟩⟩⟩⟩⟩⟩⟩⟩⟩⟩⟩⟩⟩⟩
theorem lw_p80 : lw_okq (⟨"KnotRowsModel", "loopsOf", "([II)I"⟩, 52) := ⟨⟨by decide +kernel, by decide +kernel⟩, List.mem_of_getElem? (i := 907) (by decide +kernel), List.mem_of_getElem? (i := 1333) (by decide +kernel), List.mem_of_getElem? (i := 1334) (by decide +kernel)⟩
theorem lw_p81 : lw_okq (⟨"KnotRowsModel", "laysBracket", "([I)V"⟩, 52) := ⟨⟨by decide +kernel, by decide +kernel⟩, List.mem_of_getElem? (i := 907) (by decide +kernel), List.mem_of_getElem? (i := 1344) (by decide +kernel), List.mem_of_getElem? (i := 1345) (by decide +kernel)⟩
theorem lw_p82 : lw_okq (⟨"KnotRowsModel", "timesLoop", "()V"⟩, 52) := ⟨⟨by decide +kernel, by decide +kernel⟩, List.mem_of_getElem? (i := 907) (by decide +kernel), List.mem_of_getElem? (i := 1351) (by decide +kernel), List.mem_of_getElem? (i := 1352) (by decide +kernel)⟩
theorem lw_p83 : lw_okq (⟨"KnotRowsModel", "knottedAt", "([II)I"⟩, 52) := ⟨⟨by decide +kernel, by decide +kernel⟩, List.mem_of_getElem? (i := 907) (by decide +kernel), List.mem_of_getElem? (i := 1355) (by decide +kernel), List.mem_of_getElem? (i := 1356) (by decide +kernel)⟩
theorem lw_p84 : lw_okq (⟨"KnotRowsModel", "laysRows", "()I"⟩, 52) := ⟨⟨by decide +kernel, by decide +kernel⟩, List.mem_of_getElem? (i := 907) (by decide +kernel), List.mem_of_getElem? (i := 1371) (by decide +kernel), List.mem_of_getElem? (i := 1372) (by decide +kernel)⟩
theorem lw_p85 : lw_okq (⟨"KnotRowsModel", "exchangesRows", "(II)V"⟩, 52) := ⟨⟨by decide +kernel, by decide +kernel⟩, List.mem_of_getElem? (i := 907) (by decide +kernel), List.mem_of_getElem? (i := 1379) (by decide +kernel), List.mem_of_getElem? (i := 1380) (by decide +kernel)⟩
theorem lw_p86 : lw_okq (⟨"KnotRowsModel", "clears", "(IIII)V"⟩, 52) := ⟨⟨by decide +kernel, by decide +kernel⟩, List.mem_of_getElem? (i := 907) (by decide +kernel), List.mem_of_getElem? (i := 1383) (by decide +kernel), List.mem_of_getElem? (i := 1384) (by decide +kernel)⟩
theorem lw_p87 : lw_okq (⟨"KnotRowsModel", "fewestSwitches", "()I"⟩, 52) := ⟨⟨by decide +kernel, by decide +kernel⟩, List.mem_of_getElem? (i := 907) (by decide +kernel), List.mem_of_getElem? (i := 1391) (by decide +kernel), List.mem_of_getElem? (i := 1392) (by decide +kernel)⟩
theorem lw_p88 : lw_okq (⟨"KnotRowsModel", "isLooser", "(I)Z"⟩, 52) := ⟨⟨by decide +kernel, by decide +kernel⟩, List.mem_of_getElem? (i := 907) (by decide +kernel), List.mem_of_getElem? (i := 1399) (by decide +kernel), List.mem_of_getElem? (i := 1400) (by decide +kernel)⟩
theorem lw_p89 : lw_okq (⟨"KnotRowsModel", "areRowsAlike", "()Z"⟩, 52) := ⟨⟨by decide +kernel, by decide +kernel⟩, List.mem_of_getElem? (i := 907) (by decide +kernel), List.mem_of_getElem? (i := 1407) (by decide +kernel), List.mem_of_getElem? (i := 1408) (by decide +kernel)⟩
theorem lw_p90 : lw_okq (⟨"KnotRowsModel", "determinant", "()J"⟩, 52) := ⟨⟨by decide +kernel, by decide +kernel⟩, List.mem_of_getElem? (i := 907) (by decide +kernel), List.mem_of_getElem? (i := 1415) (by decide +kernel), List.mem_of_getElem? (i := 1416) (by decide +kernel)⟩
theorem lw_p91 : lw_okq (⟨"KnotRowsModel", "span", "()I"⟩, 52) := ⟨⟨by decide +kernel, by decide +kernel⟩, List.mem_of_getElem? (i := 907) (by decide +kernel), List.mem_of_getElem? (i := 1419) (by decide +kernel), List.mem_of_getElem? (i := 1420) (by decide +kernel)⟩
theorem lw_p92 : lw_okq (⟨"KnotRowsModel", "kindMany", "(I)I"⟩, 52) := ⟨⟨by decide +kernel, by decide +kernel⟩, List.mem_of_getElem? (i := 907) (by decide +kernel), List.mem_of_getElem? (i := 1423) (by decide +kernel), List.mem_of_getElem? (i := 1424) (by decide +kernel)⟩
theorem lw_p93 : lw_okq (⟨"KnotRowsModel", "takeTurns", "()I"⟩, 52) := ⟨⟨by decide +kernel, by decide +kernel⟩, List.mem_of_getElem? (i := 907) (by decide +kernel), List.mem_of_getElem? (i := 1427) (by decide +kernel), List.mem_of_getElem? (i := 1428) (by decide +kernel)⟩
def lw_privs_6 : List (MethodName × Nat) := [(⟨"KnotRowsModel", "loopsOf", "([II)I"⟩, 52), (⟨"KnotRowsModel", "laysBracket", "([I)V"⟩, 52), (⟨"KnotRowsModel", "timesLoop", "()V"⟩, 52), (⟨"KnotRowsModel", "knottedAt", "([II)I"⟩, 52), (⟨"KnotRowsModel", "laysRows", "()I"⟩, 52), (⟨"KnotRowsModel", "exchangesRows", "(II)V"⟩, 52), (⟨"KnotRowsModel", "clears", "(IIII)V"⟩, 52), (⟨"KnotRowsModel", "fewestSwitches", "()I"⟩, 52), (⟨"KnotRowsModel", "isLooser", "(I)Z"⟩, 52), (⟨"KnotRowsModel", "areRowsAlike", "()Z"⟩, 52), (⟨"KnotRowsModel", "determinant", "()J"⟩, 52), (⟨"KnotRowsModel", "span", "()I"⟩, 52), (⟨"KnotRowsModel", "kindMany", "(I)I"⟩, 52), (⟨"KnotRowsModel", "takeTurns", "()I"⟩, 52)]
theorem lw_r6 : ∀ q ∈ lw_privs_6, lw_okq q := List.forall_mem_cons.mpr ⟨lw_p80, List.forall_mem_cons.mpr ⟨lw_p81, List.forall_mem_cons.mpr ⟨lw_p82, List.forall_mem_cons.mpr ⟨lw_p83, List.forall_mem_cons.mpr ⟨lw_p84, List.forall_mem_cons.mpr ⟨lw_p85, List.forall_mem_cons.mpr ⟨lw_p86, List.forall_mem_cons.mpr ⟨lw_p87, List.forall_mem_cons.mpr ⟨lw_p88, List.forall_mem_cons.mpr ⟨lw_p89, List.forall_mem_cons.mpr ⟨lw_p90, List.forall_mem_cons.mpr ⟨lw_p91, List.forall_mem_cons.mpr ⟨lw_p92, List.forall_mem_cons.mpr ⟨lw_p93, fun _ h => absurd h List.not_mem_nil⟩⟩⟩⟩⟩⟩⟩⟩⟩⟩⟩⟩⟩⟩
def lw_privs : List (MethodName × Nat) := lw_privs_1 ++ (lw_privs_2 ++ (lw_privs_3 ++ (lw_privs_4 ++ (lw_privs_5 ++ (lw_privs_6)))))
def lw_tbl : List Cond := k2_sels lw_privs ++ tables_1
theorem lw_privs_ok : ∀ q ∈ lw_privs, lw_okq q := by
  show ∀ q ∈ lw_privs_1 ++ (lw_privs_2 ++ (lw_privs_3 ++ (lw_privs_4 ++ (lw_privs_5 ++ (lw_privs_6))))), lw_okq q
  exact List.forall_mem_append.mpr ⟨lw_r1, List.forall_mem_append.mpr ⟨lw_r2, List.forall_mem_append.mpr ⟨lw_r3, List.forall_mem_append.mpr ⟨lw_r4, List.forall_mem_append.mpr ⟨lw_r5, lw_r6⟩⟩⟩⟩⟩
-- ===== end of PART A; then your names; then what follows =====
end
section
def RX0 : String := "KnotRows$Arcs"
def TX0 : u_T := fun k => match k with
  | 0 => ("KnotRows$Arcs", "arcs", "I", false)
  | 1 => ("KnotRows$Arcs", "arcOf", "[I", true)
  | _ => ("KnotRows$Arcs", "row", "[[J", true)
def tyX0 : Nat → FieldType := fun k => match k with
  | 0 => .int
  | 1 => .array .int
  | _ => .array (.array .long)
abbrev wsX00 : List Cond := u_ws RX0 TX0 3
theorem nmX0 : ∀ a, a < 3 → ∀ b, b < 3 → a ≠ b → (TX0 a).2.1 ≠ (TX0 b).2.1 := by decide +kernel
theorem tyX0_ok : ∀ k, k < 3 → parseFieldDescriptor (TX0 k).2.2.1 = some (tyX0 k) := by decide +kernel
abbrev cX0_init : ByteArray := prog_2_method_1_code
def yX0_init : MethodName := ⟨RX0, "<init>", "()V"⟩
abbrev cX0_number : ByteArray := prog_2_method_2_code
def yX0_number : MethodName := ⟨RX0, "number", "(LKnotRows$Rows;)V"⟩
abbrev cX0_fill : ByteArray := prog_2_method_3_code
def yX0_fill : MethodName := ⟨RX0, "fill", "(LKnotRows$Rows;II)V"⟩
abbrev cX0_numberRing : ByteArray := prog_2_method_4_code
def yX0_numberRing : MethodName := ⟨RX0, "numberRing", "(LKnotRows$Rows;II)I"⟩
abbrev cX0_writeRows : ByteArray := prog_2_method_5_code
def yX0_writeRows : MethodName := ⟨RX0, "writeRows", "(LKnotRows$Rows;LKnotRows$Drawing;)V"⟩
abbrev cX0_determinant : ByteArray := prog_2_method_6_code
def yX0_determinant : MethodName := ⟨RX0, "determinant", "(LKnotRows$Rows;LKnotRows$Drawing;)I"⟩
abbrev cX0_eliminated : ByteArray := prog_2_method_7_code
def yX0_eliminated : MethodName := ⟨RX0, "eliminated", "(I)J"⟩
abbrev cX0_pivotRow : ByteArray := prog_2_method_8_code
def yX0_pivotRow : MethodName := ⟨RX0, "pivotRow", "(III)I"⟩
abbrev cX0_swapRows : ByteArray := prog_2_method_9_code
def yX0_swapRows : MethodName := ⟨RX0, "swapRows", "(II)V"⟩
abbrev cX0_colouringsBy : ByteArray := prog_2_method_10_code
def yX0_colouringsBy : MethodName := ⟨RX0, "colouringsBy", "(ILKnotRows$Rows;LKnotRows$Drawing;)J"⟩
abbrev cX0_rank : ByteArray := prog_2_method_11_code
def yX0_rank : MethodName := ⟨RX0, "rank", "(II)I"⟩
abbrev cX0_clear : ByteArray := prog_2_method_12_code
def yX0_clear : MethodName := ⟨RX0, "clear", "(IIII)V"⟩
def RX1 : String := "KnotRows$Bracket"
def TX1 : u_T := fun k => match k with
  | 0 => ("KnotRows$Bracket", "coefficients", "[I", true)
  | 1 => ("KnotRows$Bracket", "tally", "[I", true)
  | _ => ("KnotRows$Bracket", "writhe", "I", false)
def tyX1 : Nat → FieldType := fun k => match k with
  | 0 => .array .int
  | 1 => .array .int
  | _ => .int
abbrev wsX10 : List Cond := u_ws RX1 TX1 3
theorem nmX1 : ∀ a, a < 3 → ∀ b, b < 3 → a ≠ b → (TX1 a).2.1 ≠ (TX1 b).2.1 := by decide +kernel
theorem tyX1_ok : ∀ k, k < 3 → parseFieldDescriptor (TX1 k).2.2.1 = some (tyX1 k) := by decide +kernel
abbrev cX1_init : ByteArray := prog_3_method_1_code
def yX1_init : MethodName := ⟨RX1, "<init>", "()V"⟩
abbrev cX1_addUp : ByteArray := prog_3_method_2_code
def yX1_addUp : MethodName := ⟨RX1, "addUp", "(LKnotRows$Rows;LKnotRows$Drawing;)V"⟩
abbrev cX1_tallyStates : ByteArray := prog_3_method_3_code
def yX1_tallyStates : MethodName := ⟨RX1, "tallyStates", "(LKnotRows$Rows;LKnotRows$Drawing;)V"⟩
abbrev cX1_addPower : ByteArray := prog_3_method_4_code
def yX1_addPower : MethodName := ⟨RX1, "addPower", "(III)V"⟩
abbrev cX1_at : ByteArray := prog_3_method_5_code
def yX1_at : MethodName := ⟨RX1, "at", "(I)I"⟩
abbrev cX1_knottedAt : ByteArray := prog_3_method_6_code
def yX1_knottedAt : MethodName := ⟨RX1, "knottedAt", "(I)I"⟩
abbrev cX1_knottedAlike : ByteArray := prog_3_method_7_code
def yX1_knottedAlike : MethodName := ⟨RX1, "knottedAlike", "(LKnotRows$Bracket;Z)Z"⟩
abbrev cX1_span : ByteArray := prog_3_method_8_code
def yX1_span : MethodName := ⟨RX1, "span", "()I"⟩
def RX2 : String := "KnotRows$Drawing"
def TX2 : u_T := fun k => match k with
  | 0 => ("KnotRows$Drawing", "behind", "[I", true)
  | 1 => ("KnotRows$Drawing", "ahead", "[I", true)
  | 2 => ("KnotRows$Drawing", "ringOf", "[I", true)
  | 3 => ("KnotRows$Drawing", "overAt", "[I", true)
  | 4 => ("KnotRows$Drawing", "underAt", "[I", true)
  | 5 => ("KnotRows$Drawing", "leave", "[I", true)
  | 6 => ("KnotRows$Drawing", "reach", "[I", true)
  | 7 => ("KnotRows$Drawing", "faces", "I", false)
  | 8 => ("KnotRows$Drawing", "walk", "[I", true)
  | 9 => ("KnotRows$Drawing", "faceStart", "[I", true)
  | _ => ("KnotRows$Drawing", "kind", "[I", true)
def tyX2 : Nat → FieldType := fun k => match k with
  | 0 => .array .int
  | 1 => .array .int
  | 2 => .array .int
  | 3 => .array .int
  | 4 => .array .int
  | 5 => .array .int
  | 6 => .array .int
  | 7 => .int
  | 8 => .array .int
  | 9 => .array .int
  | _ => .array .int
abbrev wsX20 : List Cond := u_ws RX2 TX2 11
theorem nmX2 : ∀ a, a < 11 → ∀ b, b < 11 → a ≠ b → (TX2 a).2.1 ≠ (TX2 b).2.1 := by decide +kernel
theorem tyX2_ok : ∀ k, k < 11 → parseFieldDescriptor (TX2 k).2.2.1 = some (tyX2 k) := by decide +kernel
abbrev cX2_init : ByteArray := prog_4_method_1_code
def yX2_init : MethodName := ⟨RX2, "<init>", "()V"⟩
abbrev cX2_trace : ByteArray := prog_4_method_2_code
def yX2_trace : MethodName := ⟨RX2, "trace", "(LKnotRows$Rows;)V"⟩
abbrev cX2_joinPasses : ByteArray := prog_4_method_3_code
def yX2_joinPasses : MethodName := ⟨RX2, "joinPasses", "(LKnotRows$Rows;)V"⟩
abbrev cX2_joinEnds : ByteArray := prog_4_method_4_code
def yX2_joinEnds : MethodName := ⟨RX2, "joinEnds", "(LKnotRows$Rows;)V"⟩
abbrev cX2_joinEnd : ByteArray := prog_4_method_5_code
def yX2_joinEnd : MethodName := ⟨RX2, "joinEnd", "(II)V"⟩
abbrev cX2_walkFaces : ByteArray := prog_4_method_6_code
def yX2_walkFaces : MethodName := ⟨RX2, "walkFaces", "(I)V"⟩
abbrev cX2_judged : ByteArray := prog_4_method_7_code
def yX2_judged : MethodName := ⟨RX2, "judged", "(LKnotRows$Rows;I)I"⟩
abbrev cX2_corners : ByteArray := prog_4_method_8_code
def yX2_corners : MethodName := ⟨RX2, "corners", "(I)I"⟩
abbrev cX2_crossingsAt : ByteArray := prog_4_method_9_code
def yX2_crossingsAt : MethodName := ⟨RX2, "crossingsAt", "(I)I"⟩
abbrev cX2_edgeAt : ByteArray := prog_4_method_10_code
def yX2_edgeAt : MethodName := ⟨RX2, "edgeAt", "(II)I"⟩
abbrev cX2_facesOfKind : ByteArray := prog_4_method_11_code
def yX2_facesOfKind : MethodName := ⟨RX2, "facesOfKind", "(I)I"⟩
abbrev cX2_firstToGo : ByteArray := prog_4_method_12_code
def yX2_firstToGo : MethodName := ⟨RX2, "firstToGo", "()I"⟩
abbrev cX2_partsOf : ByteArray := prog_4_method_13_code
def yX2_partsOf : MethodName := ⟨RX2, "partsOf", "(LKnotRows$Rows;)I"⟩
abbrev cX2_partWith : ByteArray := prog_4_method_14_code
def yX2_partWith : MethodName := ⟨RX2, "partWith", "(LKnotRows$Rows;I)I"⟩
abbrev cX2_isPlane : ByteArray := prog_4_method_15_code
def yX2_isPlane : MethodName := ⟨RX2, "isPlane", "(LKnotRows$Rows;)Z"⟩
abbrev cX2_loopsOf : ByteArray := prog_4_method_16_code
def yX2_loopsOf : MethodName := ⟨RX2, "loopsOf", "(LKnotRows$Rows;I)I"⟩
def RX3 : String := "KnotRows$Past"
def TX3 : u_T := fun k => match k with
  | 0 => ("KnotRows$Past", "kept", "I", false)
  | 1 => ("KnotRows$Past", "next", "I", false)
  | _ => ("KnotRows$Past", "earlier", "[LKnotRows$Rows;", true)
def tyX3 : Nat → FieldType := fun k => match k with
  | 0 => .int
  | 1 => .int
  | _ => .array (.object "KnotRows$Rows")
abbrev wsX30 : List Cond := u_ws RX3 TX3 3
theorem nmX3 : ∀ a, a < 3 → ∀ b, b < 3 → a ≠ b → (TX3 a).2.1 ≠ (TX3 b).2.1 := by decide +kernel
theorem tyX3_ok : ∀ k, k < 3 → parseFieldDescriptor (TX3 k).2.2.1 = some (tyX3 k) := by decide +kernel
abbrev cX3_init : ByteArray := prog_5_method_1_code
def yX3_init : MethodName := ⟨RX3, "<init>", "()V"⟩
abbrev cX3_forget : ByteArray := prog_5_method_2_code
def yX3_forget : MethodName := ⟨RX3, "forget", "()V"⟩
abbrev cX3_keep : ByteArray := prog_5_method_3_code
def yX3_keep : MethodName := ⟨RX3, "keep", "(LKnotRows$Rows;)V"⟩
abbrev cX3_bringBack : ByteArray := prog_5_method_4_code
def yX3_bringBack : MethodName := ⟨RX3, "bringBack", "(LKnotRows$Rows;)Z"⟩
def RX4 : String := "KnotRows$Reader"
def TX4 : u_T := fun k => match k with
  | 0 => ("KnotRows$Reader", "fault", "I", false)
  | 1 => ("KnotRows$Reader", "faultAt", "I", false)
  | 2 => ("KnotRows$Reader", "braid", "Z", false)
  | 3 => ("KnotRows$Reader", "rings", "I", false)
  | 4 => ("KnotRows$Reader", "strands", "I", false)
  | 5 => ("KnotRows$Reader", "strandsAt", "I", false)
  | 6 => ("KnotRows$Reader", "unlike", "I", false)
  | 7 => ("KnotRows$Reader", "told", "I", false)
  | 8 => ("KnotRows$Reader", "over", "Z", false)
  | 9 => ("KnotRows$Reader", "first", "[I", true)
  | 10 => ("KnotRows$Reader", "number", "[I", true)
  | 11 => ("KnotRows$Reader", "numberAt", "[I", true)
  | 12 => ("KnotRows$Reader", "crossingOf", "[I", true)
  | 13 => ("KnotRows$Reader", "isOver", "[Z", true)
  | 14 => ("KnotRows$Reader", "isPlus", "[Z", true)
  | 15 => ("KnotRows$Reader", "unlikeNumber", "[I", true)
  | 16 => ("KnotRows$Reader", "times", "[I", true)
  | _ => ("KnotRows$Reader", "earlier", "[I", true)
def tyX4 : Nat → FieldType := fun k => match k with
  | 0 => .int
  | 1 => .int
  | 2 => .boolean
  | 3 => .int
  | 4 => .int
  | 5 => .int
  | 6 => .int
  | 7 => .int
  | 8 => .boolean
  | 9 => .array .int
  | 10 => .array .int
  | 11 => .array .int
  | 12 => .array .int
  | 13 => .array .boolean
  | 14 => .array .boolean
  | 15 => .array .int
  | 16 => .array .int
  | _ => .array .int
abbrev wsX40 : List Cond := u_ws RX4 TX4 18
theorem nmX4 : ∀ a, a < 18 → ∀ b, b < 18 → a ≠ b → (TX4 a).2.1 ≠ (TX4 b).2.1 := by decide +kernel
theorem tyX4_ok : ∀ k, k < 18 → parseFieldDescriptor (TX4 k).2.2.1 = some (tyX4 k) := by decide +kernel
abbrev cX4_init : ByteArray := prog_6_method_1_code
def yX4_init : MethodName := ⟨RX4, "<init>", "()V"⟩
abbrev cX4_reads : ByteArray := prog_6_method_2_code
def yX4_reads : MethodName := ⟨RX4, "reads", "(LKnotRows$Tape;LKnotRows$Rows;LKnotRows$Drawing;)Z"⟩
abbrev cX4_fails : ByteArray := prog_6_method_3_code
def yX4_fails : MethodName := ⟨RX4, "fails", "(II)Z"⟩
abbrev cX4_takesTokens : ByteArray := prog_6_method_4_code
def yX4_takesTokens : MethodName := ⟨RX4, "takesTokens", "(LKnotRows$Tape;)Z"⟩
abbrev cX4_stateBehind : ByteArray := prog_6_method_5_code
def yX4_stateBehind : MethodName := ⟨RX4, "stateBehind", "(II)I"⟩
abbrev cX4_takes : ByteArray := prog_6_method_6_code
def yX4_takes : MethodName := ⟨RX4, "takes", "(ILKnotRows$Tape;)Z"⟩
abbrev cX4_takesRing : ByteArray := prog_6_method_7_code
def yX4_takesRing : MethodName := ⟨RX4, "takesRing", "()Z"⟩
abbrev cX4_takesSign : ByteArray := prog_6_method_8_code
def yX4_takesSign : MethodName := ⟨RX4, "takesSign", "(Z)Z"⟩
abbrev cX4_takesInt : ByteArray := prog_6_method_9_code
def yX4_takesInt : MethodName := ⟨RX4, "takesInt", "(ILKnotRows$Tape;)Z"⟩
abbrev cX4_takesNumber : ByteArray := prog_6_method_10_code
def yX4_takesNumber : MethodName := ⟨RX4, "takesNumber", "()Z"⟩
abbrev cX4_ringsStand : ByteArray := prog_6_method_11_code
def yX4_ringsStand : MethodName := ⟨RX4, "ringsStand", "()Z"⟩
abbrev cX4_isPartner : ByteArray := prog_6_method_12_code
def yX4_isPartner : MethodName := ⟨RX4, "isPartner", "(III)Z"⟩
abbrev cX4_string : ByteArray := prog_6_method_13_code
def yX4_string : MethodName := ⟨RX4, "string", "(LKnotRows$Rows;)V"⟩
abbrev cX4_braidStands : ByteArray := prog_6_method_14_code
def yX4_braidStands : MethodName := ⟨RX4, "braidStands", "()Z"⟩
abbrev cX4_weave : ByteArray := prog_6_method_15_code
def yX4_weave : MethodName := ⟨RX4, "weave", "(LKnotRows$Rows;)V"⟩
abbrev cX4_placeBehind : ByteArray := prog_6_method_16_code
def yX4_placeBehind : MethodName := ⟨RX4, "placeBehind", "(II)I"⟩
def RX5 : String := "KnotRows$Rows"
def TX5 : u_T := fun k => match k with
  | 0 => ("KnotRows$Rows", "rings", "I", false)
  | 1 => ("KnotRows$Rows", "crossings", "I", false)
  | 2 => ("KnotRows$Rows", "first", "[I", true)
  | 3 => ("KnotRows$Rows", "pass", "[I", true)
  | _ => ("KnotRows$Rows", "sign", "[I", true)
def tyX5 : Nat → FieldType := fun k => match k with
  | 0 => .int
  | 1 => .int
  | 2 => .array .int
  | 3 => .array .int
  | _ => .array .int
abbrev wsX50 : List Cond := u_ws RX5 TX5 5
theorem nmX5 : ∀ a, a < 5 → ∀ b, b < 5 → a ≠ b → (TX5 a).2.1 ≠ (TX5 b).2.1 := by decide +kernel
theorem tyX5_ok : ∀ k, k < 5 → parseFieldDescriptor (TX5 k).2.2.1 = some (tyX5 k) := by decide +kernel
abbrev cX5_init : ByteArray := prog_7_method_1_code
def yX5_init : MethodName := ⟨RX5, "<init>", "()V"⟩
abbrev cX5_copy : ByteArray := prog_7_method_2_code
def yX5_copy : MethodName := ⟨RX5, "copy", "(LKnotRows$Rows;)V"⟩
abbrev cX5_same : ByteArray := prog_7_method_3_code
def yX5_same : MethodName := ⟨RX5, "same", "(LKnotRows$Rows;)Z"⟩
abbrev cX5_edges : ByteArray := prog_7_method_4_code
def yX5_edges : MethodName := ⟨RX5, "edges", "()I"⟩
abbrev cX5_allCrossings : ByteArray := prog_7_method_5_code
def yX5_allCrossings : MethodName := ⟨RX5, "allCrossings", "()I"⟩
abbrev cX5_crossingOf : ByteArray := prog_7_method_6_code
def yX5_crossingOf : MethodName := ⟨RX5, "crossingOf", "(I)I"⟩
abbrev cX5_isOver : ByteArray := prog_7_method_7_code
def yX5_isOver : MethodName := ⟨RX5, "isOver", "(I)Z"⟩
abbrev cX5_writhe : ByteArray := prog_7_method_8_code
def yX5_writhe : MethodName := ⟨RX5, "writhe", "()I"⟩
abbrev cX5_looseRings : ByteArray := prog_7_method_9_code
def yX5_looseRings : MethodName := ⟨RX5, "looseRings", "()I"⟩
abbrev cX5_takesTurns : ByteArray := prog_7_method_10_code
def yX5_takesTurns : MethodName := ⟨RX5, "takesTurns", "()Z"⟩
abbrev cX5_turnOver : ByteArray := prog_7_method_11_code
def yX5_turnOver : MethodName := ⟨RX5, "turnOver", "(I)V"⟩
abbrev cX5_reverse : ByteArray := prog_7_method_12_code
def yX5_reverse : MethodName := ⟨RX5, "reverse", "(ILKnotRows$Drawing;)V"⟩
abbrev cX5_exchange : ByteArray := prog_7_method_13_code
def yX5_exchange : MethodName := ⟨RX5, "exchange", "(LKnotRows$Drawing;I)V"⟩
abbrev cX5_swap : ByteArray := prog_7_method_14_code
def yX5_swap : MethodName := ⟨RX5, "swap", "(II)V"⟩
abbrev cX5_curl : ByteArray := prog_7_method_15_code
def yX5_curl : MethodName := ⟨RX5, "curl", "(IZZ)V"⟩
abbrev cX5_drop : ByteArray := prog_7_method_16_code
def yX5_drop : MethodName := ⟨RX5, "drop", "(I)V"⟩
abbrev cX5_goneAhead : ByteArray := prog_7_method_17_code
def yX5_goneAhead : MethodName := ⟨RX5, "goneAhead", "(II)I"⟩
abbrev cX5_shed : ByteArray := prog_7_method_18_code
def yX5_shed : MethodName := ⟨RX5, "shed", "(LKnotRows$Drawing;)I"⟩
abbrev cX5_canTake : ByteArray := prog_7_method_19_code
def yX5_canTake : MethodName := ⟨RX5, "canTake", "(LKnotRows$Rows;)Z"⟩
abbrev cX5_take : ByteArray := prog_7_method_20_code
def yX5_take : MethodName := ⟨RX5, "take", "(LKnotRows$Rows;)V"⟩
def RX6 : String := "KnotRows$Slides"
def TX6 : u_T := fun k => match k with
  | 0 => ("KnotRows$Slides", "rows", "[LKnotRows$Rows;", true)
  | _ => ("KnotRows$Slides", "drawings", "[LKnotRows$Drawing;", true)
def tyX6 : Nat → FieldType := fun k => match k with
  | 0 => .array (.object "KnotRows$Rows")
  | _ => .array (.object "KnotRows$Drawing")
abbrev wsX60 : List Cond := u_ws RX6 TX6 2
theorem nmX6 : ∀ a, a < 2 → ∀ b, b < 2 → a ≠ b → (TX6 a).2.1 ≠ (TX6 b).2.1 := by decide +kernel
theorem tyX6_ok : ∀ k, k < 2 → parseFieldDescriptor (TX6 k).2.2.1 = some (tyX6 k) := by decide +kernel
abbrev cX6_init : ByteArray := prog_8_method_1_code
def yX6_init : MethodName := ⟨RX6, "<init>", "()V"⟩
abbrev cX6_reachFewer : ByteArray := prog_8_method_2_code
def yX6_reachFewer : MethodName := ⟨RX6, "reachFewer", "(LKnotRows$Rows;I)Z"⟩
abbrev cX6_finds : ByteArray := prog_8_method_3_code
def yX6_finds : MethodName := ⟨RX6, "finds", "(LKnotRows$Slides;II)Z"⟩
def RX7 : String := "KnotRows$Tape"
def TX7 : u_T := fun k => match k with
  | 0 => ("KnotRows$Tape", "length", "I", false)
  | 1 => ("KnotRows$Tape", "kind", "I", false)
  | 2 => ("KnotRows$Tape", "value", "I", false)
  | 3 => ("KnotRows$Tape", "place", "I", false)
  | 4 => ("KnotRows$Tape", "next", "I", false)
  | _ => ("KnotRows$Tape", "bytes", "[B", true)
def tyX7 : Nat → FieldType := fun k => match k with
  | 0 => .int
  | 1 => .int
  | 2 => .int
  | 3 => .int
  | 4 => .int
  | _ => .array .byte
abbrev wsX70 : List Cond := u_ws RX7 TX7 6
theorem nmX7 : ∀ a, a < 6 → ∀ b, b < 6 → a ≠ b → (TX7 a).2.1 ≠ (TX7 b).2.1 := by decide +kernel
theorem tyX7_ok : ∀ k, k < 6 → parseFieldDescriptor (TX7 k).2.2.1 = some (tyX7 k) := by decide +kernel
abbrev cX7_init : ByteArray := prog_9_method_1_code
def yX7_init : MethodName := ⟨RX7, "<init>", "()V"⟩
abbrev cX7_put : ByteArray := prog_9_method_2_code
def yX7_put : MethodName := ⟨RX7, "put", "(I)V"⟩
abbrev cX7_begin : ByteArray := prog_9_method_3_code
def yX7_begin : MethodName := ⟨RX7, "begin", "()V"⟩
abbrev cX7_step : ByteArray := prog_9_method_4_code
def yX7_step : MethodName := ⟨RX7, "step", "()V"⟩
abbrev cX7_stepWord : ByteArray := prog_9_method_5_code
def yX7_stepWord : MethodName := ⟨RX7, "stepWord", "()V"⟩
abbrev cX7_spells : ByteArray := prog_9_method_6_code
def yX7_spells : MethodName := ⟨RX7, "spells", "(Ljava/lang/String;)Z"⟩
abbrev cX7_stepInt : ByteArray := prog_9_method_7_code
def yX7_stepInt : MethodName := ⟨RX7, "stepInt", "()V"⟩
abbrev cX7_byteAt : ByteArray := prog_9_method_8_code
def yX7_byteAt : MethodName := ⟨RX7, "byteAt", "(I)I"⟩
abbrev cX7_isBlank : ByteArray := prog_9_method_9_code
def yX7_isBlank : MethodName := ⟨RX7, "isBlank", "(I)Z"⟩
abbrev cX7_isLetter : ByteArray := prog_9_method_10_code
def yX7_isLetter : MethodName := ⟨RX7, "isLetter", "(I)Z"⟩
abbrev cX7_isDigit : ByteArray := prog_9_method_11_code
def yX7_isDigit : MethodName := ⟨RX7, "isDigit", "(I)Z"⟩
def RX8 : String := "KnotRows"
def TX8 : u_T := fun k => match k with
  | 0 => ("KnotRows", "tape", "LKnotRows$Tape;", true)
  | 1 => ("KnotRows", "reader", "LKnotRows$Reader;", true)
  | 2 => ("KnotRows", "rows", "LKnotRows$Rows;", true)
  | 3 => ("KnotRows", "drawing", "LKnotRows$Drawing;", true)
  | 4 => ("KnotRows", "arcs", "LKnotRows$Arcs;", true)
  | 5 => ("KnotRows", "bracket", "LKnotRows$Bracket;", true)
  | 6 => ("KnotRows", "slotBracket", "LKnotRows$Bracket;", true)
  | 7 => ("KnotRows", "past", "LKnotRows$Past;", true)
  | 8 => ("KnotRows", "slots", "[LKnotRows$Rows;", true)
  | 9 => ("KnotRows", "held", "[Z", true)
  | 10 => ("KnotRows", "trial", "LKnotRows$Rows;", true)
  | 11 => ("KnotRows", "trialDrawing", "LKnotRows$Drawing;", true)
  | 12 => ("KnotRows", "slides", "LKnotRows$Slides;", true)
  | 13 => ("KnotRows", "bracketKnown", "Z", false)
  | 14 => ("KnotRows", "freeingKnown", "Z", false)
  | 15 => ("KnotRows", "freeing", "I", false)
  | _ => ("KnotRows", "place", "I", false)
def tyX8 : Nat → FieldType := fun k => match k with
  | 0 => .object "KnotRows$Tape"
  | 1 => .object "KnotRows$Reader"
  | 2 => .object "KnotRows$Rows"
  | 3 => .object "KnotRows$Drawing"
  | 4 => .object "KnotRows$Arcs"
  | 5 => .object "KnotRows$Bracket"
  | 6 => .object "KnotRows$Bracket"
  | 7 => .object "KnotRows$Past"
  | 8 => .array (.object "KnotRows$Rows")
  | 9 => .array .boolean
  | 10 => .object "KnotRows$Rows"
  | 11 => .object "KnotRows$Drawing"
  | 12 => .object "KnotRows$Slides"
  | 13 => .boolean
  | 14 => .boolean
  | 15 => .int
  | _ => .int
abbrev wsX80 : List Cond := u_ws RX8 TX8 17
theorem nmX8 : ∀ a, a < 17 → ∀ b, b < 17 → a ≠ b → (TX8 a).2.1 ≠ (TX8 b).2.1 := by decide +kernel
theorem tyX8_ok : ∀ k, k < 17 → parseFieldDescriptor (TX8 k).2.2.1 = some (tyX8 k) := by decide +kernel
abbrev cX8_init : ByteArray := prog_1_method_1_code
def yX8_init : MethodName := ⟨RX8, "<init>", "()V"⟩
abbrev cX8_feed : ByteArray := prog_1_method_2_code
def yX8_feed : MethodName := ⟨RX8, "feed", "(IIIII)I"⟩
abbrev cX8_back : ByteArray := prog_1_method_3_code
def yX8_back : MethodName := ⟨RX8, "back", "(I)I"⟩
abbrev cX8_read : ByteArray := prog_1_method_4_code
def yX8_read : MethodName := ⟨RX8, "read", "()I"⟩
abbrev cX8_place : ByteArray := prog_1_method_5_code
def yX8_place : MethodName := ⟨RX8, "place", "()I"⟩
abbrev cX8_out : ByteArray := prog_1_method_6_code
def yX8_out : MethodName := ⟨RX8, "out", "(I)I"⟩
abbrev cX8_slide : ByteArray := prog_1_method_7_code
def yX8_slide : MethodName := ⟨RX8, "slide", "(I)Z"⟩
abbrev cX8_kink : ByteArray := prog_1_method_8_code
def yX8_kink : MethodName := ⟨RX8, "kink", "(IZZ)Z"⟩
abbrev cX8_loosen : ByteArray := prog_1_method_9_code
def yX8_loosen : MethodName := ⟨RX8, "loosen", "()I"⟩
abbrev cX8_mirror : ByteArray := prog_1_method_10_code
def yX8_mirror : MethodName := ⟨RX8, "mirror", "()Z"⟩
abbrev cX8_round : ByteArray := prog_1_method_11_code
def yX8_round : MethodName := ⟨RX8, "round", "(I)Z"⟩
abbrev cX8_switches : ByteArray := prog_1_method_12_code
def yX8_switches : MethodName := ⟨RX8, "switches", "(I)Z"⟩
abbrev cX8_sum : ByteArray := prog_1_method_13_code
def yX8_sum : MethodName := ⟨RX8, "sum", "(I)Z"⟩
abbrev cX8_undo : ByteArray := prog_1_method_14_code
def yX8_undo : MethodName := ⟨RX8, "undo", "()Z"⟩
abbrev cX8_ring : ByteArray := prog_1_method_15_code
def yX8_ring : MethodName := ⟨RX8, "ring", "(II)I"⟩
abbrev cX8_crossing : ByteArray := prog_1_method_16_code
def yX8_crossing : MethodName := ⟨RX8, "crossing", "(II)I"⟩
abbrev cX8_face : ByteArray := prog_1_method_17_code
def yX8_face : MethodName := ⟨RX8, "face", "(II)I"⟩
abbrev cX8_loops : ByteArray := prog_1_method_18_code
def yX8_loops : MethodName := ⟨RX8, "loops", "(I)I"⟩
abbrev cX8_coefficient : ByteArray := prog_1_method_19_code
def yX8_coefficient : MethodName := ⟨RX8, "coefficient", "(IZ)I"⟩
abbrev cX8_winding : ByteArray := prog_1_method_20_code
def yX8_winding : MethodName := ⟨RX8, "winding", "(II)I"⟩
abbrev cX8_colourings : ByteArray := prog_1_method_21_code
def yX8_colourings : MethodName := ⟨RX8, "colourings", "(I)J"⟩
abbrev cX8_freed : ByteArray := prog_1_method_22_code
def yX8_freed : MethodName := ⟨RX8, "freed", "(I)I"⟩
abbrev cX8_looser : ByteArray := prog_1_method_23_code
def yX8_looser : MethodName := ⟨RX8, "looser", "(I)I"⟩
abbrev cX8_alike : ByteArray := prog_1_method_24_code
def yX8_alike : MethodName := ⟨RX8, "alike", "(II)I"⟩
abbrev cX8_hold : ByteArray := prog_1_method_25_code
def yX8_hold : MethodName := ⟨RX8, "hold", "(I)Z"⟩
abbrev cX8_restore : ByteArray := prog_1_method_26_code
def yX8_restore : MethodName := ⟨RX8, "restore", "(I)Z"⟩
abbrev cX8_count : ByteArray := prog_1_method_27_code
def yX8_count : MethodName := ⟨RX8, "count", "(I)I"⟩
abbrev cX8_changed : ByteArray := prog_1_method_28_code
def yX8_changed : MethodName := ⟨RX8, "changed", "()V"⟩
abbrev cX8_holds : ByteArray := prog_1_method_29_code
def yX8_holds : MethodName := ⟨RX8, "holds", "(I)Z"⟩
abbrev cX8_slotsHeld : ByteArray := prog_1_method_30_code
def yX8_slotsHeld : MethodName := ⟨RX8, "slotsHeld", "()I"⟩
abbrev cX8_kindOfFace : ByteArray := prog_1_method_31_code
def yX8_kindOfFace : MethodName := ⟨RX8, "kindOfFace", "(I)I"⟩
abbrev cX8_ownBracket : ByteArray := prog_1_method_32_code
def yX8_ownBracket : MethodName := ⟨RX8, "ownBracket", "()LKnotRows$Bracket;"⟩
abbrev cX8_fewestSwitches : ByteArray := prog_1_method_33_code
def yX8_fewestSwitches : MethodName := ⟨RX8, "fewestSwitches", "()I"⟩
abbrev cX8_comesLoose : ByteArray := prog_1_method_34_code
def yX8_comesLoose : MethodName := ⟨RX8, "comesLoose", "(I)Z"⟩
def RX9 : String := "KnotRowsModel"
def TX9 : u_T := fun k => match k with
  | 0 => ("KnotRowsModel", "thrown", "I", false)
  | 1 => ("KnotRowsModel", "tape", "[B", true)
  | 2 => ("KnotRowsModel", "taped", "I", false)
  | 3 => ("KnotRowsModel", "text", "[B", true)
  | 4 => ("KnotRowsModel", "size", "I", false)
  | 5 => ("KnotRowsModel", "tKind", "[I", true)
  | 6 => ("KnotRowsModel", "tPlace", "[I", true)
  | 7 => ("KnotRowsModel", "tValue", "[I", true)
  | 8 => ("KnotRowsModel", "tName", "[J", true)
  | 9 => ("KnotRowsModel", "keys", "[J", true)
  | 10 => ("KnotRowsModel", "tokens", "I", false)
  | 11 => ("KnotRowsModel", "t", "I", false)
  | 12 => ("KnotRowsModel", "fault", "I", false)
  | 13 => ("KnotRowsModel", "faultPlace", "I", false)
  | 14 => ("KnotRowsModel", "worst", "I", false)
  | 15 => ("KnotRowsModel", "worstPlace", "I", false)
  | 16 => ("KnotRowsModel", "place", "I", false)
  | 17 => ("KnotRowsModel", "now", "[I", true)
  | 18 => ("KnotRowsModel", "fresh", "[I", true)
  | 19 => ("KnotRowsModel", "unlikeInts", "[I", true)
  | 20 => ("KnotRowsModel", "unlikeMany", "I", false)
  | 21 => ("KnotRowsModel", "ringLines", "I", false)
  | 22 => ("KnotRowsModel", "stood", "[I", true)
  | 23 => ("KnotRowsModel", "stoodOver", "[I", true)
  | 24 => ("KnotRowsModel", "braidAt", "[I", true)
  | 25 => ("KnotRowsModel", "passMany", "I", false)
  | 26 => ("KnotRowsModel", "passOf", "[I", true)
  | 27 => ("KnotRowsModel", "ringOf", "[I", true)
  | 28 => ("KnotRowsModel", "nextOf", "[I", true)
  | 29 => ("KnotRowsModel", "aheadOf", "[I", true)
  | 30 => ("KnotRowsModel", "endEdge", "[I", true)
  | 31 => ("KnotRowsModel", "endIn", "[Z", true)
  | 32 => ("KnotRowsModel", "faceMany", "I", false)
  | 33 => ("KnotRowsModel", "faceFrom", "[I", true)
  | 34 => ("KnotRowsModel", "corners", "[I", true)
  | 35 => ("KnotRowsModel", "isMet", "[Z", true)
  | 36 => ("KnotRowsModel", "partOf", "[I", true)
  | 37 => ("KnotRowsModel", "earlier", "[I", true)
  | 38 => ("KnotRowsModel", "earliest", "I", false)
  | 39 => ("KnotRowsModel", "undos", "I", false)
  | 40 => ("KnotRowsModel", "held", "[I", true)
  | 41 => ("KnotRowsModel", "isHeld", "[Z", true)
  | 42 => ("KnotRowsModel", "other", "[I", true)
  | 43 => ("KnotRowsModel", "bracket", "[I", true)
  | 44 => ("KnotRowsModel", "one", "[I", true)
  | 45 => ("KnotRowsModel", "moreOne", "[I", true)
  | 46 => ("KnotRowsModel", "kept", "[I", true)
  | 47 => ("KnotRowsModel", "arcAt", "[I", true)
  | 48 => ("KnotRowsModel", "rows", "[J", true)
  | 49 => ("KnotRowsModel", "freedSet", "I", false)
  | 50 => ("KnotRowsModel", "slid", "[I", true)
  | _ => ("KnotRowsModel", "nextFace", "[I", true)
def tyX9 : Nat → FieldType := fun k => match k with
  | 0 => .int
  | 1 => .array .byte
  | 2 => .int
  | 3 => .array .byte
  | 4 => .int
  | 5 => .array .int
  | 6 => .array .int
  | 7 => .array .int
  | 8 => .array .long
  | 9 => .array .long
  | 10 => .int
  | 11 => .int
  | 12 => .int
  | 13 => .int
  | 14 => .int
  | 15 => .int
  | 16 => .int
  | 17 => .array .int
  | 18 => .array .int
  | 19 => .array .int
  | 20 => .int
  | 21 => .int
  | 22 => .array .int
  | 23 => .array .int
  | 24 => .array .int
  | 25 => .int
  | 26 => .array .int
  | 27 => .array .int
  | 28 => .array .int
  | 29 => .array .int
  | 30 => .array .int
  | 31 => .array .boolean
  | 32 => .int
  | 33 => .array .int
  | 34 => .array .int
  | 35 => .array .boolean
  | 36 => .array .int
  | 37 => .array .int
  | 38 => .int
  | 39 => .int
  | 40 => .array .int
  | 41 => .array .boolean
  | 42 => .array .int
  | 43 => .array .int
  | 44 => .array .int
  | 45 => .array .int
  | 46 => .array .int
  | 47 => .array .int
  | 48 => .array .long
  | 49 => .int
  | 50 => .array .int
  | _ => .array .int
abbrev wsX90 : List Cond := u_ws RX9 TX9 52
theorem nmX9 : ∀ a, a < 52 → ∀ b, b < 52 → a ≠ b → (TX9 a).2.1 ≠ (TX9 b).2.1 := by decide +kernel
theorem tyX9_ok : ∀ k, k < 52 → parseFieldDescriptor (TX9 k).2.2.1 = some (tyX9 k) := by decide +kernel
abbrev cX9_init : ByteArray := prog_11_method_2_code
def yX9_init : MethodName := ⟨RX9, "<init>", "()V"⟩
abbrev cX9_feed : ByteArray := prog_11_method_3_code
def yX9_feed : MethodName := ⟨RX9, "feed", "(IIIII)I"⟩
abbrev cX9_lays : ByteArray := prog_11_method_4_code
def yX9_lays : MethodName := ⟨RX9, "lays", "(I)V"⟩
abbrev cX9_back : ByteArray := prog_11_method_5_code
def yX9_back : MethodName := ⟨RX9, "back", "(I)I"⟩
abbrev cX9_byteAt : ByteArray := prog_11_method_6_code
def yX9_byteAt : MethodName := ⟨RX9, "byteAt", "(I)I"⟩
abbrev cX9_isDigit : ByteArray := prog_11_method_7_code
def yX9_isDigit : MethodName := ⟨RX9, "isDigit", "(I)Z"⟩
abbrev cX9_isLetter : ByteArray := prog_11_method_8_code
def yX9_isLetter : MethodName := ⟨RX9, "isLetter", "(I)Z"⟩
abbrev cX9_appends : ByteArray := prog_11_method_9_code
def yX9_appends : MethodName := ⟨RX9, "appends", "(JI)J"⟩
abbrev cX9_letters : ByteArray := prog_11_method_10_code
def yX9_letters : MethodName := ⟨RX9, "letters", "(IIIIIII)J"⟩
abbrev cX9_token : ByteArray := prog_11_method_11_code
def yX9_token : MethodName := ⟨RX9, "token", "(IIIJ)V"⟩
abbrev cX9_cutsText : ByteArray := prog_11_method_12_code
def yX9_cutsText : MethodName := ⟨RX9, "cutsText", "()V"⟩
abbrev cX9_sign : ByteArray := prog_11_method_13_code
def yX9_sign : MethodName := ⟨RX9, "sign", "(II)I"⟩
abbrev cX9_is : ByteArray := prog_11_method_14_code
def yX9_is : MethodName := ⟨RX9, "is", "(I)Z"⟩
abbrev cX9_fail : ByteArray := prog_11_method_15_code
def yX9_fail : MethodName := ⟨RX9, "fail", "(I)V"⟩
abbrev cX9_wrong : ByteArray := prog_11_method_16_code
def yX9_wrong : MethodName := ⟨RX9, "wrong", "(II)V"⟩
abbrev cX9_passes : ByteArray := prog_11_method_17_code
def yX9_passes : MethodName := ⟨RX9, "passes", "()V"⟩
abbrev cX9_must : ByteArray := prog_11_method_18_code
def yX9_must : MethodName := ⟨RX9, "must", "(I)V"⟩
abbrev cX9_read : ByteArray := prog_11_method_19_code
def yX9_read : MethodName := ⟨RX9, "read", "()I"⟩
abbrev cX9_place : ByteArray := prog_11_method_20_code
def yX9_place : MethodName := ⟨RX9, "place", "()I"⟩
abbrev cX9_tellBraid : ByteArray := prog_11_method_21_code
def yX9_tellBraid : MethodName := ⟨RX9, "tellBraid", "()V"⟩
abbrev cX9_tellRing : ByteArray := prog_11_method_22_code
def yX9_tellRing : MethodName := ⟨RX9, "tellRing", "()V"⟩
abbrev cX9_unlikeAt : ByteArray := prog_11_method_23_code
def yX9_unlikeAt : MethodName := ⟨RX9, "unlikeAt", "(I)I"⟩
abbrev cX9_meets : ByteArray := prog_11_method_24_code
def yX9_meets : MethodName := ⟨RX9, "meets", "(I)V"⟩
abbrev cX9_means : ByteArray := prog_11_method_25_code
def yX9_means : MethodName := ⟨RX9, "means", "()V"⟩
abbrev cX9_meansRings : ByteArray := prog_11_method_26_code
def yX9_meansRings : MethodName := ⟨RX9, "meansRings", "()V"⟩
abbrev cX9_adds : ByteArray := prog_11_method_27_code
def yX9_adds : MethodName := ⟨RX9, "adds", "([III)V"⟩
abbrev cX9_lacks : ByteArray := prog_11_method_28_code
def yX9_lacks : MethodName := ⟨RX9, "lacks", "()V"⟩
abbrev cX9_meansBraid : ByteArray := prog_11_method_29_code
def yX9_meansBraid : MethodName := ⟨RX9, "meansBraid", "()V"⟩
abbrev cX9_goesDown : ByteArray := prog_11_method_30_code
def yX9_goesDown : MethodName := ⟨RX9, "goesDown", "(II)I"⟩
abbrev cX9_in : ByteArray := prog_11_method_31_code
def yX9_in : MethodName := ⟨RX9, "in", "(III)Z"⟩
abbrev cX9_has : ByteArray := prog_11_method_32_code
def yX9_has : MethodName := ⟨RX9, "has", "(II)Z"⟩
abbrev cX9_bitsOf : ByteArray := prog_11_method_33_code
def yX9_bitsOf : MethodName := ⟨RX9, "bitsOf", "(I)I"⟩
abbrev cX9_copies : ByteArray := prog_11_method_34_code
def yX9_copies : MethodName := ⟨RX9, "copies", "([I[I)V"⟩
abbrev cX9_laysEdges : ByteArray := prog_11_method_35_code
def yX9_laysEdges : MethodName := ⟨RX9, "laysEdges", "([I)V"⟩
abbrev cX9_endIn : ByteArray := prog_11_method_36_code
def yX9_endIn : MethodName := ⟨RX9, "endIn", "([II)I"⟩
abbrev cX9_turnsTo : ByteArray := prog_11_method_37_code
def yX9_turnsTo : MethodName := ⟨RX9, "turnsTo", "([II)I"⟩
abbrev cX9_crossingBehind : ByteArray := prog_11_method_38_code
def yX9_crossingBehind : MethodName := ⟨RX9, "crossingBehind", "(I)I"⟩
abbrev cX9_laysFaces : ByteArray := prog_11_method_39_code
def yX9_laysFaces : MethodName := ⟨RX9, "laysFaces", "([I)I"⟩
abbrev cX9_partsOf : ByteArray := prog_11_method_40_code
def yX9_partsOf : MethodName := ⟨RX9, "partsOf", "([I)I"⟩
abbrev cX9_joins : ByteArray := prog_11_method_41_code
def yX9_joins : MethodName := ⟨RX9, "joins", "(III)I"⟩
abbrev cX9_canBeDrawn : ByteArray := prog_11_method_42_code
def yX9_canBeDrawn : MethodName := ⟨RX9, "canBeDrawn", "([I)Z"⟩
abbrev cX9_oversOf : ByteArray := prog_11_method_43_code
def yX9_oversOf : MethodName := ⟨RX9, "oversOf", "(I)I"⟩
abbrev cX9_kindOf : ByteArray := prog_11_method_44_code
def yX9_kindOf : MethodName := ⟨RX9, "kindOf", "([II)I"⟩
abbrev cX9_kindMany : ByteArray := prog_11_method_45_code
def yX9_kindMany : MethodName := ⟨RX9, "kindMany", "(I)I"⟩
abbrev cX9_firstOf : ByteArray := prog_11_method_46_code
def yX9_firstOf : MethodName := ⟨RX9, "firstOf", "([II)I"⟩
abbrev cX9_dropsOut : ByteArray := prog_11_method_47_code
def yX9_dropsOut : MethodName := ⟨RX9, "dropsOut", "([II)V"⟩
abbrev cX9_goesOut : ByteArray := prog_11_method_48_code
def yX9_goesOut : MethodName := ⟨RX9, "goesOut", "([II)V"⟩
abbrev cX9_loosens : ByteArray := prog_11_method_49_code
def yX9_loosens : MethodName := ⟨RX9, "loosens", "([I)I"⟩
abbrev cX9_whereOf : ByteArray := prog_11_method_50_code
def yX9_whereOf : MethodName := ⟨RX9, "whereOf", "([II)I"⟩
abbrev cX9_slides : ByteArray := prog_11_method_51_code
def yX9_slides : MethodName := ⟨RX9, "slides", "([II)V"⟩
abbrev cX9_exchanges : ByteArray := prog_11_method_52_code
def yX9_exchanges : MethodName := ⟨RX9, "exchanges", "([II)V"⟩
abbrev cX9_switchesAt : ByteArray := prog_11_method_53_code
def yX9_switchesAt : MethodName := ⟨RX9, "switchesAt", "([II)V"⟩
abbrev cX9_marks : ByteArray := prog_11_method_54_code
def yX9_marks : MethodName := ⟨RX9, "marks", "()V"⟩
abbrev cX9_undo : ByteArray := prog_11_method_55_code
def yX9_undo : MethodName := ⟨RX9, "undo", "()Z"⟩
abbrev cX9_hold : ByteArray := prog_11_method_56_code
def yX9_hold : MethodName := ⟨RX9, "hold", "(I)Z"⟩
abbrev cX9_hasHeld : ByteArray := prog_11_method_57_code
def yX9_hasHeld : MethodName := ⟨RX9, "hasHeld", "(I)Z"⟩
abbrev cX9_restore : ByteArray := prog_11_method_58_code
def yX9_restore : MethodName := ⟨RX9, "restore", "(I)Z"⟩
abbrev cX9_out : ByteArray := prog_11_method_59_code
def yX9_out : MethodName := ⟨RX9, "out", "(I)I"⟩
abbrev cX9_slide : ByteArray := prog_11_method_60_code
def yX9_slide : MethodName := ⟨RX9, "slide", "(I)Z"⟩
abbrev cX9_kink : ByteArray := prog_11_method_61_code
def yX9_kink : MethodName := ⟨RX9, "kink", "(IZZ)Z"⟩
abbrev cX9_loosen : ByteArray := prog_11_method_62_code
def yX9_loosen : MethodName := ⟨RX9, "loosen", "()I"⟩
abbrev cX9_mirror : ByteArray := prog_11_method_63_code
def yX9_mirror : MethodName := ⟨RX9, "mirror", "()Z"⟩
abbrev cX9_round : ByteArray := prog_11_method_64_code
def yX9_round : MethodName := ⟨RX9, "round", "(I)Z"⟩
abbrev cX9_switches : ByteArray := prog_11_method_65_code
def yX9_switches : MethodName := ⟨RX9, "switches", "(I)Z"⟩
abbrev cX9_sum : ByteArray := prog_11_method_66_code
def yX9_sum : MethodName := ⟨RX9, "sum", "(I)Z"⟩
abbrev cX9_ring : ByteArray := prog_11_method_67_code
def yX9_ring : MethodName := ⟨RX9, "ring", "(II)I"⟩
abbrev cX9_passAt : ByteArray := prog_11_method_68_code
def yX9_passAt : MethodName := ⟨RX9, "passAt", "(II)I"⟩
abbrev cX9_crossing : ByteArray := prog_11_method_69_code
def yX9_crossing : MethodName := ⟨RX9, "crossing", "(II)I"⟩
abbrev cX9_face : ByteArray := prog_11_method_70_code
def yX9_face : MethodName := ⟨RX9, "face", "(II)I"⟩
abbrev cX9_looseMany : ByteArray := prog_11_method_71_code
def yX9_looseMany : MethodName := ⟨RX9, "looseMany", "([I)I"⟩
abbrev cX9_loopsOf : ByteArray := prog_11_method_72_code
def yX9_loopsOf : MethodName := ⟨RX9, "loopsOf", "([II)I"⟩
abbrev cX9_loops : ByteArray := prog_11_method_73_code
def yX9_loops : MethodName := ⟨RX9, "loops", "(I)I"⟩
abbrev cX9_laysBracket : ByteArray := prog_11_method_74_code
def yX9_laysBracket : MethodName := ⟨RX9, "laysBracket", "([I)V"⟩
abbrev cX9_timesLoop : ByteArray := prog_11_method_75_code
def yX9_timesLoop : MethodName := ⟨RX9, "timesLoop", "()V"⟩
abbrev cX9_writhe : ByteArray := prog_11_method_76_code
def yX9_writhe : MethodName := ⟨RX9, "writhe", "([I)I"⟩
abbrev cX9_knottedAt : ByteArray := prog_11_method_77_code
def yX9_knottedAt : MethodName := ⟨RX9, "knottedAt", "([II)I"⟩
abbrev cX9_coefficient : ByteArray := prog_11_method_78_code
def yX9_coefficient : MethodName := ⟨RX9, "coefficient", "(IZ)I"⟩
abbrev cX9_span : ByteArray := prog_11_method_79_code
def yX9_span : MethodName := ⟨RX9, "span", "()I"⟩
abbrev cX9_winding : ByteArray := prog_11_method_80_code
def yX9_winding : MethodName := ⟨RX9, "winding", "(II)I"⟩
abbrev cX9_laysArcs : ByteArray := prog_11_method_81_code
def yX9_laysArcs : MethodName := ⟨RX9, "laysArcs", "([I)I"⟩
abbrev cX9_laysRows : ByteArray := prog_11_method_82_code
def yX9_laysRows : MethodName := ⟨RX9, "laysRows", "()I"⟩
abbrev cX9_colourings : ByteArray := prog_11_method_83_code
def yX9_colourings : MethodName := ⟨RX9, "colourings", "(I)J"⟩
abbrev cX9_rest : ByteArray := prog_11_method_84_code
def yX9_rest : MethodName := ⟨RX9, "rest", "(JI)J"⟩
abbrev cX9_exchangesRows : ByteArray := prog_11_method_85_code
def yX9_exchangesRows : MethodName := ⟨RX9, "exchangesRows", "(II)V"⟩
abbrev cX9_clears : ByteArray := prog_11_method_86_code
def yX9_clears : MethodName := ⟨RX9, "clears", "(IIII)V"⟩
abbrev cX9_determinant : ByteArray := prog_11_method_87_code
def yX9_determinant : MethodName := ⟨RX9, "determinant", "()J"⟩
abbrev cX9_fewestSwitches : ByteArray := prog_11_method_88_code
def yX9_fewestSwitches : MethodName := ⟨RX9, "fewestSwitches", "()I"⟩
abbrev cX9_freed : ByteArray := prog_11_method_89_code
def yX9_freed : MethodName := ⟨RX9, "freed", "(I)I"⟩
abbrev cX9_isLooser : ByteArray := prog_11_method_90_code
def yX9_isLooser : MethodName := ⟨RX9, "isLooser", "(I)Z"⟩
abbrev cX9_looser : ByteArray := prog_11_method_91_code
def yX9_looser : MethodName := ⟨RX9, "looser", "(I)I"⟩
abbrev cX9_areRowsAlike : ByteArray := prog_11_method_92_code
def yX9_areRowsAlike : MethodName := ⟨RX9, "areRowsAlike", "()Z"⟩
abbrev cX9_alike : ByteArray := prog_11_method_93_code
def yX9_alike : MethodName := ⟨RX9, "alike", "(II)I"⟩
abbrev cX9_takeTurns : ByteArray := prog_11_method_94_code
def yX9_takeTurns : MethodName := ⟨RX9, "takeTurns", "()I"⟩
abbrev cX9_count : ByteArray := prog_11_method_95_code
def yX9_count : MethodName := ⟨RX9, "count", "(I)I"⟩
def RJ6 : String := "java/lang/Integer"
def TJ6 : u_T := fun k => match k with
  | _ => ("", "", "", false)
def tyJ6 : Nat → FieldType := fun k => match k with
  | _ => .int
abbrev wsJ60 : List Cond := u_ws RJ6 TJ6 0
theorem nmJ6 : ∀ a, a < 0 → ∀ b, b < 0 → a ≠ b → (TJ6 a).2.1 ≠ (TJ6 b).2.1 := by decide +kernel
theorem tyJ6_ok : ∀ k, k < 0 → parseFieldDescriptor (TJ6 k).2.2.1 = some (tyJ6 k) := by decide +kernel
abbrev cJ6_bitCount_0f7a4 : ByteArray := prog_12_method_49_code
def yJ6_bitCount_0f7a4 : MethodName := ⟨RJ6, "bitCount", "(I)I"⟩
def RJ9 : String := "java/lang/Math"
def TJ9 : u_T := fun k => match k with
  | _ => ("", "", "", false)
def tyJ9 : Nat → FieldType := fun k => match k with
  | _ => .int
abbrev wsJ90 : List Cond := u_ws RJ9 TJ9 0
theorem nmJ9 : ∀ a, a < 0 → ∀ b, b < 0 → a ≠ b → (TJ9 a).2.1 ≠ (TJ9 b).2.1 := by decide +kernel
theorem tyJ9_ok : ∀ k, k < 0 → parseFieldDescriptor (TJ9 k).2.2.1 = some (tyJ9 k) := by decide +kernel
abbrev cJ9_floorMod_f86c9 : ByteArray := prog_13_method_52_code
def yJ9_floorMod_f86c9 : MethodName := ⟨RJ9, "floorMod", "(JJ)J"⟩
abbrev cJ9_abs_067f4 : ByteArray := prog_13_method_61_code
def yJ9_abs_067f4 : MethodName := ⟨RJ9, "abs", "(J)J"⟩
abbrev cJ9_max_7cf53 : ByteArray := prog_13_method_65_code
def yJ9_max_7cf53 : MethodName := ⟨RJ9, "max", "(II)I"⟩
abbrev cJ9_min_7cf53 : ByteArray := prog_13_method_69_code
def yJ9_min_7cf53 : MethodName := ⟨RJ9, "min", "(II)I"⟩
def RJ0 : String := "java/lang/String"
def TJ0 : u_T := fun k => match k with
  | _ => ("", "", "", false)
def tyJ0 : Nat → FieldType := fun k => match k with
  | _ => .int
abbrev wsJ00 : List Cond := u_ws RJ0 TJ0 0
theorem nmJ0 : ∀ a, a < 0 → ∀ b, b < 0 → a ≠ b → (TJ0 a).2.1 ≠ (TJ0 b).2.1 := by decide +kernel
theorem tyJ0_ok : ∀ k, k < 0 → parseFieldDescriptor (TJ0 k).2.2.1 = some (tyJ0 k) := by decide +kernel
abbrev cJ0_length_8abf5 : ByteArray := prog_14_method_54_code
def yJ0_length_8abf5 : MethodName := ⟨RJ0, "length", "()I"⟩
abbrev cJ0_charAt_5068e : ByteArray := prog_14_method_56_code
def yJ0_charAt_5068e : MethodName := ⟨RJ0, "charAt", "(I)C"⟩
abbrev cJ0_coder_7d493 : ByteArray := prog_14_method_152_code
def yJ0_coder_7d493 : MethodName := ⟨RJ0, "coder", "()B"⟩
abbrev cJ0_isLatin1_aae02 : ByteArray := prog_14_method_154_code
def yJ0_isLatin1_aae02 : MethodName := ⟨RJ0, "isLatin1", "()Z"⟩
abbrev cJ0_checkIndex_df160 : ByteArray := prog_14_method_155_code
def yJ0_checkIndex_df160 : MethodName := ⟨RJ0, "checkIndex", "(II)V"⟩
def RJ1 : String := "java/lang/StringLatin1"
def TJ1 : u_T := fun k => match k with
  | _ => ("", "", "", false)
def tyJ1 : Nat → FieldType := fun k => match k with
  | _ => .int
abbrev wsJ10 : List Cond := u_ws RJ1 TJ1 0
theorem nmJ1 : ∀ a, a < 0 → ∀ b, b < 0 → a ≠ b → (TJ1 a).2.1 ≠ (TJ1 b).2.1 := by decide +kernel
theorem tyJ1_ok : ∀ k, k < 0 → parseFieldDescriptor (TJ1 k).2.2.1 = some (tyJ1 k) := by decide +kernel
abbrev cJ1_charAt_3b067 : ByteArray := prog_15_method_2_code
def yJ1_charAt_3b067 : MethodName := ⟨RJ1, "charAt", "([BI)C"⟩
def RJ2 : String := "java/lang/StringUTF16"
def TJ2 : u_T := fun k => match k with
  | _ => ("", "", "", false)
def tyJ2 : Nat → FieldType := fun k => match k with
  | _ => .int
abbrev wsJ20 : List Cond := u_ws RJ2 TJ2 0
theorem nmJ2 : ∀ a, a < 0 → ∀ b, b < 0 → a ≠ b → (TJ2 a).2.1 ≠ (TJ2 b).2.1 := by decide +kernel
theorem tyJ2_ok : ∀ k, k < 0 → parseFieldDescriptor (TJ2 k).2.2.1 = some (tyJ2 k) := by decide +kernel
abbrev cJ2_getChar_3b067 : ByteArray := prog_16_method_5_code
def yJ2_getChar_3b067 : MethodName := ⟨RJ2, "getChar", "([BI)C"⟩
abbrev cJ2_length_9d52b : ByteArray := prog_16_method_6_code
def yJ2_length_9d52b : MethodName := ⟨RJ2, "length", "([B)I"⟩
abbrev cJ2_charAt_3b067 : ByteArray := prog_16_method_83_code
def yJ2_charAt_3b067 : MethodName := ⟨RJ2, "charAt", "([BI)C"⟩
abbrev cJ2_checkIndex_2214a : ByteArray := prog_16_method_91_code
def yJ2_checkIndex_2214a : MethodName := ⟨RJ2, "checkIndex", "(I[B)V"⟩
def RJ10 : String := "java/lang/System"
def TJ10 : u_T := fun k => match k with
  | _ => ("", "", "", false)
def tyJ10 : Nat → FieldType := fun k => match k with
  | _ => .int
abbrev wsJ100 : List Cond := u_ws RJ10 TJ10 0
theorem nmJ10 : ∀ a, a < 0 → ∀ b, b < 0 → a ≠ b → (TJ10 a).2.1 ≠ (TJ10 b).2.1 := by decide +kernel
theorem tyJ10_ok : ∀ k, k < 0 → parseFieldDescriptor (TJ10 k).2.2.1 = some (tyJ10 k) := by decide +kernel
def RJ3 : String := "jdk/internal/util/Preconditions"
def TJ3 : u_T := fun k => match k with
  | _ => ("", "", "", false)
def tyJ3 : Nat → FieldType := fun k => match k with
  | _ => .int
abbrev wsJ30 : List Cond := u_ws RJ3 TJ3 0
theorem nmJ3 : ∀ a, a < 0 → ∀ b, b < 0 → a ≠ b → (TJ3 a).2.1 ≠ (TJ3 b).2.1 := by decide +kernel
theorem tyJ3_ok : ∀ k, k < 0 → parseFieldDescriptor (TJ3 k).2.2.1 = some (tyJ3 k) := by decide +kernel
abbrev cJ3_checkIndex_8e157 : ByteArray := prog_18_method_11_code
def yJ3_checkIndex_8e157 : MethodName := ⟨RJ3, "checkIndex", "(IILjava/util/function/BiFunction;)I"⟩
def RL : String := "KnotRowsLaw"
abbrev cL_law : ByteArray := code
def yL_law : MethodName := ⟨RL, "law", "([I)Z"⟩
abbrev vwCl : List vw_C := [(RX0, TX0, 3), (RX1, TX1, 3), (RX2, TX2, 11), (RX3, TX3, 3), (RX4, TX4, 18), (RX5, TX5, 5), (RX6, TX6, 2), (RX7, TX7, 6), (RX8, TX8, 17), (RX9, TX9, 52)]
end
section
/-! the table of methods, by program (wip/whole/gen_table.py) out of the printed names, decode rows and tables -/
def km_len : Jvm.ClassFile.Instr → Nat
  | .iload _ => 2 | .istore _ => 2 | .aload _ => 2 | .astore _ => 2 | .lload _ => 2 | .lstore _ => 2
  | .bipush _ => 2 | .ldc _ => 2 | .newarray _ => 2
  | .sipush _ => 3 | .ldc_w _ => 3 | .ldc2_w _ => 3 | .iinc _ _ => 3 | .getfield _ => 3 | .putfield _ => 3
  | .goto _ => 3 | .ifCond _ _ => 3 | .if_icmp _ _ => 3 | .invokevirtual _ => 3 | .invokestatic _ => 3 | .invokespecial _ => 3
  | .new _ => 3 | .anewarray _ => 3 | .multianewarray _ _ => 4
  | .tableswitch _ _ _ _ => 0
  | _ => 1
abbrev km_Q : Type := MethodName × ByteArray × Nat × Option FieldType × Nat × Nat × Bool × List (Nat × Jvm.ClassFile.Instr)
def km_okd (cc : ByteArray) (e : Nat × Jvm.ClassFile.Instr) : Bool := match decode cc e.1 with
  | .ok (i, n) => decide (i = e.2) && (Nat.beq n (km_len i) || Nat.beq (km_len i) 0)
  | _ => false
def km_okc (q : km_Q) : Bool := q.2.2.2.2.2.2.2.all (km_okd q.2.1)
theorem km_dall {q : km_Q} (h : (q.2.2.2.2.2.2.2.drop 0).all (km_okd q.2.1) = true) : km_okc q = true := h
theorem km_dlast {l : List (Nat × Jvm.ClassFile.Instr)} {p : Nat × Jvm.ClassFile.Instr → Bool} {a n : Nat} (h : Nat.ble l.length (a + n) = true) (h1 : ((l.drop a).take n).all p = true) : (l.drop a).all p = true := by
  have h2 : (l.drop a).take n = l.drop a := List.take_of_length_le (by rw [List.length_drop]; have := Nat.le_of_ble_eq_true h; omega)
  rw [h2] at h1
  exact h1
theorem km_dstep {l : List (Nat × Jvm.ClassFile.Instr)} {p : Nat × Jvm.ClassFile.Instr → Bool} {a n : Nat} (h1 : ((l.drop a).take n).all p = true) (h2 : (l.drop (a + n)).all p = true) : (l.drop a).all p = true := by
  rw [← List.take_append_drop n (l.drop a), List.all_append, h1, List.drop_drop, h2]
  rfl
def km_c0 : List (Nat × Jvm.ClassFile.Instr) := [(0, .aload_n 0), (1, .invokespecial 3), (4, .aload_n 0), (5, .bipush 16), (7, .newarray .int), (9, .putfield 9), (12, .aload_n 0), (13, .bipush 8), (15, .bipush 12), (17, .multianewarray 15 2), (21, .putfield 17), (24, .return_)]
def km_q0 : km_Q := (yX0_init, cX0_init, 1, none, 0, 1, false, km_c0)
def km_c1 : List (Nat × Jvm.ClassFile.Instr) := [(0, .iconst 0), (1, .istore_n 2), (2, .aload_n 0), (3, .aload_n 1), (4, .getfield 20), (7, .putfield 26), (10, .iconst 0), (11, .istore_n 3), (12, .iload_n 3), (13, .aload_n 1), (14, .getfield 29), (17, .if_icmp .ge 106), (20, .iconst 0), (21, .istore 4), (23, .aload_n 1), (24, .getfield 32), (27, .iload_n 3), (28, .iaload), (29, .istore 5), (31, .iload 5), (33, .aload_n 1), (34, .getfield 32), (37, .iload_n 3), (38, .iconst 1), (39, .iadd), (40, .iaload), (41, .if_icmp .ge 28), (44, .iload 4), (46, .aload_n 1), (47, .iload 5), (49, .invokevirtual 35), (52, .ifCond .eq 7), (55, .iconst 0), (56, .goto 4), (59, .iconst 1), (60, .iadd), (61, .istore 4), (63, .iinc 5 1), (66, .goto (-35)), (69, .iload 4), (71, .ifCond .ne 26), (74, .aload_n 0), (75, .aload_n 1), (76, .iload_n 3), (77, .aload_n 0), (78, .getfield 26), (81, .invokevirtual 39), (84, .aload_n 0), (85, .dup), (86, .getfield 26), (89, .iconst 1), (90, .iadd), (91, .putfield 26), (94, .goto 23), (97, .aload_n 0), (98, .aload_n 1), (99, .iload_n 3), (100, .iload_n 2), (101, .iload 4), (103, .iadd), (104, .iconst 1), (105, .isub), (106, .invokevirtual 39), (109, .aload_n 0), (110, .aload_n 1), (111, .iload_n 3), (112, .iload_n 2), (113, .invokevirtual 43), (116, .istore_n 2), (117, .iinc 3 1), (120, .goto (-108)), (123, .return_)]
def km_q1 : km_Q := (yX0_number, cX0_number, 6, none, 0, 2, false, km_c1)
def km_c2 : List (Nat × Jvm.ClassFile.Instr) := [(0, .aload_n 1), (1, .getfield 32), (4, .iload_n 2), (5, .iaload), (6, .istore 4), (8, .iload 4), (10, .aload_n 1), (11, .getfield 32), (14, .iload_n 2), (15, .iconst 1), (16, .iadd), (17, .iaload), (18, .if_icmp .ge 17), (21, .aload_n 0), (22, .getfield 9), (25, .iload 4), (27, .iload_n 3), (28, .iastore), (29, .iinc 4 1), (32, .goto (-24)), (35, .return_)]
def km_q2 : km_Q := (yX0_fill, cX0_fill, 5, none, 0, 4, false, km_c2)
def km_c3 : List (Nat × Jvm.ClassFile.Instr) := [(0, .iload_n 3), (1, .istore 4), (3, .aload_n 1), (4, .getfield 32), (7, .iload_n 2), (8, .iaload), (9, .istore 5), (11, .iload 5), (13, .aload_n 1), (14, .getfield 32), (17, .iload_n 2), (18, .iconst 1), (19, .iadd), (20, .iaload), (21, .if_icmp .ge 45), (24, .iload 4), (26, .aload_n 1), (27, .iload 5), (29, .invokevirtual 35), (32, .ifCond .eq 7), (35, .iconst 0), (36, .goto 4), (39, .iconst 1), (40, .iadd), (41, .istore 4), (43, .iload 4), (45, .iload_n 3), (46, .if_icmp .le 14), (49, .aload_n 0), (50, .getfield 9), (53, .iload 5), (55, .iload 4), (57, .iconst 1), (58, .isub), (59, .iastore), (60, .iinc 5 1), (63, .goto (-52)), (66, .iload 4), (68, .ireturn)]
def km_q3 : km_Q := (yX0_numberRing, cX0_numberRing, 6, (some .int), 0, 4, false, km_c3)
def km_c4 : List (Nat × Jvm.ClassFile.Instr) := [(0, .iconst 0), (1, .istore_n 3), (2, .iload_n 3), (3, .aload_n 1), (4, .getfield 20), (7, .if_icmp .ge 108), (10, .iconst 0), (11, .istore 4), (13, .iload 4), (15, .bipush 12), (17, .if_icmp .ge 19), (20, .aload_n 0), (21, .getfield 17), (24, .iload_n 3), (25, .aaload), (26, .iload 4), (28, .lconst 0), (29, .lastore), (30, .iinc 4 1), (33, .goto (-20)), (36, .aload_n 2), (37, .getfield 47), (40, .iload_n 3), (41, .iaload), (42, .istore 4), (44, .aload_n 0), (45, .getfield 17), (48, .iload_n 3), (49, .aaload), (50, .aload_n 0), (51, .getfield 9), (54, .aload_n 2), (55, .getfield 52), (58, .iload_n 3), (59, .iaload), (60, .iaload), (61, .dup2), (62, .laload), (63, .ldc2_w 55), (66, .ladd), (67, .lastore), (68, .aload_n 0), (69, .getfield 17), (72, .iload_n 3), (73, .aaload), (74, .aload_n 0), (75, .getfield 9), (78, .iload 4), (80, .iaload), (81, .dup2), (82, .laload), (83, .lconst 1), (84, .lsub), (85, .lastore), (86, .aload_n 0), (87, .getfield 17), (90, .iload_n 3), (91, .aaload), (92, .aload_n 0), (93, .getfield 9), (96, .aload_n 2), (97, .getfield 57), (100, .iload 4), (102, .iaload), (103, .iaload), (104, .dup2), (105, .laload), (106, .lconst 1), (107, .lsub), (108, .lastore), (109, .iinc 3 1), (112, .goto (-110)), (115, .return_)]
def km_q4 : km_Q := (yX0_writeRows, cX0_writeRows, 5, none, 0, 3, false, km_c4)
def km_c5 : List (Nat × Jvm.ClassFile.Instr) := [(0, .aload_n 1), (1, .getfield 20), (4, .ifCond .ne 17), (7, .aload_n 1), (8, .getfield 29), (11, .iconst 1), (12, .if_icmp .ne 7), (15, .iconst 1), (16, .goto 4), (19, .iconst 0), (20, .ireturn), (21, .aload_n 0), (22, .getfield 26), (25, .aload_n 1), (26, .getfield 20), (29, .if_icmp .le 5), (32, .iconst 0), (33, .ireturn), (34, .aload_n 0), (35, .aload_n 1), (36, .aload_n 2), (37, .invokevirtual 60), (40, .aload_n 0), (41, .aload_n 1), (42, .getfield 20), (45, .iconst 1), (46, .isub), (47, .invokevirtual 64), (50, .invokestatic 68), (53, .l2i), (54, .ireturn)]
def km_q5 : km_Q := (yX0_determinant, cX0_determinant, 3, (some .int), 0, 3, false, km_c5)
def km_c6 : List (Nat × Jvm.ClassFile.Instr) := [(0, .lconst 1), (1, .lstore_n 2), (2, .lconst 1), (3, .lstore 4), (5, .iconst 0), (6, .istore 6), (8, .iload 6), (10, .iload_n 1), (11, .if_icmp .ge 164), (14, .aload_n 0), (15, .iload 6), (17, .iload 6), (19, .iload_n 1), (20, .invokevirtual 74), (23, .istore 7), (25, .iload 7), (27, .iconst (-1)), (28, .if_icmp .ne 5), (31, .lconst 0), (32, .lreturn), (33, .iload 7), (35, .iload 6), (37, .if_icmp .eq 16), (40, .aload_n 0), (41, .iload 7), (43, .iload 6), (45, .invokevirtual 78), (48, .lload 4), (50, .lneg), (51, .lstore 4), (53, .iload 6), (55, .iconst 1), (56, .iadd), (57, .istore 8), (59, .iload 8), (61, .iload_n 1), (62, .if_icmp .ge 96), (65, .iload 6), (67, .iconst 1), (68, .iadd), (69, .istore 9), (71, .iload 9), (73, .iload_n 1), (74, .if_icmp .ge 78), (77, .aload_n 0), (78, .getfield 17), (81, .iload 8), (83, .aaload), (84, .iload 9), (86, .laload), (87, .aload_n 0), (88, .getfield 17), (91, .iload 6), (93, .aaload), (94, .iload 6), (96, .laload), (97, .lmul), (98, .aload_n 0), (99, .getfield 17), (102, .iload 8), (104, .aaload), (105, .iload 6), (107, .laload), (108, .aload_n 0), (109, .getfield 17), (112, .iload 6), (114, .aaload), (115, .iload 9), (117, .laload), (118, .lmul), (119, .lsub), (120, .lstore 10), (122, .aload_n 0), (123, .getfield 17), (126, .iload 8), (128, .aaload), (129, .iload 9), (131, .lload_n 2), (132, .lconst 0), (133, .lcmp), (134, .ifCond .ne 7), (137, .lconst 0), (138, .goto 7), (141, .lload 10), (143, .lload_n 2), (144, .ldiv), (145, .lastore), (146, .iinc 9 1), (149, .goto (-78)), (152, .iinc 8 1), (155, .goto (-96)), (158, .aload_n 0), (159, .getfield 17), (162, .iload 6), (164, .aaload), (165, .iload 6), (167, .laload), (168, .lstore_n 2), (169, .iinc 6 1), (172, .goto (-164)), (175, .lload 4), (177, .lload_n 2), (178, .lmul), (179, .lreturn)]
def km_q6 : km_Q := (yX0_eliminated, cX0_eliminated, 12, (some .long), 0, 2, false, km_c6)
def km_c7 : List (Nat × Jvm.ClassFile.Instr) := [(0, .iload_n 2), (1, .istore 4), (3, .iload 4), (5, .iload_n 3), (6, .if_icmp .ge 26), (9, .aload_n 0), (10, .getfield 17), (13, .iload 4), (15, .aaload), (16, .iload_n 1), (17, .laload), (18, .lconst 0), (19, .lcmp), (20, .ifCond .eq 6), (23, .iload 4), (25, .ireturn), (26, .iinc 4 1), (29, .goto (-26)), (32, .iconst (-1)), (33, .ireturn)]
def km_q7 : km_Q := (yX0_pivotRow, cX0_pivotRow, 5, (some .int), 0, 4, false, km_c7)
def km_c8 : List (Nat × Jvm.ClassFile.Instr) := [(0, .iconst 0), (1, .istore_n 3), (2, .iload_n 3), (3, .bipush 12), (5, .if_icmp .ge 45), (8, .aload_n 0), (9, .getfield 17), (12, .iload_n 1), (13, .aaload), (14, .iload_n 3), (15, .laload), (16, .lstore 4), (18, .aload_n 0), (19, .getfield 17), (22, .iload_n 1), (23, .aaload), (24, .iload_n 3), (25, .aload_n 0), (26, .getfield 17), (29, .iload_n 2), (30, .aaload), (31, .iload_n 3), (32, .laload), (33, .lastore), (34, .aload_n 0), (35, .getfield 17), (38, .iload_n 2), (39, .aaload), (40, .iload_n 3), (41, .lload 4), (43, .lastore), (44, .iinc 3 1), (47, .goto (-45)), (50, .return_)]
def km_q8 : km_Q := (yX0_swapRows, cX0_swapRows, 6, none, 0, 3, false, km_c8)
def km_c9 : List (Nat × Jvm.ClassFile.Instr) := [(0, .aload_n 0), (1, .aload_n 2), (2, .aload_n 3), (3, .invokevirtual 60), (6, .iconst 0), (7, .istore 4), (9, .iload 4), (11, .aload_n 2), (12, .getfield 20), (15, .if_icmp .ge 52), (18, .iconst 0), (19, .istore 5), (21, .iload 5), (23, .aload_n 0), (24, .getfield 26), (27, .if_icmp .ge 34), (30, .aload_n 0), (31, .getfield 17), (34, .iload 4), (36, .aaload), (37, .iload 5), (39, .aload_n 0), (40, .getfield 17), (43, .iload 4), (45, .aaload), (46, .iload 5), (48, .laload), (49, .iload_n 1), (50, .i2l), (51, .invokestatic 82), (54, .lastore), (55, .iinc 5 1), (58, .goto (-37)), (61, .iinc 4 1), (64, .goto (-55)), (67, .aload_n 0), (68, .getfield 26), (71, .aload_n 0), (72, .iload_n 1), (73, .aload_n 2), (74, .getfield 20), (77, .invokevirtual 86), (80, .isub), (81, .istore 4), (83, .lconst 1), (84, .lstore 5), (86, .iconst 0), (87, .istore 7), (89, .iload 7), (91, .iload 4), (93, .if_icmp .ge 16), (96, .lload 5), (98, .iload_n 1), (99, .i2l), (100, .lmul), (101, .lstore 5), (103, .iinc 7 1), (106, .goto (-17)), (109, .lload 5), (111, .lreturn)]
def km_q9 : km_Q := (yX0_colouringsBy, cX0_colouringsBy, 8, (some .long), 0, 4, false, km_c9)
def km_c10 : List (Nat × Jvm.ClassFile.Instr) := [(0, .iconst 0), (1, .istore_n 3), (2, .iconst 0), (3, .istore 4), (5, .iload 4), (7, .aload_n 0), (8, .getfield 26), (11, .if_icmp .ge 70), (14, .iload_n 3), (15, .iload_n 2), (16, .if_icmp .ge 65), (19, .aload_n 0), (20, .iload 4), (22, .iload_n 3), (23, .iload_n 2), (24, .invokevirtual 74), (27, .istore 5), (29, .iload 5), (31, .iconst (-1)), (32, .if_icmp .ne 6), (35, .goto 40), (38, .aload_n 0), (39, .iload 5), (41, .iload_n 3), (42, .invokevirtual 78), (45, .iload_n 3), (46, .iconst 1), (47, .iadd), (48, .istore 6), (50, .iload 6), (52, .iload_n 2), (53, .if_icmp .ge 19), (56, .aload_n 0), (57, .iload 6), (59, .iload_n 3), (60, .iload 4), (62, .iload_n 1), (63, .invokevirtual 90), (66, .iinc 6 1), (69, .goto (-19)), (72, .iinc 3 1), (75, .iinc 4 1), (78, .goto (-73)), (81, .iload_n 3), (82, .ireturn)]
def km_q10 : km_Q := (yX0_rank, cX0_rank, 7, (some .int), 0, 3, false, km_c10)
def km_c11 : List (Nat × Jvm.ClassFile.Instr) := [(0, .aload_n 0), (1, .getfield 17), (4, .iload_n 1), (5, .aaload), (6, .iload_n 3), (7, .laload), (8, .lstore 5), (10, .aload_n 0), (11, .getfield 17), (14, .iload_n 2), (15, .aaload), (16, .iload_n 3), (17, .laload), (18, .lstore 7), (20, .iload_n 3), (21, .istore 9), (23, .iload 9), (25, .aload_n 0), (26, .getfield 26), (29, .if_icmp .ge 49), (32, .aload_n 0), (33, .getfield 17), (36, .iload_n 1), (37, .aaload), (38, .iload 9), (40, .aload_n 0), (41, .getfield 17), (44, .iload_n 1), (45, .aaload), (46, .iload 9), (48, .laload), (49, .lload 7), (51, .lmul), (52, .aload_n 0), (53, .getfield 17), (56, .iload_n 2), (57, .aaload), (58, .iload 9), (60, .laload), (61, .lload 5), (63, .lmul), (64, .lsub), (65, .iload 4), (67, .i2l), (68, .invokestatic 82), (71, .lastore), (72, .iinc 9 1), (75, .goto (-52)), (78, .return_)]
def km_q11 : km_Q := (yX0_clear, cX0_clear, 10, none, 0, 5, false, km_c11)
def km_c12 : List (Nat × Jvm.ClassFile.Instr) := [(0, .aload_n 0), (1, .invokespecial 3), (4, .aload_n 0), (5, .bipush 121), (7, .newarray .int), (9, .putfield 11), (12, .aload_n 0), (13, .bipush 117), (15, .newarray .int), (17, .putfield 15), (20, .return_)]
def km_q12 : km_Q := (yX1_init, cX1_init, 1, none, 1, 1, false, km_c12)
def km_c13 : List (Nat × Jvm.ClassFile.Instr) := [(0, .iconst 0), (1, .istore_n 3), (2, .iload_n 3), (3, .aload_n 0), (4, .getfield 11), (7, .arraylength), (8, .if_icmp .ge 16), (11, .aload_n 0), (12, .getfield 11), (15, .iload_n 3), (16, .iconst 0), (17, .iastore), (18, .iinc 3 1), (21, .goto (-19)), (24, .aload_n 0), (25, .aload_n 1), (26, .invokevirtual 18), (29, .putfield 24), (32, .aload_n 1), (33, .getfield 27), (36, .ifCond .ne 4), (39, .return_), (40, .aload_n 0), (41, .aload_n 1), (42, .aload_n 2), (43, .invokevirtual 30), (46, .iconst 0), (47, .istore_n 3), (48, .iload_n 3), (49, .aload_n 1), (50, .getfield 34), (53, .if_icmp .gt 62), (56, .iconst 1), (57, .istore 4), (59, .iload 4), (61, .bipush 12), (63, .if_icmp .gt 46), (66, .aload_n 0), (67, .getfield 15), (70, .iload_n 3), (71, .bipush 13), (73, .imul), (74, .iload 4), (76, .iadd), (77, .iaload), (78, .istore 5), (80, .iload 5), (82, .ifCond .le 21), (85, .aload_n 0), (86, .iload 5), (88, .aload_n 1), (89, .getfield 34), (92, .iconst 2), (93, .iload_n 3), (94, .imul), (95, .isub), (96, .iload 4), (98, .iconst 1), (99, .isub), (100, .invokevirtual 37), (103, .iinc 4 1), (106, .goto (-47)), (109, .iinc 3 1), (112, .goto (-64)), (115, .return_)]
def km_q13 : km_Q := (yX1_addUp, cX1_addUp, 6, none, 1, 3, false, km_c13)
def km_c14 : List (Nat × Jvm.ClassFile.Instr) := [(0, .iconst 0), (1, .istore_n 3), (2, .iload_n 3), (3, .aload_n 0), (4, .getfield 15), (7, .arraylength), (8, .if_icmp .ge 16), (11, .aload_n 0), (12, .getfield 15), (15, .iload_n 3), (16, .iconst 0), (17, .iastore), (18, .iinc 3 1), (21, .goto (-19)), (24, .iconst 0), (25, .istore_n 3), (26, .iload_n 3), (27, .aload_n 1), (28, .invokevirtual 41), (31, .if_icmp .gt 43), (34, .aload_n 2), (35, .aload_n 1), (36, .iload_n 3), (37, .invokevirtual 44), (40, .istore 4), (42, .iload 4), (44, .bipush 12), (46, .if_icmp .gt 22), (49, .aload_n 0), (50, .getfield 15), (53, .iload_n 3), (54, .invokestatic 50), (57, .bipush 13), (59, .imul), (60, .iload 4), (62, .iadd), (63, .dup2), (64, .iaload), (65, .iconst 1), (66, .iadd), (67, .iastore), (68, .iinc 3 1), (71, .goto (-45)), (74, .return_)]
def km_q14 : km_Q := (yX1_tallyStates, cX1_tallyStates, 5, none, 1, 3, false, km_c14)
def km_c15 : List (Nat × Jvm.ClassFile.Instr) := [(0, .iload_n 3), (1, .iconst 2), (2, .irem), (3, .ifCond .ne 7), (6, .iload_n 1), (7, .goto 5), (10, .iload_n 1), (11, .ineg), (12, .istore 4), (14, .iconst 0), (15, .istore 5), (17, .iload 5), (19, .iload_n 3), (20, .if_icmp .gt 65), (23, .bipush 60), (25, .iload_n 2), (26, .iadd), (27, .iconst 2), (28, .iload_n 3), (29, .imul), (30, .iadd), (31, .iconst 4), (32, .iload 5), (34, .imul), (35, .isub), (36, .istore 6), (38, .iload 6), (40, .ifCond .lt 25), (43, .iload 6), (45, .aload_n 0), (46, .getfield 11), (49, .arraylength), (50, .if_icmp .ge 15), (53, .aload_n 0), (54, .getfield 11), (57, .iload 6), (59, .dup2), (60, .iaload), (61, .iload 4), (63, .iadd), (64, .iastore), (65, .iload 4), (67, .iload_n 3), (68, .iload 5), (70, .isub), (71, .imul), (72, .iload 5), (74, .iconst 1), (75, .iadd), (76, .idiv), (77, .istore 4), (79, .iinc 5 1), (82, .goto (-65)), (85, .return_)]
def km_q15 : km_Q := (yX1_addPower, cX1_addPower, 7, none, 1, 4, false, km_c15)
def km_c16 : List (Nat × Jvm.ClassFile.Instr) := [(0, .iload_n 1), (1, .bipush (-60)), (3, .if_icmp .lt 9), (6, .iload_n 1), (7, .bipush 60), (9, .if_icmp .le 7), (12, .iconst 0), (13, .goto 12), (16, .aload_n 0), (17, .getfield 11), (20, .bipush 60), (22, .iload_n 1), (23, .iadd), (24, .iaload), (25, .ireturn)]
def km_q16 : km_Q := (yX1_at, cX1_at, 2, (some .int), 1, 2, false, km_c16)
def km_c17 : List (Nat × Jvm.ClassFile.Instr) := [(0, .iload_n 1), (1, .bipush (-60)), (3, .if_icmp .lt 9), (6, .iload_n 1), (7, .bipush 60), (9, .if_icmp .le 5), (12, .iconst 0), (13, .ireturn), (14, .aload_n 0), (15, .iload_n 1), (16, .iconst 3), (17, .aload_n 0), (18, .getfield 24), (21, .imul), (22, .iadd), (23, .invokevirtual 56), (26, .istore_n 2), (27, .aload_n 0), (28, .getfield 24), (31, .iconst 2), (32, .irem), (33, .ifCond .ne 7), (36, .iload_n 2), (37, .goto 5), (40, .iload_n 2), (41, .ineg), (42, .ireturn)]
def km_q17 : km_Q := (yX1_knottedAt, cX1_knottedAt, 3, (some .int), 1, 2, false, km_c17)
def km_c18 : List (Nat × Jvm.ClassFile.Instr) := [(0, .bipush (-60)), (2, .istore_n 3), (3, .iload_n 3), (4, .bipush 60), (6, .if_icmp .gt 33), (9, .aload_n 0), (10, .iload_n 3), (11, .invokevirtual 59), (14, .aload_n 1), (15, .iload_n 2), (16, .ifCond .eq 8), (19, .iload_n 3), (20, .ineg), (21, .goto 4), (24, .iload_n 3), (25, .invokevirtual 59), (28, .if_icmp .eq 5), (31, .iconst 0), (32, .ireturn), (33, .iinc 3 1), (36, .goto (-33)), (39, .iconst 1), (40, .ireturn)]
def km_q18 : km_Q := (yX1_knottedAlike, cX1_knottedAlike, 4, (some .boolean), 1, 3, false, km_c18)
def km_c19 : List (Nat × Jvm.ClassFile.Instr) := [(0, .iconst 0), (1, .istore_n 1), (2, .iconst 0), (3, .istore_n 2), (4, .iconst 0), (5, .istore_n 3), (6, .bipush (-60)), (8, .istore 4), (10, .iload 4), (12, .bipush 60), (14, .if_icmp .gt 34), (17, .aload_n 0), (18, .iload 4), (20, .invokevirtual 56), (23, .ifCond .eq 19), (26, .iload_n 3), (27, .ifCond .eq 7), (30, .iload_n 1), (31, .goto 5), (34, .iload 4), (36, .istore_n 1), (37, .iload 4), (39, .istore_n 2), (40, .iconst 1), (41, .istore_n 3), (42, .iinc 4 1), (45, .goto (-35)), (48, .iload_n 2), (49, .iload_n 1), (50, .isub), (51, .ireturn)]
def km_q19 : km_Q := (yX1_span, cX1_span, 5, (some .int), 1, 1, false, km_c19)
def km_c20 : List (Nat × Jvm.ClassFile.Instr) := [(0, .aload_n 0), (1, .invokespecial 3), (4, .aload_n 0), (5, .bipush 16), (7, .newarray .int), (9, .putfield 9), (12, .aload_n 0), (13, .bipush 16), (15, .newarray .int), (17, .putfield 15), (20, .aload_n 0), (21, .bipush 16), (23, .newarray .int), (25, .putfield 18), (28, .aload_n 0), (29, .bipush 8), (31, .newarray .int), (33, .putfield 21), (36, .aload_n 0), (37, .bipush 8), (39, .newarray .int), (41, .putfield 24), (44, .aload_n 0), (45, .bipush 32), (47, .newarray .int), (49, .putfield 27), (52, .aload_n 0), (53, .bipush 32), (55, .newarray .int), (57, .putfield 30), (60, .aload_n 0), (61, .bipush 32), (63, .newarray .int), (65, .putfield 33), (68, .aload_n 0), (69, .bipush 33), (71, .newarray .int), (73, .putfield 36), (76, .aload_n 0), (77, .bipush 32), (79, .newarray .int), (81, .putfield 39), (84, .return_)]
def km_q20 : km_Q := (yX2_init, cX2_init, 1, none, 2, 1, false, km_c20)
def km_c21 : List (Nat × Jvm.ClassFile.Instr) := [(0, .aload_n 0), (1, .aload_n 1), (2, .invokevirtual 42), (5, .aload_n 0), (6, .aload_n 1), (7, .invokevirtual 46), (10, .aload_n 0), (11, .iconst 2), (12, .aload_n 1), (13, .invokevirtual 49), (16, .imul), (17, .invokevirtual 55), (20, .iconst 0), (21, .istore_n 2), (22, .iload_n 2), (23, .aload_n 0), (24, .getfield 59), (27, .if_icmp .ge 21), (30, .aload_n 0), (31, .getfield 39), (34, .iload_n 2), (35, .aload_n 0), (36, .aload_n 1), (37, .iload_n 2), (38, .invokevirtual 63), (41, .iastore), (42, .iinc 2 1), (45, .goto (-23)), (48, .return_)]
def km_q21 : km_Q := (yX2_trace, cX2_trace, 3, none, 2, 2, false, km_c21)
def km_c22 : List (Nat × Jvm.ClassFile.Instr) := [(0, .iconst 0), (1, .istore_n 2), (2, .iload_n 2), (3, .aload_n 1), (4, .getfield 67), (7, .if_icmp .ge 87), (10, .aload_n 1), (11, .getfield 70), (14, .iload_n 2), (15, .iaload), (16, .istore_n 3), (17, .aload_n 1), (18, .getfield 70), (21, .iload_n 2), (22, .iconst 1), (23, .iadd), (24, .iaload), (25, .istore 4), (27, .iload_n 3), (28, .istore 5), (30, .iload 5), (32, .iload 4), (34, .if_icmp .ge 54), (37, .iload 5), (39, .iconst 1), (40, .iadd), (41, .iload 4), (43, .if_icmp .ge 10), (46, .iload 5), (48, .iconst 1), (49, .iadd), (50, .goto 4), (53, .iload_n 3), (54, .istore 6), (56, .aload_n 0), (57, .getfield 9), (60, .iload 5), (62, .iload 6), (64, .iastore), (65, .aload_n 0), (66, .getfield 15), (69, .iload 6), (71, .iload 5), (73, .iastore), (74, .aload_n 0), (75, .getfield 18), (78, .iload 5), (80, .iload_n 2), (81, .iastore), (82, .iinc 5 1), (85, .goto (-55)), (88, .iinc 2 1), (91, .goto (-89)), (94, .return_)]
def km_q22 : km_Q := (yX2_joinPasses, cX2_joinPasses, 7, none, 2, 2, false, km_c22)
def km_c23 : List (Nat × Jvm.ClassFile.Instr) := [(0, .iconst 0), (1, .istore_n 2), (2, .iload_n 2), (3, .aload_n 1), (4, .invokevirtual 49), (7, .if_icmp .ge 94), (10, .aload_n 1), (11, .iload_n 2), (12, .invokevirtual 73), (15, .istore_n 3), (16, .iconst 0), (17, .istore 4), (19, .aload_n 1), (20, .iload_n 2), (21, .invokevirtual 77), (24, .ifCond .eq 29), (27, .aload_n 1), (28, .getfield 81), (31, .iload_n 3), (32, .iaload), (33, .ifCond .le 7), (36, .iconst 3), (37, .goto 4), (40, .iconst 1), (41, .istore 4), (43, .aload_n 0), (44, .getfield 21), (47, .iload_n 3), (48, .iload_n 2), (49, .iastore), (50, .goto 10), (53, .aload_n 0), (54, .getfield 24), (57, .iload_n 3), (58, .iload_n 2), (59, .iastore), (60, .aload_n 0), (61, .iconst 4), (62, .iload_n 3), (63, .imul), (64, .iload 4), (66, .iadd), (67, .iconst 2), (68, .aload_n 0), (69, .getfield 15), (72, .iload_n 2), (73, .iaload), (74, .imul), (75, .iconst 1), (76, .iadd), (77, .invokevirtual 84), (80, .aload_n 0), (81, .iconst 4), (82, .iload_n 3), (83, .imul), (84, .iload 4), (86, .iconst 2), (87, .ixor), (88, .iadd), (89, .iconst 2), (90, .iload_n 2), (91, .imul), (92, .invokevirtual 84), (95, .iinc 2 1), (98, .goto (-96)), (101, .return_)]
def km_q23 : km_Q := (yX2_joinEnds, cX2_joinEnds, 5, none, 2, 2, false, km_c23)
def km_c24 : List (Nat × Jvm.ClassFile.Instr) := [(0, .aload_n 0), (1, .getfield 27), (4, .iload_n 1), (5, .iload_n 2), (6, .iastore), (7, .aload_n 0), (8, .getfield 30), (11, .iload_n 2), (12, .iconst 1), (13, .ixor), (14, .iload_n 1), (15, .iastore), (16, .return_)]
def km_q24 : km_Q := (yX2_joinEnd, cX2_joinEnd, 3, none, 2, 3, false, km_c24)
def km_c25 : List (Nat × Jvm.ClassFile.Instr) := [(0, .lconst 0), (1, .lstore_n 2), (2, .iconst 0), (3, .istore 4), (5, .aload_n 0), (6, .iconst 0), (7, .putfield 59), (10, .iconst 0), (11, .istore 5), (13, .iload 5), (15, .iload_n 1), (16, .if_icmp .ge 121), (19, .lload_n 2), (20, .iload 5), (22, .lshr), (23, .lconst 1), (24, .land), (25, .lconst 1), (26, .lcmp), (27, .ifCond .ne 6), (30, .goto 101), (33, .aload_n 0), (34, .getfield 36), (37, .aload_n 0), (38, .getfield 59), (41, .iload 4), (43, .iastore), (44, .iload 5), (46, .istore 6), (48, .iconst 0), (49, .istore 7), (51, .iload 7), (53, .iload_n 1), (54, .if_icmp .ge 67), (57, .lload_n 2), (58, .iload 6), (60, .lshr), (61, .lconst 1), (62, .land), (63, .lconst 0), (64, .lcmp), (65, .ifCond .ne 56), (68, .lload_n 2), (69, .lconst 1), (70, .iload 6), (72, .lshl), (73, .lor), (74, .lstore_n 2), (75, .aload_n 0), (76, .getfield 33), (79, .iload 4), (81, .iload 6), (83, .iastore), (84, .iinc 4 1), (87, .aload_n 0), (88, .getfield 30), (91, .iload 6), (93, .iaload), (94, .istore 8), (96, .aload_n 0), (97, .getfield 27), (100, .iload 8), (102, .bipush (-4)), (104, .iand), (105, .iload 8), (107, .iconst 1), (108, .iadd), (109, .iconst 3), (110, .iand), (111, .ior), (112, .iaload), (113, .istore 6), (115, .iinc 7 1), (118, .goto (-67)), (121, .aload_n 0), (122, .dup), (123, .getfield 59), (126, .iconst 1), (127, .iadd), (128, .putfield 59), (131, .iinc 5 1), (134, .goto (-121)), (137, .aload_n 0), (138, .getfield 36), (141, .aload_n 0), (142, .getfield 59), (145, .iload 4), (147, .iastore), (148, .return_)]
def km_q25 : km_Q := (yX2_walkFaces, cX2_walkFaces, 9, none, 2, 2, false, km_c25)
def km_c26 : List (Nat × Jvm.ClassFile.Instr) := [(0, .aload_n 0), (1, .iload_n 2), (2, .invokevirtual 88), (5, .istore_n 3), (6, .iload_n 3), (7, .iconst 1), (8, .if_icmp .ne 5), (11, .iconst 1), (12, .ireturn), (13, .iload_n 3), (14, .iconst 3), (15, .if_icmp .gt 15), (18, .aload_n 0), (19, .iload_n 2), (20, .invokevirtual 91), (23, .invokestatic 94), (26, .iload_n 3), (27, .if_icmp .eq 5), (30, .iconst 0), (31, .ireturn), (32, .iconst 0), (33, .istore 4), (35, .aload_n 0), (36, .getfield 36), (39, .iload_n 2), (40, .iaload), (41, .istore 5), (43, .iload 5), (45, .aload_n 0), (46, .getfield 36), (49, .iload_n 2), (50, .iconst 1), (51, .iadd), (52, .iaload), (53, .if_icmp .ge 51), (56, .aload_n 0), (57, .getfield 33), (60, .iload 5), (62, .iaload), (63, .iconst 1), (64, .ishr), (65, .istore 6), (67, .iload 4), (69, .iconst 1), (70, .aload_n 1), (71, .getfield 99), (74, .iload 6), (76, .iaload), (77, .iconst 1), (78, .iand), (79, .aload_n 1), (80, .getfield 99), (83, .aload_n 0), (84, .getfield 9), (87, .iload 6), (89, .iaload), (90, .iaload), (91, .iconst 1), (92, .iand), (93, .iadd), (94, .ishl), (95, .ior), (96, .istore 4), (98, .iinc 5 1), (101, .goto (-58)), (104, .iload_n 3), (105, .iconst 2), (106, .if_icmp .ne 15), (109, .iload 4), (111, .iconst 5), (112, .if_icmp .ne 7), (115, .iconst 2), (116, .goto 4), (119, .iconst 0), (120, .ireturn), (121, .iload 4), (123, .bipush 7), (125, .if_icmp .ne 7), (128, .iconst 3), (129, .goto 4), (132, .iconst 0), (133, .ireturn)]
def km_q26 : km_Q := (yX2_judged, cX2_judged, 7, (some .int), 2, 3, false, km_c26)
def km_c27 : List (Nat × Jvm.ClassFile.Instr) := [(0, .aload_n 0), (1, .getfield 36), (4, .iload_n 1), (5, .iconst 1), (6, .iadd), (7, .iaload), (8, .aload_n 0), (9, .getfield 36), (12, .iload_n 1), (13, .iaload), (14, .isub), (15, .ireturn)]
def km_q27 : km_Q := (yX2_corners, cX2_corners, 2, (some .int), 2, 2, false, km_c27)
def km_c28 : List (Nat × Jvm.ClassFile.Instr) := [(0, .iconst 0), (1, .istore_n 2), (2, .aload_n 0), (3, .getfield 36), (6, .iload_n 1), (7, .iaload), (8, .istore_n 3), (9, .iload_n 3), (10, .aload_n 0), (11, .getfield 36), (14, .iload_n 1), (15, .iconst 1), (16, .iadd), (17, .iaload), (18, .if_icmp .ge 27), (21, .iload_n 2), (22, .iconst 1), (23, .aload_n 0), (24, .getfield 30), (27, .aload_n 0), (28, .getfield 33), (31, .iload_n 3), (32, .iaload), (33, .iaload), (34, .iconst 2), (35, .ishr), (36, .ishl), (37, .ior), (38, .istore_n 2), (39, .iinc 3 1), (42, .goto (-33)), (45, .iload_n 2), (46, .ireturn)]
def km_q28 : km_Q := (yX2_crossingsAt, cX2_crossingsAt, 4, (some .int), 2, 2, false, km_c28)
def km_c29 : List (Nat × Jvm.ClassFile.Instr) := [(0, .aload_n 0), (1, .getfield 27), (4, .iconst 4), (5, .iload_n 1), (6, .imul), (7, .iload_n 2), (8, .iadd), (9, .iaload), (10, .iconst 1), (11, .ishr), (12, .ireturn)]
def km_q29 : km_Q := (yX2_edgeAt, cX2_edgeAt, 3, (some .int), 2, 3, false, km_c29)
def km_c30 : List (Nat × Jvm.ClassFile.Instr) := [(0, .iconst 0), (1, .istore_n 2), (2, .iconst 0), (3, .istore_n 3), (4, .iload_n 3), (5, .aload_n 0), (6, .getfield 59), (9, .if_icmp .ge 27), (12, .iload_n 2), (13, .aload_n 0), (14, .getfield 39), (17, .iload_n 3), (18, .iaload), (19, .iload_n 1), (20, .if_icmp .ne 7), (23, .iconst 1), (24, .goto 4), (27, .iconst 0), (28, .iadd), (29, .istore_n 2), (30, .iinc 3 1), (33, .goto (-29)), (36, .iload_n 2), (37, .ireturn)]
def km_q30 : km_Q := (yX2_facesOfKind, cX2_facesOfKind, 4, (some .int), 2, 2, false, km_c30)
def km_c31 : List (Nat × Jvm.ClassFile.Instr) := [(0, .iconst (-1)), (1, .istore_n 1), (2, .iconst 0), (3, .istore_n 2), (4, .iload_n 2), (5, .aload_n 0), (6, .getfield 59), (9, .if_icmp .ge 38), (12, .aload_n 0), (13, .getfield 39), (16, .iload_n 2), (17, .iaload), (18, .iconst 1), (19, .if_icmp .ne 5), (22, .iload_n 2), (23, .ireturn), (24, .aload_n 0), (25, .getfield 39), (28, .iload_n 2), (29, .iaload), (30, .iconst 2), (31, .if_icmp .ne 10), (34, .iload_n 1), (35, .iconst (-1)), (36, .if_icmp .ne 5), (39, .iload_n 2), (40, .istore_n 1), (41, .iinc 2 1), (44, .goto (-40)), (47, .iload_n 1), (48, .ireturn)]
def km_q31 : km_Q := (yX2_firstToGo, cX2_firstToGo, 3, (some .int), 2, 1, false, km_c31)
def km_c32 : List (Nat × Jvm.ClassFile.Instr) := [(0, .iconst 0), (1, .istore_n 2), (2, .iconst 0), (3, .istore_n 3), (4, .iconst 0), (5, .istore 4), (7, .iload 4), (9, .aload_n 1), (10, .getfield 67), (13, .if_icmp .ge 50), (16, .aload_n 1), (17, .getfield 70), (20, .iload 4), (22, .iaload), (23, .aload_n 1), (24, .getfield 70), (27, .iload 4), (29, .iconst 1), (30, .iadd), (31, .iaload), (32, .if_icmp .ge 25), (35, .iload_n 3), (36, .iload 4), (38, .ishr), (39, .iconst 1), (40, .iand), (41, .ifCond .ne 16), (44, .iload_n 3), (45, .aload_n 0), (46, .aload_n 1), (47, .iload 4), (49, .invokevirtual 102), (52, .ior), (53, .istore_n 3), (54, .iinc 2 1), (57, .iinc 4 1), (60, .goto (-53)), (63, .iload_n 2), (64, .ireturn)]
def km_q32 : km_Q := (yX2_partsOf, cX2_partsOf, 5, (some .int), 2, 2, false, km_c32)
def km_c33 : List (Nat × Jvm.ClassFile.Instr) := [(0, .iconst 1), (1, .iload_n 2), (2, .ishl), (3, .istore_n 3), (4, .iconst 1), (5, .istore 4), (7, .iload 4), (9, .iconst 4), (10, .if_icmp .ge 74), (13, .iconst 0), (14, .istore 5), (16, .iload 5), (18, .aload_n 1), (19, .getfield 105), (22, .if_icmp .ge 56), (25, .iconst 1), (26, .aload_n 0), (27, .getfield 18), (30, .aload_n 0), (31, .getfield 21), (34, .iload 5), (36, .iaload), (37, .iaload), (38, .ishl), (39, .iconst 1), (40, .aload_n 0), (41, .getfield 18), (44, .aload_n 0), (45, .getfield 24), (48, .iload 5), (50, .iaload), (51, .iaload), (52, .ishl), (53, .ior), (54, .istore 6), (56, .iload_n 3), (57, .iload_n 3), (58, .iload 6), (60, .iand), (61, .ifCond .eq 8), (64, .iload 6), (66, .goto 4), (69, .iconst 0), (70, .ior), (71, .istore_n 3), (72, .iinc 5 1), (75, .goto (-59)), (78, .iinc 4 1), (81, .goto (-74)), (84, .iload_n 3), (85, .ireturn)]
def km_q33 : km_Q := (yX2_partWith, cX2_partWith, 7, (some .int), 2, 3, false, km_c33)
def km_c34 : List (Nat × Jvm.ClassFile.Instr) := [(0, .aload_n 0), (1, .getfield 59), (4, .aload_n 1), (5, .getfield 105), (8, .iconst 2), (9, .aload_n 0), (10, .aload_n 1), (11, .invokevirtual 108), (14, .imul), (15, .iadd), (16, .if_icmp .ne 7), (19, .iconst 1), (20, .goto 4), (23, .iconst 0), (24, .ireturn)]
def km_q34 : km_Q := (yX2_isPlane, cX2_isPlane, 2, (some .boolean), 2, 2, false, km_c34)
def km_c35 : List (Nat × Jvm.ClassFile.Instr) := [(0, .aload_n 1), (1, .invokevirtual 112), (4, .istore_n 3), (5, .aload_n 1), (6, .invokevirtual 49), (9, .istore 4), (11, .iconst 0), (12, .istore 5), (14, .iconst 0), (15, .istore 6), (17, .iload 6), (19, .iload 4), (21, .if_icmp .ge 110), (24, .iload 5), (26, .iload 6), (28, .ishr), (29, .iconst 1), (30, .iand), (31, .iconst 1), (32, .if_icmp .ne 6), (35, .goto 90), (38, .iconst 2), (39, .iload 6), (41, .imul), (42, .istore 7), (44, .iconst 0), (45, .istore 8), (47, .iload 8), (49, .iload 4), (51, .if_icmp .ge 71), (54, .iload 5), (56, .iload 7), (58, .iconst 1), (59, .ishr), (60, .ishr), (61, .iconst 1), (62, .iand), (63, .ifCond .ne 59), (66, .iload 5), (68, .iconst 1), (69, .iload 7), (71, .iconst 1), (72, .ishr), (73, .ishl), (74, .ior), (75, .istore 5), (77, .aload_n 0), (78, .getfield 30), (81, .iload 7), (83, .iaload), (84, .istore 9), (86, .aload_n 0), (87, .getfield 27), (90, .iload_n 2), (91, .iload 9), (93, .iconst 2), (94, .ishr), (95, .ishr), (96, .iconst 1), (97, .iand), (98, .iconst 1), (99, .if_icmp .ne 10), (102, .iload 9), (104, .iconst 3), (105, .ixor), (106, .goto 7), (109, .iload 9), (111, .iconst 1), (112, .ixor), (113, .iaload), (114, .istore 7), (116, .iinc 8 1), (119, .goto (-72)), (122, .iinc 3 1), (125, .iinc 6 1), (128, .goto (-111)), (131, .iload_n 3), (132, .ireturn)]
def km_q35 : km_Q := (yX2_loopsOf, cX2_loopsOf, 10, (some .int), 2, 3, false, km_c35)
def km_c36 : List (Nat × Jvm.ClassFile.Instr) := [(0, .aload_n 0), (1, .invokespecial 3), (4, .aload_n 0), (5, .bipush 40), (7, .anewarray 9), (10, .putfield 11), (13, .iconst 0), (14, .istore_n 1), (15, .iload_n 1), (16, .bipush 40), (18, .if_icmp .ge 22), (21, .aload_n 0), (22, .getfield 11), (25, .iload_n 1), (26, .new 9), (29, .dup), (30, .invokespecial 17), (33, .aastore), (34, .iinc 1 1), (37, .goto (-22)), (40, .return_)]
def km_q36 : km_Q := (yX3_init, cX3_init, 2, none, 3, 1, false, km_c36)
def km_c37 : List (Nat × Jvm.ClassFile.Instr) := [(0, .aload_n 0), (1, .iconst 0), (2, .putfield 18), (5, .return_)]
def km_q37 : km_Q := (yX3_forget, cX3_forget, 1, none, 3, 1, false, km_c37)
def km_c38 : List (Nat × Jvm.ClassFile.Instr) := [(0, .aload_n 0), (1, .getfield 11), (4, .aload_n 0), (5, .getfield 22), (8, .aaload), (9, .aload_n 1), (10, .invokevirtual 25), (13, .aload_n 0), (14, .aload_n 0), (15, .getfield 22), (18, .iconst 1), (19, .iadd), (20, .bipush 40), (22, .if_icmp .ge 12), (25, .aload_n 0), (26, .getfield 22), (29, .iconst 1), (30, .iadd), (31, .goto 4), (34, .iconst 0), (35, .putfield 22), (38, .aload_n 0), (39, .aload_n 0), (40, .getfield 18), (43, .iconst 1), (44, .iadd), (45, .bipush 40), (47, .invokestatic 29), (50, .putfield 18), (53, .return_)]
def km_q38 : km_Q := (yX3_keep, cX3_keep, 2, none, 3, 2, false, km_c38)
def km_c39 : List (Nat × Jvm.ClassFile.Instr) := [(0, .aload_n 0), (1, .getfield 18), (4, .ifCond .ne 5), (7, .iconst 0), (8, .ireturn), (9, .aload_n 0), (10, .aload_n 0), (11, .getfield 22), (14, .ifCond .le 12), (17, .aload_n 0), (18, .getfield 22), (21, .iconst 1), (22, .isub), (23, .goto 5), (26, .bipush 39), (28, .putfield 22), (31, .aload_n 0), (32, .dup), (33, .getfield 18), (36, .iconst 1), (37, .isub), (38, .putfield 18), (41, .aload_n 1), (42, .aload_n 0), (43, .getfield 11), (46, .aload_n 0), (47, .getfield 22), (50, .aaload), (51, .invokevirtual 25), (54, .iconst 1), (55, .ireturn)]
def km_q39 : km_Q := (yX3_bringBack, cX3_bringBack, 2, (some .boolean), 3, 2, false, km_c39)
def km_c40 : List (Nat × Jvm.ClassFile.Instr) := [(0, .aload_n 0), (1, .invokespecial 3), (4, .aload_n 0), (5, .iconst 5), (6, .newarray .int), (8, .putfield 9), (11, .aload_n 0), (12, .sipush 134), (15, .newarray .int), (17, .putfield 15), (20, .aload_n 0), (21, .sipush 134), (24, .newarray .int), (26, .putfield 18), (29, .aload_n 0), (30, .sipush 134), (33, .newarray .int), (35, .putfield 21), (38, .aload_n 0), (39, .sipush 134), (42, .newarray .boolean), (44, .putfield 24), (47, .aload_n 0), (48, .sipush 134), (51, .newarray .boolean), (53, .putfield 28), (56, .aload_n 0), (57, .bipush 8), (59, .newarray .int), (61, .putfield 31), (64, .aload_n 0), (65, .bipush 8), (67, .newarray .int), (69, .putfield 34), (72, .aload_n 0), (73, .bipush 8), (75, .newarray .int), (77, .putfield 37), (80, .return_)]
def km_q40 : km_Q := (yX4_init, cX4_init, 1, none, 4, 1, false, km_c40)
def km_c41 : List (Nat × Jvm.ClassFile.Instr) := [(0, .aload_n 0), (1, .iconst 0), (2, .putfield 40), (5, .aload_n 0), (6, .iconst 0), (7, .putfield 44), (10, .aload_n 0), (11, .iconst 0), (12, .putfield 48), (15, .aload_n 0), (16, .iconst 0), (17, .putfield 51), (20, .aload_n 0), (21, .aload_n 1), (22, .invokevirtual 54), (25, .ifCond .ne 5), (28, .iconst 0), (29, .ireturn), (30, .aload_n 0), (31, .getfield 40), (34, .ifCond .eq 20), (37, .aload_n 0), (38, .invokevirtual 58), (41, .ifCond .ne 5), (44, .iconst 0), (45, .ireturn), (46, .aload_n 0), (47, .aload_n 2), (48, .invokevirtual 62), (51, .goto 17), (54, .aload_n 0), (55, .invokevirtual 66), (58, .ifCond .ne 5), (61, .iconst 0), (62, .ireturn), (63, .aload_n 0), (64, .aload_n 2), (65, .invokevirtual 69), (68, .aload_n 3), (69, .aload_n 2), (70, .invokevirtual 72), (73, .aload_n 3), (74, .aload_n 2), (75, .invokevirtual 77), (78, .ifCond .ne 16), (81, .aload_n 0), (82, .bipush 6), (84, .aload_n 1), (85, .getfield 81), (88, .invokevirtual 86), (91, .ifCond .eq 7), (94, .iconst 1), (95, .goto 4), (98, .iconst 0), (99, .ireturn)]
def km_q41 : km_Q := (yX4_reads, cX4_reads, 4, (some .boolean), 4, 4, false, km_c41)
def km_c42 : List (Nat × Jvm.ClassFile.Instr) := [(0, .aload_n 0), (1, .iload_n 1), (2, .putfield 90), (5, .aload_n 0), (6, .iload_n 2), (7, .putfield 93), (10, .iconst 0), (11, .ireturn)]
def km_q42 : km_Q := (yX4_fails, cX4_fails, 3, (some .boolean), 4, 3, false, km_c42)
def km_c43 : List (Nat × Jvm.ClassFile.Instr) := [(0, .iconst 0), (1, .istore_n 2), (2, .aload_n 1), (3, .invokevirtual 96), (6, .iconst 0), (7, .istore_n 3), (8, .iload_n 3), (9, .sipush 400), (12, .if_icmp .gt 120), (15, .aload_n 1), (16, .invokevirtual 99), (19, .aload_n 1), (20, .getfield 102), (23, .ifCond .ne 48), (26, .iload_n 2), (27, .ifCond .eq 14), (30, .iload_n 2), (31, .iconst 4), (32, .if_icmp .eq 9), (35, .iload_n 2), (36, .bipush 8), (38, .if_icmp .ne 7), (41, .iconst 1), (42, .goto 4), (45, .iconst 0), (46, .istore 4), (48, .iload 4), (50, .ifCond .ne 15), (53, .aload_n 0), (54, .iconst 1), (55, .aload_n 1), (56, .getfield 81), (59, .invokevirtual 86), (62, .ifCond .eq 7), (65, .iconst 1), (66, .goto 4), (69, .iconst 0), (70, .ireturn), (71, .iload_n 2), (72, .aload_n 1), (73, .getfield 102), (76, .invokestatic 105), (79, .istore 4), (81, .iload 4), (83, .iconst (-1)), (84, .if_icmp .ne 13), (87, .aload_n 0), (88, .iconst 1), (89, .aload_n 1), (90, .getfield 109), (93, .invokevirtual 86), (96, .ireturn), (97, .iload_n 3), (98, .sipush 400), (101, .if_icmp .eq 12), (104, .aload_n 0), (105, .iload_n 2), (106, .aload_n 1), (107, .invokevirtual 112), (110, .ifCond .ne 13), (113, .aload_n 0), (114, .iconst 2), (115, .aload_n 1), (116, .getfield 109), (119, .invokevirtual 86), (122, .ireturn), (123, .iload 4), (125, .istore_n 2), (126, .iinc 3 1), (129, .goto (-121)), (132, .iconst 0), (133, .ireturn)]
def km_q43 : km_Q := (yX4_takesTokens, cX4_takesTokens, 5, (some .boolean), 4, 2, false, km_c43)
def km_c44 : List (Nat × Jvm.ClassFile.Instr) := [(0, .iload_n 0), (1, .tableswitch 191 0 7 #[47, 67, 91, 103, 121, 132, 145, 178]), (48, .iload_n 1), (49, .iconst 2), (50, .if_icmp .ne 7), (53, .iconst 1), (54, .goto 13), (57, .iload_n 1), (58, .iconst 3), (59, .if_icmp .ne 7), (62, .iconst 5), (63, .goto 4), (66, .iconst (-1)), (67, .ireturn), (68, .iload_n 1), (69, .bipush 7), (71, .if_icmp .ne 5), (74, .iconst 4), (75, .ireturn), (76, .iload_n 1), (77, .iconst 4), (78, .if_icmp .eq 8), (81, .iload_n 1), (82, .iconst 5), (83, .if_icmp .ne 7), (86, .iconst 2), (87, .goto 4), (90, .iconst (-1)), (91, .ireturn), (92, .iload_n 1), (93, .bipush 6), (95, .if_icmp .ne 7), (98, .iconst 3), (99, .goto 4), (102, .iconst (-1)), (103, .ireturn), (104, .iload_n 1), (105, .bipush 8), (107, .if_icmp .eq 9), (110, .iload_n 1), (111, .bipush 9), (113, .if_icmp .ne 7), (116, .iconst 1), (117, .goto 4), (120, .iconst (-1)), (121, .ireturn), (122, .iload_n 1), (123, .iconst 2), (124, .if_icmp .ne 7), (127, .iconst 1), (128, .goto 4), (131, .iconst (-1)), (132, .ireturn), (133, .iload_n 1), (134, .bipush 6), (136, .if_icmp .ne 8), (139, .bipush 6), (141, .goto 4), (144, .iconst (-1)), (145, .ireturn), (146, .iload_n 1), (147, .bipush 7), (149, .if_icmp .ne 6), (152, .bipush 8), (154, .ireturn), (155, .iload_n 1), (156, .bipush 9), (158, .if_icmp .ne 8), (161, .bipush 7), (163, .goto 15), (166, .iload_n 1), (167, .bipush 6), (169, .if_icmp .ne 8), (172, .bipush 6), (174, .goto 4), (177, .iconst (-1)), (178, .ireturn), (179, .iload_n 1), (180, .bipush 6), (182, .if_icmp .ne 8), (185, .bipush 6), (187, .goto 4), (190, .iconst (-1)), (191, .ireturn), (192, .iconst (-1)), (193, .ireturn)]
def km_q44 : km_Q := (yX4_stateBehind, cX4_stateBehind, 2, (some .int), 4, 2, true, km_c44)
def km_c45 : List (Nat × Jvm.ClassFile.Instr) := [(0, .aload_n 2), (1, .getfield 102), (4, .tableswitch 121 2 9 #[48, 53, 60, 60, 114, 121, 79, 85]), (52, .aload_n 0), (53, .invokevirtual 116), (56, .ireturn), (57, .aload_n 0), (58, .iconst 1), (59, .putfield 40), (62, .iconst 1), (63, .ireturn), (64, .aload_n 0), (65, .aload_n 2), (66, .getfield 102), (69, .iconst 4), (70, .if_icmp .ne 7), (73, .iconst 1), (74, .goto 4), (77, .iconst 0), (78, .putfield 119), (81, .iconst 1), (82, .ireturn), (83, .aload_n 0), (84, .iconst 1), (85, .invokevirtual 122), (88, .ireturn), (89, .iload_n 1), (90, .bipush 6), (92, .if_icmp .ne 20), (95, .aload_n 0), (96, .getfield 51), (99, .bipush 8), (101, .if_icmp .ge 7), (104, .iconst 1), (105, .goto 12), (108, .iconst 0), (109, .goto 8), (112, .aload_n 0), (113, .iconst 0), (114, .invokevirtual 122), (117, .ireturn), (118, .aload_n 0), (119, .iload_n 1), (120, .aload_n 2), (121, .invokevirtual 126), (124, .ireturn), (125, .iconst 1), (126, .ireturn)]
def km_q45 : km_Q := (yX4_takes, cX4_takes, 3, (some .boolean), 4, 3, false, km_c45)
def km_c46 : List (Nat × Jvm.ClassFile.Instr) := [(0, .aload_n 0), (1, .getfield 44), (4, .iconst 4), (5, .if_icmp .lt 5), (8, .iconst 0), (9, .ireturn), (10, .aload_n 0), (11, .getfield 9), (14, .aload_n 0), (15, .getfield 44), (18, .aload_n 0), (19, .getfield 51), (22, .iastore), (23, .aload_n 0), (24, .dup), (25, .getfield 44), (28, .iconst 1), (29, .iadd), (30, .putfield 44), (33, .iconst 1), (34, .ireturn)]
def km_q46 : km_Q := (yX4_takesRing, cX4_takesRing, 1, (some .boolean), 4, 1, false, km_c46)
def km_c47 : List (Nat × Jvm.ClassFile.Instr) := [(0, .aload_n 0), (1, .getfield 51), (4, .sipush 134), (7, .if_icmp .lt 5), (10, .iconst 0), (11, .ireturn), (12, .aload_n 0), (13, .getfield 28), (16, .aload_n 0), (17, .getfield 51), (20, .iload_n 1), (21, .bastore), (22, .aload_n 0), (23, .dup), (24, .getfield 51), (27, .iconst 1), (28, .iadd), (29, .putfield 51), (32, .iconst 1), (33, .ireturn)]
def km_q47 : km_Q := (yX4_takesSign, cX4_takesSign, 2, (some .boolean), 4, 2, false, km_c47)
def km_c48 : List (Nat × Jvm.ClassFile.Instr) := [(0, .iload_n 1), (1, .iconst 5), (2, .if_icmp .ne 21), (5, .aload_n 0), (6, .aload_n 2), (7, .getfield 129), (10, .putfield 132), (13, .aload_n 0), (14, .aload_n 2), (15, .getfield 109), (18, .putfield 135), (21, .iconst 1), (22, .ireturn), (23, .aload_n 0), (24, .getfield 51), (27, .sipush 134), (30, .if_icmp .lt 5), (33, .iconst 0), (34, .ireturn), (35, .aload_n 0), (36, .getfield 15), (39, .aload_n 0), (40, .getfield 51), (43, .aload_n 2), (44, .getfield 129), (47, .iastore), (48, .aload_n 0), (49, .getfield 18), (52, .aload_n 0), (53, .getfield 51), (56, .aload_n 2), (57, .getfield 109), (60, .iastore), (61, .iload_n 1), (62, .iconst 2), (63, .if_icmp .ne 21), (66, .aload_n 0), (67, .getfield 24), (70, .aload_n 0), (71, .getfield 51), (74, .aload_n 0), (75, .getfield 119), (78, .bastore), (79, .aload_n 0), (80, .invokevirtual 138), (83, .ireturn), (84, .aload_n 0), (85, .getfield 51), (88, .bipush 8), (90, .if_icmp .ge 25), (93, .aload_n 0), (94, .iload_n 1), (95, .bipush 6), (97, .if_icmp .ne 7), (100, .iconst 1), (101, .goto 4), (104, .iconst 0), (105, .invokevirtual 122), (108, .ifCond .eq 7), (111, .iconst 1), (112, .goto 4), (115, .iconst 0), (116, .ireturn)]
def km_q48 : km_Q := (yX4_takesInt, cX4_takesInt, 3, (some .boolean), 4, 3, false, km_c48)
def km_c49 : List (Nat × Jvm.ClassFile.Instr) := [(0, .iconst 0), (1, .istore_n 1), (2, .iload_n 1), (3, .aload_n 0), (4, .getfield 48), (7, .if_icmp .ge 30), (10, .aload_n 0), (11, .getfield 31), (14, .iload_n 1), (15, .iaload), (16, .aload_n 0), (17, .getfield 15), (20, .aload_n 0), (21, .getfield 51), (24, .iaload), (25, .if_icmp .ne 6), (28, .goto 9), (31, .iinc 1 1), (34, .goto (-32)), (37, .iload_n 1), (38, .bipush 8), (40, .if_icmp .lt 5), (43, .iconst 0), (44, .ireturn), (45, .aload_n 0), (46, .getfield 31), (49, .iload_n 1), (50, .aload_n 0), (51, .getfield 15), (54, .aload_n 0), (55, .getfield 51), (58, .iaload), (59, .iastore), (60, .aload_n 0), (61, .aload_n 0), (62, .getfield 48), (65, .iload_n 1), (66, .iconst 1), (67, .iadd), (68, .invokestatic 141), (71, .putfield 48), (74, .aload_n 0), (75, .getfield 21), (78, .aload_n 0), (79, .getfield 51), (82, .iload_n 1), (83, .iastore), (84, .iconst 1), (85, .ireturn)]
def km_q49 : km_Q := (yX4_takesNumber, cX4_takesNumber, 2, (some .boolean), 4, 1, false, km_c49)
def km_c50 : List (Nat × Jvm.ClassFile.Instr) := [(0, .iconst 0), (1, .istore_n 1), (2, .iload_n 1), (3, .aload_n 0), (4, .getfield 48), (7, .if_icmp .ge 16), (10, .aload_n 0), (11, .getfield 34), (14, .iload_n 1), (15, .iconst 0), (16, .iastore), (17, .iinc 1 1), (20, .goto (-18)), (23, .iconst 0), (24, .istore_n 1), (25, .iload_n 1), (26, .aload_n 0), (27, .getfield 51), (30, .if_icmp .ge 97), (33, .aload_n 0), (34, .getfield 21), (37, .iload_n 1), (38, .iaload), (39, .istore_n 2), (40, .aload_n 0), (41, .getfield 15), (44, .iload_n 1), (45, .iaload), (46, .bipush 99), (48, .if_icmp .le 15), (51, .aload_n 0), (52, .iconst 5), (53, .aload_n 0), (54, .getfield 18), (57, .iload_n 1), (58, .iaload), (59, .invokevirtual 86), (62, .ireturn), (63, .aload_n 0), (64, .getfield 34), (67, .iload_n 2), (68, .iaload), (69, .ifCond .le 35), (72, .aload_n 0), (73, .aload_n 0), (74, .getfield 37), (77, .iload_n 2), (78, .iaload), (79, .iload_n 1), (80, .aload_n 0), (81, .getfield 34), (84, .iload_n 2), (85, .iaload), (86, .invokevirtual 146), (89, .ifCond .ne 15), (92, .aload_n 0), (93, .iconst 3), (94, .aload_n 0), (95, .getfield 18), (98, .iload_n 1), (99, .iaload), (100, .invokevirtual 86), (103, .ireturn), (104, .aload_n 0), (105, .getfield 37), (108, .iload_n 2), (109, .iload_n 1), (110, .iastore), (111, .aload_n 0), (112, .getfield 34), (115, .iload_n 2), (116, .dup2), (117, .iaload), (118, .iconst 1), (119, .iadd), (120, .iastore), (121, .iinc 1 1), (124, .goto (-99)), (127, .iconst 0), (128, .istore_n 1), (129, .iload_n 1), (130, .aload_n 0), (131, .getfield 51), (134, .if_icmp .ge 36), (137, .aload_n 0), (138, .getfield 34), (141, .aload_n 0), (142, .getfield 21), (145, .iload_n 1), (146, .iaload), (147, .iaload), (148, .iconst 1), (149, .if_icmp .ne 15), (152, .aload_n 0), (153, .iconst 4), (154, .aload_n 0), (155, .getfield 18), (158, .iload_n 1), (159, .iaload), (160, .invokevirtual 86), (163, .ireturn), (164, .iinc 1 1), (167, .goto (-38)), (170, .iconst 1), (171, .ireturn)]
def km_q50 : km_Q := (yX4_ringsStand, cX4_ringsStand, 3, (some .boolean), 4, 1, false, km_c50)
def km_c51 : List (Nat × Jvm.ClassFile.Instr) := [(0, .iload_n 3), (1, .iconst 1), (2, .if_icmp .ne 37), (5, .aload_n 0), (6, .getfield 24), (9, .iload_n 1), (10, .baload), (11, .aload_n 0), (12, .getfield 24), (15, .iload_n 2), (16, .baload), (17, .if_icmp .eq 22), (20, .aload_n 0), (21, .getfield 28), (24, .iload_n 1), (25, .baload), (26, .aload_n 0), (27, .getfield 28), (30, .iload_n 2), (31, .baload), (32, .if_icmp .ne 7), (35, .iconst 1), (36, .goto 4), (39, .iconst 0), (40, .ireturn)]
def km_q51 : km_Q := (yX4_isPartner, cX4_isPartner, 4, (some .boolean), 4, 4, false, km_c51)
def km_c52 : List (Nat × Jvm.ClassFile.Instr) := [(0, .aload_n 1), (1, .aload_n 0), (2, .getfield 44), (5, .putfield 150), (8, .aload_n 1), (9, .aload_n 0), (10, .getfield 48), (13, .putfield 153), (16, .aload_n 0), (17, .getfield 9), (20, .aload_n 0), (21, .getfield 44), (24, .aload_n 0), (25, .getfield 51), (28, .iastore), (29, .iconst 0), (30, .istore_n 2), (31, .iload_n 2), (32, .aload_n 0), (33, .getfield 44), (36, .if_icmp .gt 21), (39, .aload_n 1), (40, .getfield 156), (43, .iload_n 2), (44, .aload_n 0), (45, .getfield 9), (48, .iload_n 2), (49, .iaload), (50, .iastore), (51, .iinc 2 1), (54, .goto (-23)), (57, .iconst 0), (58, .istore_n 2), (59, .iload_n 2), (60, .aload_n 0), (61, .getfield 51), (64, .if_icmp .ge 69), (67, .iload_n 2), (68, .bipush 16), (70, .if_icmp .ge 63), (73, .aload_n 1), (74, .getfield 157), (77, .iload_n 2), (78, .iconst 2), (79, .aload_n 0), (80, .getfield 21), (83, .iload_n 2), (84, .iaload), (85, .imul), (86, .aload_n 0), (87, .getfield 24), (90, .iload_n 2), (91, .baload), (92, .ifCond .eq 7), (95, .iconst 1), (96, .goto 4), (99, .iconst 0), (100, .iadd), (101, .iastore), (102, .aload_n 1), (103, .getfield 160), (106, .aload_n 0), (107, .getfield 21), (110, .iload_n 2), (111, .iaload), (112, .aload_n 0), (113, .getfield 28), (116, .iload_n 2), (117, .baload), (118, .ifCond .eq 7), (121, .iconst 1), (122, .goto 4), (125, .iconst (-1)), (126, .iastore), (127, .iinc 2 1), (130, .goto (-71)), (133, .return_)]
def km_q52 : km_Q := (yX4_string, cX4_string, 3, none, 4, 2, false, km_c52)
def km_c53 : List (Nat × Jvm.ClassFile.Instr) := [(0, .aload_n 0), (1, .getfield 132), (4, .iconst 2), (5, .if_icmp .lt 11), (8, .aload_n 0), (9, .getfield 132), (12, .iconst 4), (13, .if_icmp .le 13), (16, .aload_n 0), (17, .iconst 5), (18, .aload_n 0), (19, .getfield 135), (22, .invokevirtual 86), (25, .ireturn), (26, .iconst 0), (27, .istore_n 1), (28, .iload_n 1), (29, .aload_n 0), (30, .getfield 51), (33, .if_icmp .ge 44), (36, .aload_n 0), (37, .getfield 15), (40, .iload_n 1), (41, .iaload), (42, .iconst 1), (43, .if_icmp .lt 16), (46, .aload_n 0), (47, .getfield 15), (50, .iload_n 1), (51, .iaload), (52, .aload_n 0), (53, .getfield 132), (56, .if_icmp .lt 15), (59, .aload_n 0), (60, .iconst 5), (61, .aload_n 0), (62, .getfield 18), (65, .iload_n 1), (66, .iaload), (67, .invokevirtual 86), (70, .ireturn), (71, .iinc 1 1), (74, .goto (-46)), (77, .iconst 1), (78, .ireturn)]
def km_q53 : km_Q := (yX4_braidStands, cX4_braidStands, 2, (some .boolean), 4, 1, false, km_c53)
def km_c54 : List (Nat × Jvm.ClassFile.Instr) := [(0, .aload_n 1), (1, .iconst 0), (2, .putfield 150), (5, .aload_n 1), (6, .aload_n 0), (7, .getfield 51), (10, .putfield 153), (13, .iconst 0), (14, .istore_n 2), (15, .iload_n 2), (16, .aload_n 0), (17, .getfield 51), (20, .if_icmp .ge 29), (23, .aload_n 1), (24, .getfield 160), (27, .iload_n 2), (28, .aload_n 0), (29, .getfield 28), (32, .iload_n 2), (33, .baload), (34, .ifCond .eq 7), (37, .iconst 1), (38, .goto 4), (41, .iconst (-1)), (42, .iastore), (43, .iinc 2 1), (46, .goto (-31)), (49, .iconst 0), (50, .istore_n 2), (51, .iconst 0), (52, .istore_n 3), (53, .iconst 1), (54, .istore 4), (56, .iload 4), (58, .aload_n 0), (59, .getfield 132), (62, .if_icmp .gt 160), (65, .iload_n 2), (66, .iload 4), (68, .ishr), (69, .iconst 1), (70, .iand), (71, .iconst 1), (72, .if_icmp .ne 6), (75, .goto 141), (78, .aload_n 1), (79, .getfield 156), (82, .aload_n 1), (83, .getfield 150), (86, .iload_n 3), (87, .iastore), (88, .aload_n 1), (89, .dup), (90, .getfield 150), (93, .iconst 1), (94, .iadd), (95, .putfield 150), (98, .iload 4), (100, .istore 5), (102, .iconst 0), (103, .istore 6), (105, .iload 6), (107, .aload_n 0), (108, .getfield 132), (111, .if_icmp .ge 105), (114, .iload_n 2), (115, .iload 5), (117, .ishr), (118, .iconst 1), (119, .iand), (120, .ifCond .ne 96), (123, .iload_n 2), (124, .iconst 1), (125, .iload 5), (127, .ishl), (128, .ior), (129, .istore_n 2), (130, .iconst 0), (131, .istore 7), (133, .iload 7), (135, .aload_n 0), (136, .getfield 51), (139, .if_icmp .ge 71), (142, .aload_n 0), (143, .iload 7), (145, .iload 5), (147, .invokevirtual 163), (150, .istore 8), (152, .iload 8), (154, .iload 5), (156, .if_icmp .eq 44), (159, .aload_n 1), (160, .getfield 157), (163, .iload_n 3), (164, .iconst 2), (165, .iload 7), (167, .imul), (168, .aload_n 0), (169, .getfield 28), (172, .iload 7), (174, .baload), (175, .iload 8), (177, .iload 5), (179, .if_icmp .le 7), (182, .iconst 1), (183, .goto 4), (186, .iconst 0), (187, .if_icmp .ne 7), (190, .iconst 1), (191, .goto 4), (194, .iconst 0), (195, .iadd), (196, .iastore), (197, .iinc 3 1), (200, .iload 8), (202, .istore 5), (204, .iinc 7 1), (207, .goto (-74)), (210, .iinc 6 1), (213, .goto (-108)), (216, .iinc 4 1), (219, .goto (-163)), (222, .aload_n 1), (223, .getfield 156), (226, .aload_n 1), (227, .getfield 150), (230, .iload_n 3), (231, .iastore), (232, .return_)]
def km_q54 : km_Q := (yX4_weave, cX4_weave, 9, none, 4, 2, false, km_c54)
def km_c55 : List (Nat × Jvm.ClassFile.Instr) := [(0, .iload_n 2), (1, .aload_n 0), (2, .getfield 15), (5, .iload_n 1), (6, .iaload), (7, .if_icmp .ne 7), (10, .iload_n 2), (11, .iconst 1), (12, .iadd), (13, .ireturn), (14, .iload_n 2), (15, .aload_n 0), (16, .getfield 15), (19, .iload_n 1), (20, .iaload), (21, .iconst 1), (22, .iadd), (23, .if_icmp .ne 9), (26, .iload_n 2), (27, .iconst 1), (28, .isub), (29, .goto 4), (32, .iload_n 2), (33, .ireturn)]
def km_q55 : km_Q := (yX4_placeBehind, cX4_placeBehind, 3, (some .int), 4, 3, false, km_c55)
def km_c56 : List (Nat × Jvm.ClassFile.Instr) := [(0, .aload_n 0), (1, .invokespecial 3), (4, .aload_n 0), (5, .iconst 5), (6, .newarray .int), (8, .putfield 9), (11, .aload_n 0), (12, .bipush 16), (14, .newarray .int), (16, .putfield 15), (19, .aload_n 0), (20, .bipush 8), (22, .newarray .int), (24, .putfield 18), (27, .return_)]
def km_q56 : km_Q := (yX5_init, cX5_init, 1, none, 5, 1, false, km_c56)
def km_c57 : List (Nat × Jvm.ClassFile.Instr) := [(0, .aload_n 0), (1, .aload_n 1), (2, .getfield 21), (5, .putfield 21), (8, .aload_n 0), (9, .aload_n 1), (10, .getfield 25), (13, .putfield 25), (16, .aload_n 1), (17, .getfield 9), (20, .iconst 0), (21, .aload_n 0), (22, .getfield 9), (25, .iconst 0), (26, .iconst 5), (27, .invokestatic 28), (30, .aload_n 1), (31, .getfield 15), (34, .iconst 0), (35, .aload_n 0), (36, .getfield 15), (39, .iconst 0), (40, .bipush 16), (42, .invokestatic 28), (45, .aload_n 1), (46, .getfield 18), (49, .iconst 0), (50, .aload_n 0), (51, .getfield 18), (54, .iconst 0), (55, .bipush 8), (57, .invokestatic 28), (60, .return_)]
def km_q57 : km_Q := (yX5_copy, cX5_copy, 2, none, 5, 2, false, km_c57)
def km_c58 : List (Nat × Jvm.ClassFile.Instr) := [(0, .aload_n 0), (1, .getfield 21), (4, .aload_n 1), (5, .getfield 21), (8, .if_icmp .ne 18), (11, .aload_n 0), (12, .getfield 25), (15, .aload_n 1), (16, .getfield 25), (19, .if_icmp .ne 7), (22, .iconst 1), (23, .goto 4), (26, .iconst 0), (27, .istore_n 2), (28, .iconst 0), (29, .istore_n 3), (30, .iload_n 2), (31, .ifCond .eq 38), (34, .iload_n 3), (35, .aload_n 0), (36, .getfield 21), (39, .if_icmp .gt 30), (42, .aload_n 0), (43, .getfield 9), (46, .iload_n 3), (47, .iaload), (48, .aload_n 1), (49, .getfield 9), (52, .iload_n 3), (53, .iaload), (54, .if_icmp .ne 7), (57, .iconst 1), (58, .goto 4), (61, .iconst 0), (62, .istore_n 2), (63, .iinc 3 1), (66, .goto (-36)), (69, .iconst 0), (70, .istore_n 3), (71, .iload_n 2), (72, .ifCond .eq 38), (75, .iload_n 3), (76, .aload_n 0), (77, .invokevirtual 34), (80, .if_icmp .ge 30), (83, .aload_n 0), (84, .getfield 15), (87, .iload_n 3), (88, .iaload), (89, .aload_n 1), (90, .getfield 15), (93, .iload_n 3), (94, .iaload), (95, .if_icmp .ne 7), (98, .iconst 1), (99, .goto 4), (102, .iconst 0), (103, .istore_n 2), (104, .iinc 3 1), (107, .goto (-36)), (110, .iconst 0), (111, .istore_n 3), (112, .iload_n 2), (113, .ifCond .eq 38), (116, .iload_n 3), (117, .aload_n 0), (118, .getfield 25), (121, .if_icmp .ge 30), (124, .aload_n 0), (125, .getfield 18), (128, .iload_n 3), (129, .iaload), (130, .aload_n 1), (131, .getfield 18), (134, .iload_n 3), (135, .iaload), (136, .if_icmp .ne 7), (139, .iconst 1), (140, .goto 4), (143, .iconst 0), (144, .istore_n 2), (145, .iinc 3 1), (148, .goto (-36)), (151, .iload_n 2), (152, .ireturn)]
def km_q58 : km_Q := (yX5_same, cX5_same, 4, (some .boolean), 5, 2, false, km_c58)
def km_c59 : List (Nat × Jvm.ClassFile.Instr) := [(0, .iconst 2), (1, .aload_n 0), (2, .getfield 25), (5, .imul), (6, .ireturn)]
def km_q59 : km_Q := (yX5_edges, cX5_edges, 1, (some .int), 5, 1, false, km_c59)
def km_c60 : List (Nat × Jvm.ClassFile.Instr) := [(0, .iconst 1), (1, .aload_n 0), (2, .getfield 25), (5, .ishl), (6, .iconst 1), (7, .isub), (8, .ireturn)]
def km_q60 : km_Q := (yX5_allCrossings, cX5_allCrossings, 1, (some .int), 5, 1, false, km_c60)
def km_c61 : List (Nat × Jvm.ClassFile.Instr) := [(0, .aload_n 0), (1, .getfield 15), (4, .iload_n 1), (5, .iaload), (6, .iconst 1), (7, .ishr), (8, .ireturn)]
def km_q61 : km_Q := (yX5_crossingOf, cX5_crossingOf, 2, (some .int), 5, 2, false, km_c61)
def km_c62 : List (Nat × Jvm.ClassFile.Instr) := [(0, .aload_n 0), (1, .getfield 15), (4, .iload_n 1), (5, .iaload), (6, .iconst 1), (7, .iand), (8, .iconst 1), (9, .if_icmp .ne 7), (12, .iconst 1), (13, .goto 4), (16, .iconst 0), (17, .ireturn)]
def km_q62 : km_Q := (yX5_isOver, cX5_isOver, 2, (some .boolean), 5, 2, false, km_c62)
def km_c63 : List (Nat × Jvm.ClassFile.Instr) := [(0, .iconst 0), (1, .istore_n 1), (2, .iconst 0), (3, .istore_n 2), (4, .iload_n 2), (5, .aload_n 0), (6, .getfield 25), (9, .if_icmp .ge 18), (12, .iload_n 1), (13, .aload_n 0), (14, .getfield 18), (17, .iload_n 2), (18, .iaload), (19, .iadd), (20, .istore_n 1), (21, .iinc 2 1), (24, .goto (-20)), (27, .iload_n 1), (28, .ireturn)]
def km_q63 : km_Q := (yX5_writhe, cX5_writhe, 3, (some .int), 5, 1, false, km_c63)
def km_c64 : List (Nat × Jvm.ClassFile.Instr) := [(0, .iconst 0), (1, .istore_n 1), (2, .iconst 0), (3, .istore_n 2), (4, .iload_n 2), (5, .aload_n 0), (6, .getfield 21), (9, .if_icmp .ge 34), (12, .iload_n 1), (13, .aload_n 0), (14, .getfield 9), (17, .iload_n 2), (18, .iaload), (19, .aload_n 0), (20, .getfield 9), (23, .iload_n 2), (24, .iconst 1), (25, .iadd), (26, .iaload), (27, .if_icmp .ne 7), (30, .iconst 1), (31, .goto 4), (34, .iconst 0), (35, .iadd), (36, .istore_n 1), (37, .iinc 2 1), (40, .goto (-36)), (43, .iload_n 1), (44, .ireturn)]
def km_q64 : km_Q := (yX5_looseRings, cX5_looseRings, 3, (some .int), 5, 1, false, km_c64)
def km_c65 : List (Nat × Jvm.ClassFile.Instr) := [(0, .iconst 0), (1, .istore_n 1), (2, .iload_n 1), (3, .aload_n 0), (4, .getfield 21), (7, .if_icmp .ge 73), (10, .aload_n 0), (11, .getfield 9), (14, .iload_n 1), (15, .iconst 1), (16, .iadd), (17, .iaload), (18, .iconst 1), (19, .isub), (20, .istore_n 2), (21, .aload_n 0), (22, .getfield 9), (25, .iload_n 1), (26, .iaload), (27, .istore_n 3), (28, .iload_n 3), (29, .iload_n 2), (30, .if_icmp .gt 44), (33, .iload_n 3), (34, .iload_n 2), (35, .if_icmp .ge 9), (38, .iload_n 3), (39, .iconst 1), (40, .iadd), (41, .goto 9), (44, .aload_n 0), (45, .getfield 9), (48, .iload_n 1), (49, .iaload), (50, .istore 4), (52, .aload_n 0), (53, .iload_n 3), (54, .invokevirtual 38), (57, .aload_n 0), (58, .iload 4), (60, .invokevirtual 38), (63, .if_icmp .ne 5), (66, .iconst 0), (67, .ireturn), (68, .iinc 3 1), (71, .goto (-43)), (74, .iinc 1 1), (77, .goto (-75)), (80, .iconst 1), (81, .ireturn)]
def km_q65 : km_Q := (yX5_takesTurns, cX5_takesTurns, 5, (some .boolean), 5, 1, false, km_c65)
def km_c66 : List (Nat × Jvm.ClassFile.Instr) := [(0, .iconst 0), (1, .istore_n 2), (2, .iload_n 2), (3, .aload_n 0), (4, .invokevirtual 34), (7, .if_icmp .ge 27), (10, .aload_n 0), (11, .getfield 15), (14, .iload_n 2), (15, .dup2), (16, .iaload), (17, .iload_n 1), (18, .aload_n 0), (19, .iload_n 2), (20, .invokevirtual 42), (23, .ishr), (24, .iconst 1), (25, .iand), (26, .ixor), (27, .iastore), (28, .iinc 2 1), (31, .goto (-29)), (34, .iconst 0), (35, .istore_n 2), (36, .iload_n 2), (37, .aload_n 0), (38, .getfield 25), (41, .if_icmp .ge 40), (44, .aload_n 0), (45, .getfield 18), (48, .iload_n 2), (49, .iload_n 1), (50, .iload_n 2), (51, .ishr), (52, .iconst 1), (53, .iand), (54, .iconst 1), (55, .if_icmp .ne 13), (58, .aload_n 0), (59, .getfield 18), (62, .iload_n 2), (63, .iaload), (64, .ineg), (65, .goto 9), (68, .aload_n 0), (69, .getfield 18), (72, .iload_n 2), (73, .iaload), (74, .iastore), (75, .iinc 2 1), (78, .goto (-42)), (81, .return_)]
def km_q66 : km_Q := (yX5_turnOver, cX5_turnOver, 3, none, 5, 2, false, km_c66)
def km_c67 : List (Nat × Jvm.ClassFile.Instr) := [(0, .iconst 0), (1, .istore_n 3), (2, .iload_n 3), (3, .aload_n 0), (4, .getfield 25), (7, .if_icmp .ge 82), (10, .aload_n 2), (11, .getfield 46), (14, .aload_n 2), (15, .getfield 51), (18, .iload_n 3), (19, .iaload), (20, .iaload), (21, .iload_n 1), (22, .if_icmp .ne 7), (25, .iconst 1), (26, .goto 4), (29, .iconst 0), (30, .istore 4), (32, .aload_n 2), (33, .getfield 46), (36, .aload_n 2), (37, .getfield 54), (40, .iload_n 3), (41, .iaload), (42, .iaload), (43, .iload_n 1), (44, .if_icmp .ne 7), (47, .iconst 1), (48, .goto 4), (51, .iconst 0), (52, .istore 5), (54, .aload_n 0), (55, .getfield 18), (58, .iload_n 3), (59, .iload 4), (61, .iload 5), (63, .if_icmp .eq 13), (66, .aload_n 0), (67, .getfield 18), (70, .iload_n 3), (71, .iaload), (72, .ineg), (73, .goto 9), (76, .aload_n 0), (77, .getfield 18), (80, .iload_n 3), (81, .iaload), (82, .iastore), (83, .iinc 3 1), (86, .goto (-84)), (89, .aload_n 0), (90, .getfield 9), (93, .iload_n 1), (94, .iaload), (95, .iconst 1), (96, .iadd), (97, .istore_n 3), (98, .aload_n 0), (99, .getfield 9), (102, .iload_n 1), (103, .iconst 1), (104, .iadd), (105, .iaload), (106, .iconst 1), (107, .isub), (108, .istore 4), (110, .iload_n 3), (111, .iload 4), (113, .if_icmp .ge 19), (116, .aload_n 0), (117, .iload_n 3), (118, .iload 4), (120, .invokevirtual 57), (123, .iinc 3 1), (126, .iinc 4 (-1)), (129, .goto (-19)), (132, .return_)]
def km_q67 : km_Q := (yX5_reverse, cX5_reverse, 6, none, 5, 3, false, km_c67)
def km_c68 : List (Nat × Jvm.ClassFile.Instr) := [(0, .aload_n 1), (1, .getfield 61), (4, .iload_n 2), (5, .iaload), (6, .istore_n 3), (7, .iload_n 3), (8, .aload_n 1), (9, .getfield 61), (12, .iload_n 2), (13, .iconst 1), (14, .iadd), (15, .iaload), (16, .if_icmp .ge 32), (19, .aload_n 1), (20, .getfield 64), (23, .iload_n 3), (24, .iaload), (25, .iconst 1), (26, .ishr), (27, .istore 4), (29, .aload_n 0), (30, .iload 4), (32, .aload_n 1), (33, .getfield 67), (36, .iload 4), (38, .iaload), (39, .invokevirtual 57), (42, .iinc 3 1), (45, .goto (-38)), (48, .return_)]
def km_q68 : km_Q := (yX5_exchange, cX5_exchange, 5, none, 5, 3, false, km_c68)
def km_c69 : List (Nat × Jvm.ClassFile.Instr) := [(0, .aload_n 0), (1, .getfield 15), (4, .iload_n 1), (5, .iaload), (6, .istore_n 3), (7, .aload_n 0), (8, .getfield 15), (11, .iload_n 1), (12, .aload_n 0), (13, .getfield 15), (16, .iload_n 2), (17, .iaload), (18, .iastore), (19, .aload_n 0), (20, .getfield 15), (23, .iload_n 2), (24, .iload_n 3), (25, .iastore), (26, .return_)]
def km_q69 : km_Q := (yX5_swap, cX5_swap, 4, none, 5, 3, false, km_c69)
def km_c70 : List (Nat × Jvm.ClassFile.Instr) := [(0, .aload_n 0), (1, .invokevirtual 34), (4, .iconst 1), (5, .isub), (6, .istore 4), (8, .iload 4), (10, .iload_n 1), (11, .if_icmp .le 25), (14, .aload_n 0), (15, .getfield 15), (18, .iload 4), (20, .iconst 2), (21, .iadd), (22, .aload_n 0), (23, .getfield 15), (26, .iload 4), (28, .iaload), (29, .iastore), (30, .iinc 4 (-1)), (33, .goto (-25)), (36, .aload_n 0), (37, .getfield 15), (40, .iload_n 1), (41, .iconst 1), (42, .iadd), (43, .iconst 2), (44, .aload_n 0), (45, .getfield 25), (48, .imul), (49, .iload_n 2), (50, .ifCond .eq 7), (53, .iconst 1), (54, .goto 4), (57, .iconst 0), (58, .iadd), (59, .iastore), (60, .aload_n 0), (61, .getfield 15), (64, .iload_n 1), (65, .iconst 2), (66, .iadd), (67, .iconst 2), (68, .aload_n 0), (69, .getfield 25), (72, .imul), (73, .iload_n 2), (74, .ifCond .eq 7), (77, .iconst 0), (78, .goto 4), (81, .iconst 1), (82, .iadd), (83, .iastore), (84, .iconst 1), (85, .istore 4), (87, .iload 4), (89, .aload_n 0), (90, .getfield 21), (93, .if_icmp .gt 35), (96, .aload_n 0), (97, .getfield 9), (100, .iload 4), (102, .dup2), (103, .iaload), (104, .aload_n 0), (105, .getfield 9), (108, .iload 4), (110, .iaload), (111, .iload_n 1), (112, .if_icmp .le 7), (115, .iconst 2), (116, .goto 4), (119, .iconst 0), (120, .iadd), (121, .iastore), (122, .iinc 4 1), (125, .goto (-38)), (128, .aload_n 0), (129, .getfield 18), (132, .aload_n 0), (133, .getfield 25), (136, .iload_n 3), (137, .ifCond .eq 7), (140, .iconst 1), (141, .goto 4), (144, .iconst (-1)), (145, .iastore), (146, .aload_n 0), (147, .dup), (148, .getfield 25), (151, .iconst 1), (152, .iadd), (153, .putfield 25), (156, .return_)]
def km_q70 : km_Q := (yX5_curl, cX5_curl, 5, none, 5, 4, false, km_c70)
def km_c71 : List (Nat × Jvm.ClassFile.Instr) := [(0, .iconst 0), (1, .istore_n 2), (2, .iconst 0), (3, .istore_n 3), (4, .iconst 0), (5, .istore 4), (7, .iload 4), (9, .aload_n 0), (10, .getfield 21), (13, .if_icmp .ge 80), (16, .aload_n 0), (17, .getfield 9), (20, .iload 4), (22, .iconst 1), (23, .iadd), (24, .iaload), (25, .istore 5), (27, .aload_n 0), (28, .getfield 9), (31, .iload 4), (33, .iload_n 3), (34, .iastore), (35, .iload_n 2), (36, .iload 5), (38, .if_icmp .ge 49), (41, .aload_n 0), (42, .iload_n 2), (43, .invokevirtual 42), (46, .istore 6), (48, .iload_n 1), (49, .iload 6), (51, .ishr), (52, .iconst 1), (53, .iand), (54, .ifCond .ne 27), (57, .aload_n 0), (58, .getfield 15), (61, .iload_n 3), (62, .aload_n 0), (63, .getfield 15), (66, .iload_n 2), (67, .iaload), (68, .iconst 2), (69, .iload_n 1), (70, .iload 6), (72, .invokestatic 70), (75, .imul), (76, .isub), (77, .iastore), (78, .iinc 3 1), (81, .iinc 2 1), (84, .goto (-49)), (87, .iinc 4 1), (90, .goto (-83)), (93, .aload_n 0), (94, .getfield 9), (97, .aload_n 0), (98, .getfield 21), (101, .iload_n 3), (102, .iastore), (103, .iconst 0), (104, .istore 4), (106, .iload 4), (108, .aload_n 0), (109, .getfield 25), (112, .if_icmp .ge 39), (115, .iload_n 1), (116, .iload 4), (118, .ishr), (119, .iconst 1), (120, .iand), (121, .ifCond .ne 24), (124, .aload_n 0), (125, .getfield 18), (128, .iload 4), (130, .iload_n 1), (131, .iload 4), (133, .invokestatic 70), (136, .isub), (137, .aload_n 0), (138, .getfield 18), (141, .iload 4), (143, .iaload), (144, .iastore), (145, .iinc 4 1), (148, .goto (-42)), (151, .aload_n 0), (152, .iload_n 3), (153, .iconst 2), (154, .idiv), (155, .putfield 25), (158, .return_)]
def km_q71 : km_Q := (yX5_drop, cX5_drop, 7, none, 5, 2, false, km_c71)
def km_c72 : List (Nat × Jvm.ClassFile.Instr) := [(0, .iload_n 0), (1, .iconst 1), (2, .iload_n 1), (3, .ishl), (4, .iconst 1), (5, .isub), (6, .iand), (7, .invokestatic 74), (10, .ireturn)]
def km_q72 : km_Q := (yX5_goneAhead, cX5_goneAhead, 2, (some .int), 5, 2, true, km_c72)
def km_c73 : List (Nat × Jvm.ClassFile.Instr) := [(0, .aload_n 0), (1, .getfield 25), (4, .istore_n 2), (5, .iconst 0), (6, .istore_n 3), (7, .iload_n 3), (8, .bipush 8), (10, .if_icmp .ge 46), (13, .aload_n 0), (14, .getfield 25), (17, .ifCond .le 39), (20, .aload_n 1), (21, .aload_n 0), (22, .invokevirtual 79), (25, .aload_n 1), (26, .invokevirtual 83), (29, .istore 4), (31, .iload 4), (33, .iconst (-1)), (34, .if_icmp .ne 6), (37, .goto 19), (40, .aload_n 0), (41, .aload_n 1), (42, .iload 4), (44, .invokevirtual 86), (47, .invokevirtual 89), (50, .iinc 3 1), (53, .goto (-46)), (56, .iload_n 2), (57, .aload_n 0), (58, .getfield 25), (61, .isub), (62, .ireturn)]
def km_q73 : km_Q := (yX5_shed, cX5_shed, 5, (some .int), 5, 2, false, km_c73)
def km_c74 : List (Nat × Jvm.ClassFile.Instr) := [(0, .aload_n 0), (1, .getfield 21), (4, .ifCond .le 43), (7, .aload_n 1), (8, .getfield 21), (11, .ifCond .le 36), (14, .aload_n 0), (15, .getfield 21), (18, .aload_n 1), (19, .getfield 21), (22, .iadd), (23, .iconst 1), (24, .isub), (25, .iconst 4), (26, .if_icmp .gt 21), (29, .aload_n 0), (30, .getfield 25), (33, .aload_n 1), (34, .getfield 25), (37, .iadd), (38, .bipush 8), (40, .if_icmp .gt 7), (43, .iconst 1), (44, .goto 4), (47, .iconst 0), (48, .ireturn)]
def km_q74 : km_Q := (yX5_canTake, cX5_canTake, 2, (some .boolean), 5, 2, false, km_c74)
def km_c75 : List (Nat × Jvm.ClassFile.Instr) := [(0, .aload_n 0), (1, .invokevirtual 34), (4, .istore_n 2), (5, .aload_n 0), (6, .getfield 9), (9, .iconst 1), (10, .iaload), (11, .istore_n 3), (12, .aload_n 1), (13, .getfield 9), (16, .iconst 1), (17, .iaload), (18, .istore 4), (20, .iload_n 2), (21, .iconst 1), (22, .isub), (23, .istore 5), (25, .iload 5), (27, .iload_n 3), (28, .if_icmp .lt 26), (31, .aload_n 0), (32, .getfield 15), (35, .iload 5), (37, .iload 4), (39, .iadd), (40, .aload_n 0), (41, .getfield 15), (44, .iload 5), (46, .iaload), (47, .iastore), (48, .iinc 5 (-1)), (51, .goto (-26)), (54, .iconst 0), (55, .istore 5), (57, .iload 5), (59, .aload_n 1), (60, .invokevirtual 34), (63, .if_icmp .ge 46), (66, .aload_n 0), (67, .getfield 15), (70, .iload 5), (72, .iload 4), (74, .if_icmp .ge 10), (77, .iload_n 3), (78, .iload 5), (80, .iadd), (81, .goto 7), (84, .iload_n 2), (85, .iload 5), (87, .iadd), (88, .aload_n 1), (89, .getfield 15), (92, .iload 5), (94, .iaload), (95, .iconst 2), (96, .aload_n 0), (97, .getfield 25), (100, .imul), (101, .iadd), (102, .iastore), (103, .iinc 5 1), (106, .goto (-49)), (109, .iconst 1), (110, .istore 5), (112, .iload 5), (114, .aload_n 0), (115, .getfield 21), (118, .if_icmp .gt 21), (121, .aload_n 0), (122, .getfield 9), (125, .iload 5), (127, .dup2), (128, .iaload), (129, .iload 4), (131, .iadd), (132, .iastore), (133, .iinc 5 1), (136, .goto (-24)), (139, .iconst 1), (140, .istore 5), (142, .iload 5), (144, .aload_n 1), (145, .getfield 21), (148, .if_icmp .ge 32), (151, .aload_n 0), (152, .getfield 9), (155, .aload_n 0), (156, .getfield 21), (159, .iload 5), (161, .iadd), (162, .iload_n 2), (163, .aload_n 1), (164, .getfield 9), (167, .iload 5), (169, .iconst 1), (170, .iadd), (171, .iaload), (172, .iadd), (173, .iastore), (174, .iinc 5 1), (177, .goto (-35)), (180, .iconst 0), (181, .istore 5), (183, .iload 5), (185, .aload_n 1), (186, .getfield 25), (189, .if_icmp .ge 28), (192, .aload_n 0), (193, .getfield 18), (196, .aload_n 0), (197, .getfield 25), (200, .iload 5), (202, .iadd), (203, .aload_n 1), (204, .getfield 18), (207, .iload 5), (209, .iaload), (210, .iastore), (211, .iinc 5 1), (214, .goto (-31)), (217, .aload_n 0), (218, .dup), (219, .getfield 21), (222, .aload_n 1), (223, .getfield 21), (226, .iconst 1), (227, .isub), (228, .iadd), (229, .putfield 21), (232, .aload_n 0), (233, .dup), (234, .getfield 25), (237, .aload_n 1), (238, .getfield 25), (241, .iadd), (242, .putfield 25), (245, .return_)]
def km_q75 : km_Q := (yX5_take, cX5_take, 6, none, 5, 2, false, km_c75)
def km_c76 : List (Nat × Jvm.ClassFile.Instr) := [(0, .aload_n 0), (1, .invokespecial 3), (4, .aload_n 0), (5, .iconst 4), (6, .anewarray 9), (9, .putfield 11), (12, .aload_n 0), (13, .iconst 4), (14, .anewarray 17), (17, .putfield 19), (20, .iconst 0), (21, .istore_n 1), (22, .iload_n 1), (23, .iconst 3), (24, .if_icmp .gt 35), (27, .aload_n 0), (28, .getfield 11), (31, .iload_n 1), (32, .new 9), (35, .dup), (36, .invokespecial 23), (39, .aastore), (40, .aload_n 0), (41, .getfield 19), (44, .iload_n 1), (45, .new 17), (48, .dup), (49, .invokespecial 24), (52, .aastore), (53, .iinc 1 1), (56, .goto (-34)), (59, .return_)]
def km_q76 : km_Q := (yX6_init, cX6_init, 2, none, 6, 1, false, km_c76)
def km_c77 : List (Nat × Jvm.ClassFile.Instr) := [(0, .aload_n 0), (1, .getfield 11), (4, .iconst 0), (5, .aaload), (6, .aload_n 1), (7, .invokevirtual 25), (10, .aload_n 0), (11, .iconst 0), (12, .iload_n 2), (13, .invokestatic 29), (16, .ireturn)]
def km_q77 : km_Q := (yX6_reachFewer, cX6_reachFewer, 3, (some .boolean), 6, 3, false, km_c77)
def km_c78 : List (Nat × Jvm.ClassFile.Instr) := [(0, .aload_n 0), (1, .getfield 11), (4, .iload_n 1), (5, .aaload), (6, .astore_n 3), (7, .aload_n 0), (8, .getfield 19), (11, .iload_n 1), (12, .aaload), (13, .astore 4), (15, .aload 4), (17, .aload_n 3), (18, .invokevirtual 33), (21, .aload 4), (23, .invokevirtual 36), (26, .iconst (-1)), (27, .if_icmp .eq 5), (30, .iconst 1), (31, .ireturn), (32, .iload_n 1), (33, .iload_n 2), (34, .if_icmp .ge 8), (37, .iload_n 1), (38, .iconst 3), (39, .if_icmp .lt 5), (42, .iconst 0), (43, .ireturn), (44, .iconst 0), (45, .istore 5), (47, .iload 5), (49, .aload 4), (51, .getfield 40), (54, .if_icmp .ge 61), (57, .aload 4), (59, .getfield 44), (62, .iload 5), (64, .iaload), (65, .iconst 3), (66, .if_icmp .ne 43), (69, .aload_n 0), (70, .getfield 11), (73, .iload_n 1), (74, .iconst 1), (75, .iadd), (76, .aaload), (77, .aload_n 3), (78, .invokevirtual 25), (81, .aload_n 0), (82, .getfield 11), (85, .iload_n 1), (86, .iconst 1), (87, .iadd), (88, .aaload), (89, .aload 4), (91, .iload 5), (93, .invokevirtual 48), (96, .aload_n 0), (97, .iload_n 1), (98, .iconst 1), (99, .iadd), (100, .iload_n 2), (101, .invokestatic 29), (104, .ifCond .eq 5), (107, .iconst 1), (108, .ireturn), (109, .iinc 5 1), (112, .goto (-65)), (115, .iconst 0), (116, .ireturn)]
def km_q78 : km_Q := (yX6_finds, cX6_finds, 6, (some .boolean), 6, 3, true, km_c78)
def km_c79 : List (Nat × Jvm.ClassFile.Instr) := [(0, .aload_n 0), (1, .invokespecial 3), (4, .aload_n 0), (5, .sipush 2000), (8, .newarray .byte), (10, .putfield 9), (13, .return_)]
def km_q79 : km_Q := (yX7_init, cX7_init, 1, none, 7, 1, false, km_c79)
def km_c80 : List (Nat × Jvm.ClassFile.Instr) := [(0, .bipush 24), (2, .istore_n 2), (3, .iload_n 2), (4, .ifCond .lt 42), (7, .aload_n 0), (8, .getfield 15), (11, .sipush 2000), (14, .if_icmp .ge 32), (17, .aload_n 0), (18, .getfield 9), (21, .aload_n 0), (22, .getfield 15), (25, .iload_n 1), (26, .iload_n 2), (27, .ishr), (28, .i2b), (29, .bastore), (30, .aload_n 0), (31, .dup), (32, .getfield 15), (35, .iconst 1), (36, .iadd), (37, .putfield 15), (40, .iinc 2 (-8)), (43, .goto (-40)), (46, .return_)]
def km_q80 : km_Q := (yX7_put, cX7_put, 3, none, 7, 2, false, km_c80)
def km_c81 : List (Nat × Jvm.ClassFile.Instr) := [(0, .aload_n 0), (1, .iconst 0), (2, .putfield 19), (5, .return_)]
def km_q81 : km_Q := (yX7_begin, cX7_begin, 1, none, 7, 1, false, km_c81)
def km_c82 : List (Nat × Jvm.ClassFile.Instr) := [(0, .iconst 0), (1, .istore_n 1), (2, .iload_n 1), (3, .sipush 2000), (6, .if_icmp .ge 33), (9, .aload_n 0), (10, .aload_n 0), (11, .getfield 19), (14, .invokevirtual 22), (17, .invokestatic 26), (20, .ifCond .eq 19), (23, .aload_n 0), (24, .dup), (25, .getfield 19), (28, .iconst 1), (29, .iadd), (30, .putfield 19), (33, .iinc 1 1), (36, .goto (-34)), (39, .aload_n 0), (40, .aload_n 0), (41, .getfield 19), (44, .putfield 30), (47, .aload_n 0), (48, .aload_n 0), (49, .getfield 19), (52, .invokevirtual 22), (55, .istore_n 1), (56, .iload_n 1), (57, .iconst (-1)), (58, .if_icmp .ne 11), (61, .aload_n 0), (62, .iconst 0), (63, .putfield 33), (66, .goto 79), (69, .iload_n 1), (70, .invokestatic 36), (73, .ifCond .eq 10), (76, .aload_n 0), (77, .invokevirtual 39), (80, .goto 65), (83, .iload_n 1), (84, .invokestatic 42), (87, .ifCond .eq 10), (90, .aload_n 0), (91, .invokevirtual 45), (94, .goto 51), (97, .aload_n 0), (98, .dup), (99, .getfield 19), (102, .iconst 1), (103, .iadd), (104, .putfield 19), (107, .aload_n 0), (108, .iload_n 1), (109, .bipush 59), (111, .if_icmp .ne 8), (114, .bipush 7), (116, .goto 26), (119, .iload_n 1), (120, .bipush 43), (122, .if_icmp .ne 8), (125, .bipush 8), (127, .goto 15), (130, .iload_n 1), (131, .bipush 45), (133, .if_icmp .ne 8), (136, .bipush 9), (138, .goto 4), (141, .iconst 1), (142, .putfield 33), (145, .return_)]
def km_q82 : km_Q := (yX7_step, cX7_step, 2, none, 7, 1, false, km_c82)
def km_c83 : List (Nat × Jvm.ClassFile.Instr) := [(0, .iconst 0), (1, .istore_n 1), (2, .iload_n 1), (3, .sipush 2000), (6, .if_icmp .ge 33), (9, .aload_n 0), (10, .aload_n 0), (11, .getfield 19), (14, .invokevirtual 22), (17, .invokestatic 36), (20, .ifCond .eq 19), (23, .aload_n 0), (24, .dup), (25, .getfield 19), (28, .iconst 1), (29, .iadd), (30, .putfield 19), (33, .iinc 1 1), (36, .goto (-34)), (39, .aload_n 0), (40, .ldc 48), (42, .invokevirtual 50), (45, .ifCond .eq 11), (48, .aload_n 0), (49, .iconst 2), (50, .putfield 33), (53, .goto 59), (56, .aload_n 0), (57, .ldc 54), (59, .invokevirtual 50), (62, .ifCond .eq 11), (65, .aload_n 0), (66, .iconst 3), (67, .putfield 33), (70, .goto 42), (73, .aload_n 0), (74, .ldc 56), (76, .invokevirtual 50), (79, .ifCond .eq 11), (82, .aload_n 0), (83, .iconst 4), (84, .putfield 33), (87, .goto 25), (90, .aload_n 0), (91, .ldc 58), (93, .invokevirtual 50), (96, .ifCond .eq 11), (99, .aload_n 0), (100, .iconst 5), (101, .putfield 33), (104, .goto 8), (107, .aload_n 0), (108, .iconst 1), (109, .putfield 33), (112, .return_)]
def km_q83 : km_Q := (yX7_stepWord, cX7_stepWord, 2, none, 7, 1, false, km_c83)
def km_c84 : List (Nat × Jvm.ClassFile.Instr) := [(0, .aload_n 0), (1, .getfield 19), (4, .aload_n 0), (5, .getfield 30), (8, .isub), (9, .aload_n 1), (10, .invokevirtual 60), (13, .if_icmp .ne 7), (16, .iconst 1), (17, .goto 4), (20, .iconst 0), (21, .istore_n 2), (22, .iconst 0), (23, .istore_n 3), (24, .iload_n 2), (25, .ifCond .eq 41), (28, .iload_n 3), (29, .aload_n 1), (30, .invokevirtual 60), (33, .if_icmp .ge 33), (36, .aload_n 0), (37, .aload_n 0), (38, .getfield 30), (41, .iload_n 3), (42, .iadd), (43, .invokevirtual 22), (46, .aload_n 1), (47, .iload_n 3), (48, .invokevirtual 65), (51, .if_icmp .ne 7), (54, .iconst 1), (55, .goto 4), (58, .iconst 0), (59, .istore_n 2), (60, .iinc 3 1), (63, .goto (-39)), (66, .iload_n 2), (67, .ireturn)]
def km_q84 : km_Q := (yX7_spells, cX7_spells, 4, (some .boolean), 7, 2, false, km_c84)
def km_c85 : List (Nat × Jvm.ClassFile.Instr) := [(0, .aload_n 0), (1, .iconst 0), (2, .putfield 69), (5, .iconst 0), (6, .istore_n 1), (7, .iload_n 1), (8, .sipush 2000), (11, .if_icmp .ge 56), (14, .aload_n 0), (15, .aload_n 0), (16, .getfield 19), (19, .invokevirtual 22), (22, .invokestatic 42), (25, .ifCond .eq 42), (28, .aload_n 0), (29, .bipush 10), (31, .aload_n 0), (32, .getfield 69), (35, .imul), (36, .aload_n 0), (37, .aload_n 0), (38, .getfield 19), (41, .invokevirtual 22), (44, .iadd), (45, .bipush 48), (47, .isub), (48, .putfield 69), (51, .aload_n 0), (52, .dup), (53, .getfield 19), (56, .iconst 1), (57, .iadd), (58, .putfield 19), (61, .iinc 1 1), (64, .goto (-57)), (67, .aload_n 0), (68, .aload_n 0), (69, .getfield 19), (72, .aload_n 0), (73, .getfield 30), (76, .isub), (77, .iconst 4), (78, .if_icmp .gt 8), (81, .bipush 6), (83, .goto 4), (86, .iconst 1), (87, .putfield 33), (90, .return_)]
def km_q85 : km_Q := (yX7_stepInt, cX7_stepInt, 2, none, 7, 1, false, km_c85)
def km_c86 : List (Nat × Jvm.ClassFile.Instr) := [(0, .iload_n 1), (1, .ifCond .lt 24), (4, .iload_n 1), (5, .aload_n 0), (6, .getfield 15), (9, .if_icmp .ge 16), (12, .aload_n 0), (13, .getfield 9), (16, .iload_n 1), (17, .baload), (18, .sipush 255), (21, .iand), (22, .goto 4), (25, .iconst (-1)), (26, .ireturn)]
def km_q86 : km_Q := (yX7_byteAt, cX7_byteAt, 2, (some .int), 7, 2, false, km_c86)
def km_c87 : List (Nat × Jvm.ClassFile.Instr) := [(0, .iload_n 0), (1, .bipush 9), (3, .if_icmp .eq 21), (6, .iload_n 0), (7, .bipush 10), (9, .if_icmp .eq 15), (12, .iload_n 0), (13, .bipush 13), (15, .if_icmp .eq 9), (18, .iload_n 0), (19, .bipush 32), (21, .if_icmp .ne 7), (24, .iconst 1), (25, .goto 4), (28, .iconst 0), (29, .ireturn)]
def km_q87 : km_Q := (yX7_isBlank, cX7_isBlank, 1, (some .boolean), 7, 1, true, km_c87)
def km_c88 : List (Nat × Jvm.ClassFile.Instr) := [(0, .iload_n 0), (1, .bipush 97), (3, .if_icmp .lt 13), (6, .iload_n 0), (7, .bipush 122), (9, .if_icmp .gt 7), (12, .iconst 1), (13, .goto 4), (16, .iconst 0), (17, .ireturn)]
def km_q88 : km_Q := (yX7_isLetter, cX7_isLetter, 1, (some .boolean), 7, 1, true, km_c88)
def km_c89 : List (Nat × Jvm.ClassFile.Instr) := [(0, .iload_n 0), (1, .bipush 48), (3, .if_icmp .lt 13), (6, .iload_n 0), (7, .bipush 57), (9, .if_icmp .gt 7), (12, .iconst 1), (13, .goto 4), (16, .iconst 0), (17, .ireturn)]
def km_q89 : km_Q := (yX7_isDigit, cX7_isDigit, 1, (some .boolean), 7, 1, true, km_c89)
def km_c90 : List (Nat × Jvm.ClassFile.Instr) := [(0, .aload_n 0), (1, .invokespecial 1), (4, .aload_n 0), (5, .new 7), (8, .dup), (9, .invokespecial 9), (12, .putfield 10), (15, .aload_n 0), (16, .new 16), (19, .dup), (20, .invokespecial 18), (23, .putfield 19), (26, .aload_n 0), (27, .new 23), (30, .dup), (31, .invokespecial 25), (34, .putfield 26), (37, .aload_n 0), (38, .new 30), (41, .dup), (42, .invokespecial 32), (45, .putfield 33), (48, .aload_n 0), (49, .new 37), (52, .dup), (53, .invokespecial 39), (56, .putfield 40), (59, .aload_n 0), (60, .new 44), (63, .dup), (64, .invokespecial 46), (67, .putfield 47), (70, .aload_n 0), (71, .new 44), (74, .dup), (75, .invokespecial 46), (78, .putfield 51), (81, .aload_n 0), (82, .new 54), (85, .dup), (86, .invokespecial 56), (89, .putfield 57), (92, .aload_n 0), (93, .iconst 3), (94, .anewarray 23), (97, .putfield 61), (100, .aload_n 0), (101, .iconst 3), (102, .newarray .boolean), (104, .putfield 65), (107, .aload_n 0), (108, .new 23), (111, .dup), (112, .invokespecial 25), (115, .putfield 69), (118, .aload_n 0), (119, .new 30), (122, .dup), (123, .invokespecial 32), (126, .putfield 72), (129, .aload_n 0), (130, .new 75), (133, .dup), (134, .invokespecial 77), (137, .putfield 78), (140, .aload_n 0), (141, .iconst (-1)), (142, .putfield 82), (145, .iconst 0), (146, .istore_n 1), (147, .iload_n 1), (148, .iconst 3), (149, .if_icmp .ge 22), (152, .aload_n 0), (153, .getfield 61), (156, .iload_n 1), (157, .new 23), (160, .dup), (161, .invokespecial 25), (164, .aastore), (165, .iinc 1 1), (168, .goto (-21)), (171, .return_)]
def km_q90 : km_Q := (yX8_init, cX8_init, 2, none, 8, 1, false, km_c90)
def km_c91 : List (Nat × Jvm.ClassFile.Instr) := [(0, .aload_n 0), (1, .getfield 10), (4, .getfield 86), (7, .bipush 20), (9, .iadd), (10, .sipush 2000), (13, .if_icmp .le 5), (16, .iconst (-1)), (17, .ireturn), (18, .aload_n 0), (19, .getfield 10), (22, .iload_n 1), (23, .invokevirtual 89), (26, .aload_n 0), (27, .getfield 10), (30, .iload_n 2), (31, .invokevirtual 89), (34, .aload_n 0), (35, .getfield 10), (38, .iload_n 3), (39, .invokevirtual 89), (42, .aload_n 0), (43, .getfield 10), (46, .iload 4), (48, .invokevirtual 89), (51, .aload_n 0), (52, .getfield 10), (55, .iload 5), (57, .invokevirtual 89), (60, .aload_n 0), (61, .getfield 10), (64, .getfield 86), (67, .ireturn)]
def km_q91 : km_Q := (yX8_feed, cX8_feed, 6, (some .int), 8, 6, false, km_c91)
def km_c92 : List (Nat × Jvm.ClassFile.Instr) := [(0, .iload_n 1), (1, .ifCond .lt 14), (4, .iload_n 1), (5, .aload_n 0), (6, .getfield 10), (9, .getfield 86), (12, .if_icmp .le 5), (15, .iconst (-1)), (16, .ireturn), (17, .aload_n 0), (18, .getfield 10), (21, .dup), (22, .getfield 86), (25, .iload_n 1), (26, .isub), (27, .putfield 86), (30, .aload_n 0), (31, .getfield 10), (34, .getfield 86), (37, .ireturn)]
def km_q92 : km_Q := (yX8_back, cX8_back, 2, (some .int), 8, 2, false, km_c92)
def km_c93 : List (Nat × Jvm.ClassFile.Instr) := [(0, .aload_n 0), (1, .getfield 19), (4, .aload_n 0), (5, .getfield 10), (8, .aload_n 0), (9, .getfield 69), (12, .aload_n 0), (13, .getfield 72), (16, .invokevirtual 93), (19, .istore_n 1), (20, .aload_n 0), (21, .getfield 10), (24, .iconst 0), (25, .putfield 86), (28, .iload_n 1), (29, .ifCond .ne 22), (32, .aload_n 0), (33, .aload_n 0), (34, .getfield 19), (37, .getfield 97), (40, .putfield 82), (43, .aload_n 0), (44, .getfield 19), (47, .getfield 100), (50, .ireturn), (51, .aload_n 0), (52, .iconst (-1)), (53, .putfield 82), (56, .aload_n 0), (57, .getfield 57), (60, .invokevirtual 103), (63, .iconst 0), (64, .istore_n 2), (65, .iload_n 2), (66, .iconst 3), (67, .if_icmp .ge 16), (70, .aload_n 0), (71, .getfield 65), (74, .iload_n 2), (75, .iconst 0), (76, .bastore), (77, .iinc 2 1), (80, .goto (-15)), (83, .aload_n 0), (84, .getfield 26), (87, .aload_n 0), (88, .getfield 69), (91, .invokevirtual 106), (94, .aload_n 0), (95, .invokevirtual 110), (98, .iconst 0), (99, .ireturn)]
def km_q93 : km_Q := (yX8_read, cX8_read, 3, (some .int), 8, 1, false, km_c93)
def km_c94 : List (Nat × Jvm.ClassFile.Instr) := [(0, .aload_n 0), (1, .getfield 82), (4, .ireturn)]
def km_q94 : km_Q := (yX8_place, cX8_place, 1, (some .int), 8, 1, false, km_c94)
def km_c95 : List (Nat × Jvm.ClassFile.Instr) := [(0, .aload_n 0), (1, .iload_n 1), (2, .invokevirtual 113), (5, .istore_n 2), (6, .iload_n 2), (7, .iconst 1), (8, .if_icmp .eq 10), (11, .iload_n 2), (12, .iconst 2), (13, .if_icmp .eq 5), (16, .iconst (-1)), (17, .ireturn), (18, .aload_n 0), (19, .getfield 57), (22, .aload_n 0), (23, .getfield 26), (26, .invokevirtual 117), (29, .aload_n 0), (30, .getfield 26), (33, .aload_n 0), (34, .getfield 33), (37, .iload_n 1), (38, .invokevirtual 120), (41, .invokevirtual 123), (44, .aload_n 0), (45, .invokevirtual 110), (48, .aload_n 0), (49, .getfield 26), (52, .getfield 126), (55, .ireturn)]
def km_q95 : km_Q := (yX8_out, cX8_out, 3, (some .int), 8, 2, false, km_c95)
def km_c96 : List (Nat × Jvm.ClassFile.Instr) := [(0, .aload_n 0), (1, .iload_n 1), (2, .invokevirtual 113), (5, .iconst 3), (6, .if_icmp .eq 5), (9, .iconst 0), (10, .ireturn), (11, .aload_n 0), (12, .getfield 57), (15, .aload_n 0), (16, .getfield 26), (19, .invokevirtual 117), (22, .aload_n 0), (23, .getfield 26), (26, .aload_n 0), (27, .getfield 33), (30, .iload_n 1), (31, .invokevirtual 129), (34, .aload_n 0), (35, .invokevirtual 110), (38, .iconst 1), (39, .ireturn)]
def km_q96 : km_Q := (yX8_slide, cX8_slide, 2, (some .boolean), 8, 2, false, km_c96)
def km_c97 : List (Nat × Jvm.ClassFile.Instr) := [(0, .aload_n 0), (1, .getfield 26), (4, .getfield 126), (7, .bipush 8), (9, .if_icmp .ge 18), (12, .iload_n 1), (13, .ifCond .lt 14), (16, .iload_n 1), (17, .aload_n 0), (18, .getfield 26), (21, .invokevirtual 133), (24, .if_icmp .lt 5), (27, .iconst 0), (28, .ireturn), (29, .aload_n 0), (30, .getfield 57), (33, .aload_n 0), (34, .getfield 26), (37, .invokevirtual 117), (40, .aload_n 0), (41, .getfield 26), (44, .iload_n 1), (45, .iload_n 2), (46, .iload_n 3), (47, .invokevirtual 137), (50, .aload_n 0), (51, .invokevirtual 110), (54, .iconst 1), (55, .ireturn)]
def km_q97 : km_Q := (yX8_kink, cX8_kink, 4, (some .boolean), 8, 4, false, km_c97)
def km_c98 : List (Nat × Jvm.ClassFile.Instr) := [(0, .aload_n 0), (1, .getfield 69), (4, .aload_n 0), (5, .getfield 26), (8, .invokevirtual 106), (11, .aload_n 0), (12, .getfield 69), (15, .aload_n 0), (16, .getfield 72), (19, .invokevirtual 141), (22, .istore_n 1), (23, .iload_n 1), (24, .ifCond .le 29), (27, .aload_n 0), (28, .getfield 57), (31, .aload_n 0), (32, .getfield 26), (35, .invokevirtual 117), (38, .aload_n 0), (39, .getfield 26), (42, .aload_n 0), (43, .getfield 69), (46, .invokevirtual 106), (49, .aload_n 0), (50, .invokevirtual 110), (53, .iload_n 1), (54, .ireturn)]
def km_q98 : km_Q := (yX8_loosen, cX8_loosen, 2, (some .int), 8, 1, false, km_c98)
def km_c99 : List (Nat × Jvm.ClassFile.Instr) := [(0, .aload_n 0), (1, .getfield 26), (4, .getfield 145), (7, .ifCond .ne 5), (10, .iconst 0), (11, .ireturn), (12, .aload_n 0), (13, .getfield 57), (16, .aload_n 0), (17, .getfield 26), (20, .invokevirtual 117), (23, .aload_n 0), (24, .getfield 26), (27, .aload_n 0), (28, .getfield 26), (31, .invokevirtual 148), (34, .invokevirtual 151), (37, .aload_n 0), (38, .invokevirtual 110), (41, .iconst 1), (42, .ireturn)]
def km_q99 : km_Q := (yX8_mirror, cX8_mirror, 1, (some .boolean), 8, 1, false, km_c99)
def km_c100 : List (Nat × Jvm.ClassFile.Instr) := [(0, .iload_n 1), (1, .ifCond .lt 14), (4, .iload_n 1), (5, .aload_n 0), (6, .getfield 26), (9, .getfield 145), (12, .if_icmp .lt 5), (15, .iconst 0), (16, .ireturn), (17, .aload_n 0), (18, .getfield 57), (21, .aload_n 0), (22, .getfield 26), (25, .invokevirtual 117), (28, .aload_n 0), (29, .getfield 26), (32, .iload_n 1), (33, .aload_n 0), (34, .getfield 33), (37, .invokevirtual 154), (40, .aload_n 0), (41, .invokevirtual 110), (44, .iconst 1), (45, .ireturn)]
def km_q100 : km_Q := (yX8_round, cX8_round, 2, (some .boolean), 8, 2, false, km_c100)
def km_c101 : List (Nat × Jvm.ClassFile.Instr) := [(0, .iload_n 1), (1, .ifCond .lt 14), (4, .iload_n 1), (5, .aload_n 0), (6, .getfield 26), (9, .getfield 126), (12, .if_icmp .lt 5), (15, .iconst 0), (16, .ireturn), (17, .aload_n 0), (18, .getfield 57), (21, .aload_n 0), (22, .getfield 26), (25, .invokevirtual 117), (28, .aload_n 0), (29, .getfield 26), (32, .iconst 1), (33, .iload_n 1), (34, .ishl), (35, .invokevirtual 151), (38, .aload_n 0), (39, .invokevirtual 110), (42, .iconst 1), (43, .ireturn)]
def km_q101 : km_Q := (yX8_switches, cX8_switches, 2, (some .boolean), 8, 2, false, km_c101)
def km_c102 : List (Nat × Jvm.ClassFile.Instr) := [(0, .aload_n 0), (1, .iload_n 1), (2, .invokevirtual 158), (5, .ifCond .eq 19), (8, .aload_n 0), (9, .getfield 26), (12, .aload_n 0), (13, .getfield 61), (16, .iload_n 1), (17, .aaload), (18, .invokevirtual 162), (21, .ifCond .ne 5), (24, .iconst 0), (25, .ireturn), (26, .aload_n 0), (27, .getfield 57), (30, .aload_n 0), (31, .getfield 26), (34, .invokevirtual 117), (37, .aload_n 0), (38, .getfield 26), (41, .aload_n 0), (42, .getfield 61), (45, .iload_n 1), (46, .aaload), (47, .invokevirtual 166), (50, .aload_n 0), (51, .invokevirtual 110), (54, .iconst 1), (55, .ireturn)]
def km_q102 : km_Q := (yX8_sum, cX8_sum, 2, (some .boolean), 8, 2, false, km_c102)
def km_c103 : List (Nat × Jvm.ClassFile.Instr) := [(0, .aload_n 0), (1, .getfield 57), (4, .aload_n 0), (5, .getfield 26), (8, .invokevirtual 169), (11, .ifCond .ne 5), (14, .iconst 0), (15, .ireturn), (16, .aload_n 0), (17, .invokevirtual 110), (20, .iconst 1), (21, .ireturn)]
def km_q103 : km_Q := (yX8_undo, cX8_undo, 1, (some .boolean), 8, 1, false, km_c103)
def km_c104 : List (Nat × Jvm.ClassFile.Instr) := [(0, .iload_n 1), (1, .ifCond .lt 14), (4, .iload_n 1), (5, .aload_n 0), (6, .getfield 26), (9, .getfield 145), (12, .if_icmp .lt 5), (15, .iconst (-1)), (16, .ireturn), (17, .aload_n 0), (18, .getfield 26), (21, .getfield 172), (24, .iload_n 1), (25, .iconst 1), (26, .iadd), (27, .iaload), (28, .aload_n 0), (29, .getfield 26), (32, .getfield 172), (35, .iload_n 1), (36, .iaload), (37, .isub), (38, .istore_n 3), (39, .iload_n 2), (40, .iconst (-1)), (41, .if_icmp .ne 5), (44, .iload_n 3), (45, .ireturn), (46, .iload_n 2), (47, .ifCond .lt 8), (50, .iload_n 2), (51, .iload_n 3), (52, .if_icmp .lt 5), (55, .iconst (-1)), (56, .ireturn), (57, .aload_n 0), (58, .getfield 26), (61, .getfield 172), (64, .iload_n 1), (65, .iaload), (66, .iload_n 2), (67, .iadd), (68, .istore 4), (70, .iconst 2), (71, .aload_n 0), (72, .getfield 26), (75, .getfield 176), (78, .iload 4), (80, .iaload), (81, .imul), (82, .aload_n 0), (83, .getfield 26), (86, .getfield 179), (89, .aload_n 0), (90, .getfield 26), (93, .iload 4), (95, .invokevirtual 182), (98, .iaload), (99, .ifCond .le 7), (102, .iconst 1), (103, .goto 4), (106, .iconst 0), (107, .iadd), (108, .ireturn)]
def km_q104 : km_Q := (yX8_ring, cX8_ring, 5, (some .int), 8, 3, false, km_c104)
def km_c105 : List (Nat × Jvm.ClassFile.Instr) := [(0, .iload_n 1), (1, .ifCond .lt 14), (4, .iload_n 1), (5, .aload_n 0), (6, .getfield 26), (9, .getfield 126), (12, .if_icmp .lt 6), (15, .ldc 185), (17, .ireturn), (18, .iload_n 2), (19, .tableswitch 121 0 7 #[45, 55, 55, 55, 55, 67, 85, 103]), (64, .aload_n 0), (65, .getfield 26), (68, .getfield 179), (71, .iload_n 1), (72, .iaload), (73, .ireturn), (74, .aload_n 0), (75, .getfield 33), (78, .iload_n 1), (79, .iload_n 2), (80, .iconst 1), (81, .isub), (82, .invokevirtual 186), (85, .ireturn), (86, .aload_n 0), (87, .getfield 33), (90, .getfield 190), (93, .aload_n 0), (94, .getfield 33), (97, .getfield 193), (100, .iload_n 1), (101, .iaload), (102, .iaload), (103, .ireturn), (104, .aload_n 0), (105, .getfield 33), (108, .getfield 190), (111, .aload_n 0), (112, .getfield 33), (115, .getfield 196), (118, .iload_n 1), (119, .iaload), (120, .iaload), (121, .ireturn), (122, .aload_n 0), (123, .getfield 40), (126, .getfield 199), (129, .aload_n 0), (130, .getfield 33), (133, .getfield 193), (136, .iload_n 1), (137, .iaload), (138, .iaload), (139, .ireturn), (140, .ldc 185), (142, .ireturn)]
def km_q105 : km_Q := (yX8_crossing, cX8_crossing, 3, (some .int), 8, 3, false, km_c105)
def km_c106 : List (Nat × Jvm.ClassFile.Instr) := [(0, .iload_n 1), (1, .iconst (-1)), (2, .if_icmp .ne 11), (5, .aload_n 0), (6, .getfield 33), (9, .getfield 202), (12, .ireturn), (13, .iload_n 1), (14, .ifCond .lt 18), (17, .iload_n 1), (18, .aload_n 0), (19, .getfield 33), (22, .getfield 202), (25, .if_icmp .ge 7), (28, .iload_n 2), (29, .ifCond .ge 5), (32, .iconst (-1)), (33, .ireturn), (34, .aload_n 0), (35, .getfield 33), (38, .iload_n 1), (39, .invokevirtual 205), (42, .istore_n 3), (43, .iload_n 2), (44, .ifCond .ne 5), (47, .iload_n 3), (48, .ireturn), (49, .iload_n 2), (50, .iconst 1), (51, .if_icmp .ne 13), (54, .aload_n 0), (55, .getfield 33), (58, .getfield 208), (61, .iload_n 1), (62, .iaload), (63, .ireturn), (64, .iload_n 2), (65, .iconst 2), (66, .isub), (67, .iload_n 3), (68, .if_icmp .ge 27), (71, .aload_n 0), (72, .getfield 33), (75, .getfield 211), (78, .aload_n 0), (79, .getfield 33), (82, .getfield 214), (85, .iload_n 1), (86, .iaload), (87, .iload_n 2), (88, .iadd), (89, .iconst 2), (90, .isub), (91, .iaload), (92, .goto 4), (95, .iconst (-1)), (96, .ireturn)]
def km_q106 : km_Q := (yX8_face, cX8_face, 4, (some .int), 8, 3, false, km_c106)
def km_c107 : List (Nat × Jvm.ClassFile.Instr) := [(0, .aload_n 0), (1, .getfield 26), (4, .getfield 145), (7, .ifCond .eq 18), (10, .iload_n 1), (11, .ifCond .lt 14), (14, .iload_n 1), (15, .aload_n 0), (16, .getfield 26), (19, .invokevirtual 148), (22, .if_icmp .le 5), (25, .iconst (-1)), (26, .ireturn), (27, .aload_n 0), (28, .getfield 33), (31, .aload_n 0), (32, .getfield 26), (35, .iload_n 1), (36, .invokevirtual 217), (39, .ireturn)]
def km_q107 : km_Q := (yX8_loops, cX8_loops, 2, (some .int), 8, 2, false, km_c107)
def km_c108 : List (Nat × Jvm.ClassFile.Instr) := [(0, .aload_n 0), (1, .invokevirtual 221), (4, .astore_n 3), (5, .iload_n 2), (6, .ifCond .eq 11), (9, .aload_n 3), (10, .iload_n 1), (11, .invokevirtual 225), (14, .goto 8), (17, .aload_n 3), (18, .iload_n 1), (19, .invokevirtual 228), (22, .ireturn)]
def km_q108 : km_Q := (yX8_coefficient, cX8_coefficient, 4, (some .int), 8, 3, false, km_c108)
def km_c109 : List (Nat × Jvm.ClassFile.Instr) := [(0, .iload_n 1), (1, .ifCond .lt 34), (4, .iload_n 1), (5, .aload_n 0), (6, .getfield 26), (9, .getfield 145), (12, .if_icmp .ge 23), (15, .iload_n 2), (16, .ifCond .lt 19), (19, .iload_n 2), (20, .aload_n 0), (21, .getfield 26), (24, .getfield 145), (27, .if_icmp .ge 8), (30, .iload_n 1), (31, .iload_n 2), (32, .if_icmp .ne 6), (35, .ldc 185), (37, .ireturn), (38, .iconst 0), (39, .istore_n 3), (40, .iconst 0), (41, .istore 4), (43, .iload 4), (45, .aload_n 0), (46, .getfield 26), (49, .getfield 126), (52, .if_icmp .ge 86), (55, .aload_n 0), (56, .getfield 33), (59, .getfield 190), (62, .aload_n 0), (63, .getfield 33), (66, .getfield 193), (69, .iload 4), (71, .iaload), (72, .iaload), (73, .istore 5), (75, .aload_n 0), (76, .getfield 33), (79, .getfield 190), (82, .aload_n 0), (83, .getfield 33), (86, .getfield 196), (89, .iload 4), (91, .iaload), (92, .iaload), (93, .istore 6), (95, .iload 5), (97, .iload_n 1), (98, .if_icmp .ne 9), (101, .iload 6), (103, .iload_n 2), (104, .if_icmp .eq 15), (107, .iload 5), (109, .iload_n 2), (110, .if_icmp .ne 22), (113, .iload 6), (115, .iload_n 1), (116, .if_icmp .ne 16), (119, .iload_n 3), (120, .aload_n 0), (121, .getfield 26), (124, .getfield 179), (127, .iload 4), (129, .iaload), (130, .iadd), (131, .istore_n 3), (132, .iinc 4 1), (135, .goto (-92)), (138, .iload_n 3), (139, .iconst 2), (140, .idiv), (141, .ireturn)]
def km_q109 : km_Q := (yX8_winding, cX8_winding, 7, (some .int), 8, 3, false, km_c109)
def km_c110 : List (Nat × Jvm.ClassFile.Instr) := [(0, .iload_n 1), (1, .iconst 2), (2, .if_icmp .eq 35), (5, .iload_n 1), (6, .iconst 3), (7, .if_icmp .eq 30), (10, .iload_n 1), (11, .iconst 5), (12, .if_icmp .eq 25), (15, .iload_n 1), (16, .bipush 7), (18, .if_icmp .eq 19), (21, .iload_n 1), (22, .bipush 11), (24, .if_icmp .eq 13), (27, .iload_n 1), (28, .bipush 13), (30, .if_icmp .eq 7), (33, .ldc2_w 231), (36, .lreturn), (37, .aload_n 0), (38, .getfield 40), (41, .iload_n 1), (42, .aload_n 0), (43, .getfield 26), (46, .aload_n 0), (47, .getfield 33), (50, .invokevirtual 233), (53, .lreturn)]
def km_q110 : km_Q := (yX8_colourings, cX8_colourings, 2, (some .long), 8, 2, false, km_c110)
def km_c111 : List (Nat × Jvm.ClassFile.Instr) := [(0, .iload_n 1), (1, .ifCond .eq 10), (4, .iload_n 1), (5, .iconst 1), (6, .if_icmp .eq 5), (9, .iconst (-1)), (10, .ireturn), (11, .aload_n 0), (12, .getfield 237), (15, .ifCond .ne 16), (18, .aload_n 0), (19, .aload_n 0), (20, .invokevirtual 241), (23, .putfield 244), (26, .aload_n 0), (27, .iconst 1), (28, .putfield 237), (31, .iload_n 1), (32, .ifCond .ne 20), (35, .aload_n 0), (36, .getfield 244), (39, .ifCond .lt 13), (42, .aload_n 0), (43, .getfield 244), (46, .invokestatic 247), (49, .goto 7), (52, .aload_n 0), (53, .getfield 244), (56, .ireturn)]
def km_q111 : km_Q := (yX8_freed, cX8_freed, 2, (some .int), 8, 2, false, km_c111)
def km_c112 : List (Nat × Jvm.ClassFile.Instr) := [(0, .iload_n 1), (1, .ifCond .lt 8), (4, .iload_n 1), (5, .iconst 3), (6, .if_icmp .le 5), (9, .iconst (-1)), (10, .ireturn), (11, .aload_n 0), (12, .getfield 78), (15, .aload_n 0), (16, .getfield 26), (19, .iload_n 1), (20, .invokevirtual 252), (23, .ifCond .eq 7), (26, .iconst 1), (27, .goto 4), (30, .iconst 0), (31, .ireturn)]
def km_q112 : km_Q := (yX8_looser, cX8_looser, 2, (some .int), 8, 2, false, km_c112)
def km_c113 : List (Nat × Jvm.ClassFile.Instr) := [(0, .aload_n 0), (1, .iload_n 1), (2, .invokevirtual 158), (5, .ifCond .eq 12), (8, .iload_n 2), (9, .ifCond .lt 8), (12, .iload_n 2), (13, .iconst 2), (14, .if_icmp .le 5), (17, .iconst (-1)), (18, .ireturn), (19, .iload_n 2), (20, .iconst 2), (21, .if_icmp .ne 25), (24, .aload_n 0), (25, .getfield 26), (28, .aload_n 0), (29, .getfield 61), (32, .iload_n 1), (33, .aaload), (34, .invokevirtual 256), (37, .ifCond .eq 7), (40, .iconst 1), (41, .goto 4), (44, .iconst 0), (45, .ireturn), (46, .aload_n 0), (47, .getfield 72), (50, .aload_n 0), (51, .getfield 61), (54, .iload_n 1), (55, .aaload), (56, .invokevirtual 259), (59, .aload_n 0), (60, .getfield 51), (63, .aload_n 0), (64, .getfield 61), (67, .iload_n 1), (68, .aaload), (69, .aload_n 0), (70, .getfield 72), (73, .invokevirtual 262), (76, .aload_n 0), (77, .invokevirtual 221), (80, .aload_n 0), (81, .getfield 51), (84, .iload_n 2), (85, .iconst 1), (86, .if_icmp .ne 7), (89, .iconst 1), (90, .goto 4), (93, .iconst 0), (94, .invokevirtual 266), (97, .ifCond .eq 7), (100, .iconst 1), (101, .goto 4), (104, .iconst 0), (105, .ireturn)]
def km_q113 : km_Q := (yX8_alike, cX8_alike, 3, (some .int), 8, 3, false, km_c113)
def km_c114 : List (Nat × Jvm.ClassFile.Instr) := [(0, .iload_n 1), (1, .ifCond .lt 8), (4, .iload_n 1), (5, .iconst 3), (6, .if_icmp .lt 5), (9, .iconst 0), (10, .ireturn), (11, .aload_n 0), (12, .getfield 61), (15, .iload_n 1), (16, .aaload), (17, .aload_n 0), (18, .getfield 26), (21, .invokevirtual 106), (24, .aload_n 0), (25, .getfield 65), (28, .iload_n 1), (29, .iconst 1), (30, .bastore), (31, .iconst 1), (32, .ireturn)]
def km_q114 : km_Q := (yX8_hold, cX8_hold, 2, (some .boolean), 8, 2, false, km_c114)
def km_c115 : List (Nat × Jvm.ClassFile.Instr) := [(0, .aload_n 0), (1, .iload_n 1), (2, .invokevirtual 158), (5, .ifCond .ne 5), (8, .iconst 0), (9, .ireturn), (10, .aload_n 0), (11, .getfield 57), (14, .invokevirtual 103), (17, .aload_n 0), (18, .getfield 26), (21, .aload_n 0), (22, .getfield 61), (25, .iload_n 1), (26, .aaload), (27, .invokevirtual 106), (30, .aload_n 0), (31, .invokevirtual 110), (34, .iconst 1), (35, .ireturn)]
def km_q115 : km_Q := (yX8_restore, cX8_restore, 2, (some .boolean), 8, 2, false, km_c115)
def km_c116 : List (Nat × Jvm.ClassFile.Instr) := [(0, .iload_n 1), (1, .tableswitch 239 0 16 #[83, 91, 99, 107, 115, 127, 135, 143, 159, 167, 175, 184, 193, 202, 218, 226, 234]), (84, .aload_n 0), (85, .getfield 26), (88, .getfield 145), (91, .ireturn), (92, .aload_n 0), (93, .getfield 26), (96, .getfield 126), (99, .ireturn), (100, .aload_n 0), (101, .getfield 26), (104, .invokevirtual 133), (107, .ireturn), (108, .aload_n 0), (109, .getfield 33), (112, .getfield 202), (115, .ireturn), (116, .aload_n 0), (117, .getfield 33), (120, .aload_n 0), (121, .getfield 26), (124, .invokevirtual 270), (127, .ireturn), (128, .aload_n 0), (129, .getfield 26), (132, .invokevirtual 274), (135, .ireturn), (136, .aload_n 0), (137, .getfield 40), (140, .getfield 277), (143, .ireturn), (144, .aload_n 0), (145, .getfield 40), (148, .aload_n 0), (149, .getfield 26), (152, .aload_n 0), (153, .getfield 33), (156, .invokevirtual 279), (159, .ireturn), (160, .aload_n 0), (161, .invokevirtual 221), (164, .invokevirtual 283), (167, .ireturn), (168, .aload_n 0), (169, .getfield 26), (172, .invokevirtual 286), (175, .ireturn), (176, .aload_n 0), (177, .getfield 33), (180, .iconst 1), (181, .invokevirtual 289), (184, .ireturn), (185, .aload_n 0), (186, .getfield 33), (189, .iconst 2), (190, .invokevirtual 289), (193, .ireturn), (194, .aload_n 0), (195, .getfield 33), (198, .iconst 3), (199, .invokevirtual 289), (202, .ireturn), (203, .aload_n 0), (204, .getfield 26), (207, .invokevirtual 292), (210, .ifCond .eq 7), (213, .iconst 1), (214, .goto 4), (217, .iconst 0), (218, .ireturn), (219, .aload_n 0), (220, .getfield 10), (223, .getfield 86), (226, .ireturn), (227, .aload_n 0), (228, .getfield 57), (231, .getfield 296), (234, .ireturn), (235, .aload_n 0), (236, .invokevirtual 299), (239, .ireturn), (240, .ldc 185), (242, .ireturn)]
def km_q116 : km_Q := (yX8_count, cX8_count, 2, (some .int), 8, 2, false, km_c116)
def km_c117 : List (Nat × Jvm.ClassFile.Instr) := [(0, .aload_n 0), (1, .getfield 33), (4, .aload_n 0), (5, .getfield 26), (8, .invokevirtual 259), (11, .aload_n 0), (12, .getfield 40), (15, .aload_n 0), (16, .getfield 26), (19, .invokevirtual 302), (22, .aload_n 0), (23, .iconst 0), (24, .putfield 305), (27, .aload_n 0), (28, .iconst 0), (29, .putfield 237), (32, .return_)]
def km_q117 : km_Q := (yX8_changed, cX8_changed, 1, none, 8, 1, false, km_c117)
def km_c118 : List (Nat × Jvm.ClassFile.Instr) := [(0, .iload_n 1), (1, .ifCond .lt 21), (4, .iload_n 1), (5, .iconst 3), (6, .if_icmp .ge 16), (9, .aload_n 0), (10, .getfield 65), (13, .iload_n 1), (14, .baload), (15, .ifCond .eq 7), (18, .iconst 1), (19, .goto 4), (22, .iconst 0), (23, .ireturn)]
def km_q118 : km_Q := (yX8_holds, cX8_holds, 2, (some .boolean), 8, 2, false, km_c118)
def km_c119 : List (Nat × Jvm.ClassFile.Instr) := [(0, .iconst 0), (1, .istore_n 1), (2, .iconst 0), (3, .istore_n 2), (4, .iload_n 2), (5, .iconst 3), (6, .if_icmp .ge 26), (9, .iload_n 1), (10, .aload_n 0), (11, .getfield 65), (14, .iload_n 2), (15, .baload), (16, .ifCond .eq 7), (19, .iconst 1), (20, .goto 4), (23, .iconst 0), (24, .iadd), (25, .istore_n 1), (26, .iinc 2 1), (29, .goto (-25)), (32, .iload_n 1), (33, .ireturn)]
def km_q119 : km_Q := (yX8_slotsHeld, cX8_slotsHeld, 3, (some .int), 8, 1, false, km_c119)
def km_c120 : List (Nat × Jvm.ClassFile.Instr) := [(0, .iload_n 1), (1, .ifCond .lt 26), (4, .iload_n 1), (5, .aload_n 0), (6, .getfield 33), (9, .getfield 202), (12, .if_icmp .ge 15), (15, .aload_n 0), (16, .getfield 33), (19, .getfield 208), (22, .iload_n 1), (23, .iaload), (24, .goto 4), (27, .iconst 0), (28, .ireturn)]
def km_q120 : km_Q := (yX8_kindOfFace, cX8_kindOfFace, 2, (some .int), 8, 2, false, km_c120)
def km_c121 : List (Nat × Jvm.ClassFile.Instr) := [(0, .aload_n 0), (1, .getfield 305), (4, .ifCond .ne 23), (7, .aload_n 0), (8, .getfield 47), (11, .aload_n 0), (12, .getfield 26), (15, .aload_n 0), (16, .getfield 33), (19, .invokevirtual 262), (22, .aload_n 0), (23, .iconst 1), (24, .putfield 305), (27, .aload_n 0), (28, .getfield 47), (31, .areturn)]
def km_q121 : km_Q := (yX8_ownBracket, cX8_ownBracket, 1, (some (.object "KnotRows$Bracket")), 8, 1, false, km_c121)
def km_c122 : List (Nat × Jvm.ClassFile.Instr) := [(0, .iconst 0), (1, .istore_n 1), (2, .iload_n 1), (3, .aload_n 0), (4, .getfield 26), (7, .getfield 126), (10, .if_icmp .gt 46), (13, .iconst 0), (14, .istore_n 2), (15, .iload_n 2), (16, .aload_n 0), (17, .getfield 26), (20, .invokevirtual 148), (23, .if_icmp .gt 27), (26, .iload_n 2), (27, .invokestatic 247), (30, .iload_n 1), (31, .if_icmp .ne 13), (34, .aload_n 0), (35, .iload_n 2), (36, .invokevirtual 308), (39, .ifCond .eq 5), (42, .iload_n 2), (43, .ireturn), (44, .iinc 2 1), (47, .goto (-32)), (50, .iinc 1 1), (53, .goto (-51)), (56, .bipush (-2)), (58, .ireturn)]
def km_q122 : km_Q := (yX8_fewestSwitches, cX8_fewestSwitches, 3, (some .int), 8, 1, false, km_c122)
def km_c123 : List (Nat × Jvm.ClassFile.Instr) := [(0, .aload_n 0), (1, .getfield 69), (4, .aload_n 0), (5, .getfield 26), (8, .invokevirtual 106), (11, .aload_n 0), (12, .getfield 69), (15, .iload_n 1), (16, .invokevirtual 151), (19, .aload_n 0), (20, .getfield 69), (23, .aload_n 0), (24, .getfield 72), (27, .invokevirtual 141), (30, .pop), (31, .aload_n 0), (32, .getfield 69), (35, .getfield 126), (38, .ifCond .ne 7), (41, .iconst 1), (42, .goto 4), (45, .iconst 0), (46, .ireturn)]
def km_q123 : km_Q := (yX8_comesLoose, cX8_comesLoose, 2, (some .boolean), 8, 2, false, km_c123)
def km_c124 : List (Nat × Jvm.ClassFile.Instr) := [(0, .aload_n 0), (1, .invokespecial 7), (4, .aload_n 0), (5, .sipush 2000), (8, .newarray .byte), (10, .putfield 13), (13, .aload_n 0), (14, .sipush 2000), (17, .newarray .byte), (19, .putfield 17), (22, .aload_n 0), (23, .sipush 403), (26, .newarray .int), (28, .putfield 20), (31, .aload_n 0), (32, .sipush 403), (35, .newarray .int), (37, .putfield 24), (40, .aload_n 0), (41, .sipush 403), (44, .newarray .int), (46, .putfield 27), (49, .aload_n 0), (50, .sipush 403), (53, .newarray .long), (55, .putfield 30), (58, .aload_n 0), (59, .iconst 4), (60, .newarray .long), (62, .putfield 34), (65, .aload_n 0), (66, .iconst (-1)), (67, .putfield 37), (70, .aload_n 0), (71, .bipush 78), (73, .newarray .int), (75, .putfield 40), (78, .aload_n 0), (79, .bipush 78), (81, .newarray .int), (83, .putfield 43), (86, .aload_n 0), (87, .bipush 8), (89, .newarray .int), (91, .putfield 46), (94, .aload_n 0), (95, .bipush 8), (97, .newarray .int), (99, .putfield 49), (102, .aload_n 0), (103, .bipush 8), (105, .newarray .int), (107, .putfield 52), (110, .aload_n 0), (111, .bipush 8), (113, .newarray .int), (115, .putfield 55), (118, .aload_n 0), (119, .bipush 16), (121, .newarray .int), (123, .putfield 58), (126, .aload_n 0), (127, .bipush 16), (129, .newarray .int), (131, .putfield 61), (134, .aload_n 0), (135, .bipush 16), (137, .newarray .int), (139, .putfield 64), (142, .aload_n 0), (143, .bipush 16), (145, .newarray .int), (147, .putfield 67), (150, .aload_n 0), (151, .bipush 32), (153, .newarray .int), (155, .putfield 70), (158, .aload_n 0), (159, .bipush 32), (161, .newarray .boolean), (163, .putfield 73), (166, .aload_n 0), (167, .bipush 32), (169, .newarray .int), (171, .putfield 77), (174, .aload_n 0), (175, .bipush 32), (177, .newarray .int), (179, .putfield 80), (182, .aload_n 0), (183, .bipush 32), (185, .newarray .boolean), (187, .putfield 83), (190, .aload_n 0), (191, .bipush 16), (193, .newarray .int), (195, .putfield 86), (198, .aload_n 0), (199, .sipush 3120), (202, .newarray .int), (204, .putfield 89), (207, .aload_n 0), (208, .sipush 234), (211, .newarray .int), (213, .putfield 92), (216, .aload_n 0), (217, .iconst 3), (218, .newarray .boolean), (220, .putfield 95), (223, .aload_n 0), (224, .bipush 78), (226, .newarray .int), (228, .putfield 98), (231, .aload_n 0), (232, .sipush 201), (235, .newarray .int), (237, .putfield 101), (240, .aload_n 0), (241, .sipush 201), (244, .newarray .int), (246, .putfield 104), (249, .aload_n 0), (250, .sipush 201), (253, .newarray .int), (255, .putfield 107), (258, .aload_n 0), (259, .sipush 201), (262, .newarray .int), (264, .putfield 110), (267, .aload_n 0), (268, .bipush 16), (270, .newarray .int), (272, .putfield 113), (275, .aload_n 0), (276, .bipush 96), (278, .newarray .long), (280, .putfield 116), (283, .aload_n 0), (284, .sipush 312), (287, .newarray .int), (289, .putfield 119), (292, .aload_n 0), (293, .iconst 4), (294, .newarray .int), (296, .putfield 122), (299, .aload_n 0), (300, .getfield 34), (303, .iconst 0), (304, .bipush 114), (306, .bipush 105), (308, .bipush 110), (310, .bipush 103), (312, .iconst 0), (313, .iconst 0), (314, .iconst 0), (315, .invokestatic 125), (318, .lastore), (319, .aload_n 0), (320, .getfield 34), (323, .iconst 1), (324, .bipush 111), (326, .bipush 118), (328, .bipush 101), (330, .bipush 114), (332, .iconst 0), (333, .iconst 0), (334, .iconst 0), (335, .invokestatic 125), (338, .lastore), (339, .aload_n 0), (340, .getfield 34), (343, .iconst 2), (344, .bipush 117), (346, .bipush 110), (348, .bipush 100), (350, .bipush 101), (352, .bipush 114), (354, .iconst 0), (355, .iconst 0), (356, .invokestatic 125), (359, .lastore), (360, .aload_n 0), (361, .getfield 34), (364, .iconst 3), (365, .bipush 98), (367, .bipush 114), (369, .bipush 97), (371, .bipush 105), (373, .bipush 100), (375, .iconst 0), (376, .iconst 0), (377, .invokestatic 125), (380, .lastore), (381, .return_)]
def km_q124 : km_Q := (yX9_init, cX9_init, 1, none, 9, 1, false, km_c124)
def km_c125 : List (Nat × Jvm.ClassFile.Instr) := [(0, .aload_n 0), (1, .getfield 129), (4, .bipush 20), (6, .iadd), (7, .sipush 2000), (10, .if_icmp .le 5), (13, .iconst (-1)), (14, .ireturn), (15, .aload_n 0), (16, .iload_n 1), (17, .invokevirtual 132), (20, .aload_n 0), (21, .iload_n 2), (22, .invokevirtual 132), (25, .aload_n 0), (26, .iload_n 3), (27, .invokevirtual 132), (30, .aload_n 0), (31, .iload 4), (33, .invokevirtual 132), (36, .aload_n 0), (37, .iload 5), (39, .invokevirtual 132), (42, .aload_n 0), (43, .getfield 129), (46, .ireturn)]
def km_q125 : km_Q := (yX9_feed, cX9_feed, 6, (some .int), 9, 6, false, km_c125)
def km_c126 : List (Nat × Jvm.ClassFile.Instr) := [(0, .bipush 24), (2, .istore_n 2), (3, .iload_n 2), (4, .ifCond .lt 32), (7, .aload_n 0), (8, .getfield 13), (11, .aload_n 0), (12, .getfield 129), (15, .iload_n 1), (16, .iload_n 2), (17, .ishr), (18, .i2b), (19, .bastore), (20, .aload_n 0), (21, .dup), (22, .getfield 129), (25, .iconst 1), (26, .iadd), (27, .putfield 129), (30, .iinc 2 (-8)), (33, .goto (-30)), (36, .return_)]
def km_q126 : km_Q := (yX9_lays, cX9_lays, 3, none, 9, 2, false, km_c126)
def km_c127 : List (Nat × Jvm.ClassFile.Instr) := [(0, .iload_n 1), (1, .ifCond .lt 11), (4, .iload_n 1), (5, .aload_n 0), (6, .getfield 129), (9, .if_icmp .le 5), (12, .iconst (-1)), (13, .ireturn), (14, .aload_n 0), (15, .dup), (16, .getfield 129), (19, .iload_n 1), (20, .isub), (21, .putfield 129), (24, .aload_n 0), (25, .getfield 129), (28, .ireturn)]
def km_q127 : km_Q := (yX9_back, cX9_back, 2, (some .int), 9, 2, false, km_c127)
def km_c128 : List (Nat × Jvm.ClassFile.Instr) := [(0, .iload_n 1), (1, .aload_n 0), (2, .getfield 136), (5, .if_icmp .ge 16), (8, .aload_n 0), (9, .getfield 17), (12, .iload_n 1), (13, .baload), (14, .sipush 255), (17, .iand), (18, .goto 4), (21, .iconst 0), (22, .ireturn)]
def km_q128 : km_Q := (yX9_byteAt, cX9_byteAt, 2, (some .int), 9, 2, false, km_c128)
def km_c129 : List (Nat × Jvm.ClassFile.Instr) := [(0, .iload_n 0), (1, .bipush 48), (3, .if_icmp .lt 13), (6, .iload_n 0), (7, .bipush 57), (9, .if_icmp .gt 7), (12, .iconst 1), (13, .goto 4), (16, .iconst 0), (17, .ireturn)]
def km_q129 : km_Q := (yX9_isDigit, cX9_isDigit, 1, (some .boolean), 9, 1, true, km_c129)
def km_c130 : List (Nat × Jvm.ClassFile.Instr) := [(0, .iload_n 0), (1, .bipush 97), (3, .if_icmp .lt 13), (6, .iload_n 0), (7, .bipush 122), (9, .if_icmp .gt 7), (12, .iconst 1), (13, .goto 4), (16, .iconst 0), (17, .ireturn)]
def km_q130 : km_Q := (yX9_isLetter, cX9_isLetter, 1, (some .boolean), 9, 1, true, km_c130)
def km_c131 : List (Nat × Jvm.ClassFile.Instr) := [(0, .iload_n 2), (1, .ifCond .ne 7), (4, .lload_n 0), (5, .goto 16), (8, .ldc2_w 139), (11, .lload_n 0), (12, .lmul), (13, .iload_n 2), (14, .bipush 97), (16, .isub), (17, .iconst 1), (18, .iadd), (19, .i2l), (20, .ladd), (21, .lreturn)]
def km_q131 : km_Q := (yX9_appends, cX9_appends, 3, (some .long), 9, 2, true, km_c131)
def km_c132 : List (Nat × Jvm.ClassFile.Instr) := [(0, .lconst 0), (1, .iload_n 0), (2, .invokestatic 141), (5, .iload_n 1), (6, .invokestatic 141), (9, .iload_n 2), (10, .invokestatic 141), (13, .iload_n 3), (14, .invokestatic 141), (17, .iload 4), (19, .invokestatic 141), (22, .iload 5), (24, .invokestatic 141), (27, .iload 6), (29, .invokestatic 141), (32, .lreturn)]
def km_q132 : km_Q := (yX9_letters, cX9_letters, 7, (some .long), 9, 7, true, km_c132)
def km_c133 : List (Nat × Jvm.ClassFile.Instr) := [(0, .aload_n 0), (1, .getfield 20), (4, .aload_n 0), (5, .getfield 145), (8, .iload_n 1), (9, .iastore), (10, .aload_n 0), (11, .getfield 24), (14, .aload_n 0), (15, .getfield 145), (18, .iload_n 2), (19, .iastore), (20, .aload_n 0), (21, .getfield 27), (24, .aload_n 0), (25, .getfield 145), (28, .iload_n 3), (29, .iastore), (30, .aload_n 0), (31, .getfield 30), (34, .aload_n 0), (35, .getfield 145), (38, .lload 4), (40, .lastore), (41, .aload_n 0), (42, .dup), (43, .getfield 145), (46, .iconst 1), (47, .iadd), (48, .putfield 145), (51, .return_)]
def km_q133 : km_Q := (yX9_token, cX9_token, 6, none, 9, 5, false, km_c133)
def km_c134 : List (Nat × Jvm.ClassFile.Instr) := [(0, .aload_n 0), (1, .iconst 0), (2, .putfield 145), (5, .iconst 0), (6, .istore_n 1), (7, .aload_n 0), (8, .getfield 145), (11, .sipush 400), (14, .if_icmp .gt 272), (17, .aload_n 0), (18, .iload_n 1), (19, .invokevirtual 148), (22, .istore_n 2), (23, .iload_n 1), (24, .aload_n 0), (25, .getfield 136), (28, .if_icmp .lt 15), (31, .aload_n 0), (32, .iconst 0), (33, .aload_n 0), (34, .getfield 136), (37, .iconst 0), (38, .lconst 0), (39, .invokevirtual 152), (42, .return_), (43, .iload_n 2), (44, .bipush 9), (46, .if_icmp .eq 21), (49, .iload_n 2), (50, .bipush 10), (52, .if_icmp .eq 15), (55, .iload_n 2), (56, .bipush 13), (58, .if_icmp .eq 9), (61, .iload_n 2), (62, .bipush 32), (64, .if_icmp .ne 9), (67, .iinc 1 1), (70, .goto 213), (73, .iload_n 2), (74, .invokestatic 156), (77, .ifCond .eq 118), (80, .iconst 0), (81, .istore_n 3), (82, .lconst 0), (83, .lstore 4), (85, .aload_n 0), (86, .iload_n 1), (87, .iload_n 3), (88, .iadd), (89, .invokevirtual 148), (92, .invokestatic 156), (95, .ifCond .eq 29), (98, .iload_n 3), (99, .bipush 8), (101, .if_icmp .ge 17), (104, .lload 4), (106, .aload_n 0), (107, .iload_n 1), (108, .iload_n 3), (109, .iadd), (110, .invokevirtual 148), (113, .invokestatic 141), (116, .lstore 4), (118, .iinc 3 1), (121, .goto (-36)), (124, .iload_n 3), (125, .bipush 8), (127, .if_icmp .le 7), (130, .iconst 3), (131, .goto 4), (134, .iconst 1), (135, .istore 6), (137, .iload_n 3), (138, .bipush 8), (140, .if_icmp .gt 38), (143, .iconst 0), (144, .istore 7), (146, .iload 7), (148, .iconst 4), (149, .if_icmp .ge 29), (152, .aload_n 0), (153, .getfield 34), (156, .iload 7), (158, .laload), (159, .lload 4), (161, .lcmp), (162, .ifCond .ne 10), (165, .bipush 20), (167, .iload 7), (169, .iadd), (170, .istore 6), (172, .iinc 7 1), (175, .goto (-29)), (178, .aload_n 0), (179, .iload 6), (181, .iload_n 1), (182, .iconst 0), (183, .lload 4), (185, .invokevirtual 152), (188, .iload_n 1), (189, .iload_n 3), (190, .iadd), (191, .istore_n 1), (192, .goto 91), (195, .iload_n 2), (196, .invokestatic 160), (199, .ifCond .eq 75), (202, .iconst 0), (203, .istore_n 3), (204, .iconst 0), (205, .istore 4), (207, .aload_n 0), (208, .iload_n 1), (209, .iload_n 3), (210, .iadd), (211, .invokevirtual 148), (214, .invokestatic 160), (217, .ifCond .eq 32), (220, .iload_n 3), (221, .iconst 4), (222, .if_icmp .ge 21), (225, .bipush 10), (227, .iload 4), (229, .imul), (230, .aload_n 0), (231, .iload_n 1), (232, .iload_n 3), (233, .iadd), (234, .invokevirtual 148), (237, .iadd), (238, .bipush 48), (240, .isub), (241, .istore 4), (243, .iinc 3 1), (246, .goto (-39)), (249, .aload_n 0), (250, .iload_n 3), (251, .iconst 4), (252, .if_icmp .le 7), (255, .iconst 3), (256, .goto 4), (259, .iconst 2), (260, .iload_n 1), (261, .iload 4), (263, .lconst 0), (264, .invokevirtual 152), (267, .iload_n 1), (268, .iload_n 3), (269, .iadd), (270, .istore_n 1), (271, .goto 12), (274, .iload_n 1), (275, .aload_n 0), (276, .iload_n 1), (277, .iload_n 2), (278, .invokevirtual 163), (281, .iadd), (282, .istore_n 1), (283, .goto (-276)), (286, .return_)]
def km_q134 : km_Q := (yX9_cutsText, cX9_cutsText, 8, none, 9, 1, false, km_c134)
def km_c135 : List (Nat × Jvm.ClassFile.Instr) := [(0, .aload_n 0), (1, .iload_n 2), (2, .bipush 59), (4, .if_icmp .ne 7), (7, .iconst 4), (8, .goto 25), (11, .iload_n 2), (12, .bipush 43), (14, .if_icmp .ne 7), (17, .iconst 5), (18, .goto 15), (21, .iload_n 2), (22, .bipush 45), (24, .if_icmp .ne 8), (27, .bipush 6), (29, .goto 4), (32, .iconst 3), (33, .iload_n 1), (34, .iconst 0), (35, .lconst 0), (36, .invokevirtual 152), (39, .iconst 1), (40, .ireturn)]
def km_q135 : km_Q := (yX9_sign, cX9_sign, 3, (some .int), 9, 3, false, km_c135)
def km_c136 : List (Nat × Jvm.ClassFile.Instr) := [(0, .aload_n 0), (1, .getfield 167), (4, .ifCond .ne 20), (7, .aload_n 0), (8, .getfield 20), (11, .aload_n 0), (12, .getfield 170), (15, .iaload), (16, .iload_n 1), (17, .if_icmp .ne 7), (20, .iconst 1), (21, .goto 4), (24, .iconst 0), (25, .ireturn)]
def km_q136 : km_Q := (yX9_is, cX9_is, 2, (some .boolean), 9, 2, false, km_c136)
def km_c137 : List (Nat × Jvm.ClassFile.Instr) := [(0, .aload_n 0), (1, .getfield 167), (4, .ifCond .le 4), (7, .return_), (8, .aload_n 0), (9, .iload_n 1), (10, .putfield 167), (13, .aload_n 0), (14, .aload_n 0), (15, .getfield 24), (18, .aload_n 0), (19, .getfield 170), (22, .iaload), (23, .putfield 173), (26, .return_)]
def km_q137 : km_Q := (yX9_fail, cX9_fail, 2, none, 9, 2, false, km_c137)
def km_c138 : List (Nat × Jvm.ClassFile.Instr) := [(0, .aload_n 0), (1, .getfield 24), (4, .iload_n 2), (5, .iaload), (6, .istore_n 3), (7, .aload_n 0), (8, .getfield 167), (11, .ifCond .gt 34), (14, .aload_n 0), (15, .getfield 176), (18, .ifCond .eq 28), (21, .iload_n 3), (22, .aload_n 0), (23, .getfield 179), (26, .if_icmp .gt 19), (29, .iload_n 3), (30, .aload_n 0), (31, .getfield 179), (34, .if_icmp .ne 12), (37, .iload_n 1), (38, .aload_n 0), (39, .getfield 176), (42, .if_icmp .lt 4), (45, .return_), (46, .aload_n 0), (47, .iload_n 1), (48, .putfield 176), (51, .aload_n 0), (52, .iload_n 3), (53, .putfield 179), (56, .return_)]
def km_q138 : km_Q := (yX9_wrong, cX9_wrong, 4, none, 9, 3, false, km_c138)
def km_c139 : List (Nat × Jvm.ClassFile.Instr) := [(0, .aload_n 0), (1, .getfield 170), (4, .sipush 400), (7, .if_icmp .ne 11), (10, .aload_n 0), (11, .iconst 2), (12, .invokevirtual 182), (15, .goto 13), (18, .aload_n 0), (19, .dup), (20, .getfield 170), (23, .iconst 1), (24, .iadd), (25, .putfield 170), (28, .return_)]
def km_q139 : km_Q := (yX9_passes, cX9_passes, 1, none, 9, 1, false, km_c139)
def km_c140 : List (Nat × Jvm.ClassFile.Instr) := [(0, .aload_n 0), (1, .iload_n 1), (2, .invokevirtual 185), (5, .ifCond .eq 10), (8, .aload_n 0), (9, .invokevirtual 188), (12, .goto 8), (15, .aload_n 0), (16, .iconst 1), (17, .invokevirtual 182), (20, .return_)]
def km_q140 : km_Q := (yX9_must, cX9_must, 2, none, 9, 2, false, km_c140)
def km_c141 : List (Nat × Jvm.ClassFile.Instr) := [(0, .aload_n 0), (1, .aload_n 0), (2, .getfield 129), (5, .putfield 136), (8, .iconst 0), (9, .istore_n 1), (10, .iload_n 1), (11, .aload_n 0), (12, .getfield 136), (15, .if_icmp .ge 21), (18, .aload_n 0), (19, .getfield 17), (22, .iload_n 1), (23, .aload_n 0), (24, .getfield 13), (27, .iload_n 1), (28, .baload), (29, .bastore), (30, .iinc 1 1), (33, .goto (-23)), (36, .aload_n 0), (37, .iconst 0), (38, .putfield 129), (41, .aload_n 0), (42, .invokevirtual 191), (45, .aload_n 0), (46, .iconst 0), (47, .putfield 170), (50, .aload_n 0), (51, .iconst 0), (52, .putfield 167), (55, .aload_n 0), (56, .iconst 0), (57, .putfield 176), (60, .aload_n 0), (61, .iconst 0), (62, .putfield 194), (65, .aload_n 0), (66, .iconst 0), (67, .putfield 197), (70, .aload_n 0), (71, .bipush 23), (73, .invokevirtual 185), (76, .ifCond .eq 10), (79, .aload_n 0), (80, .invokevirtual 200), (83, .goto 25), (86, .aload_n 0), (87, .getfield 167), (90, .ifCond .ne 18), (93, .aload_n 0), (94, .iconst 0), (95, .invokevirtual 185), (98, .ifCond .ne 10), (101, .aload_n 0), (102, .invokevirtual 203), (105, .goto (-19)), (108, .iconst 0), (109, .istore_n 1), (110, .iload_n 1), (111, .bipush 78), (113, .if_icmp .ge 16), (116, .aload_n 0), (117, .getfield 43), (120, .iload_n 1), (121, .iconst 0), (122, .iastore), (123, .iinc 1 1), (126, .goto (-16)), (129, .aload_n 0), (130, .getfield 167), (133, .ifCond .ne 7), (136, .aload_n 0), (137, .invokevirtual 206), (140, .aload_n 0), (141, .aload_n 0), (142, .getfield 167), (145, .ifCond .le 10), (148, .aload_n 0), (149, .getfield 173), (152, .goto 18), (155, .aload_n 0), (156, .getfield 176), (159, .ifCond .le 10), (162, .aload_n 0), (163, .getfield 179), (166, .goto 4), (169, .iconst (-1)), (170, .putfield 37), (173, .aload_n 0), (174, .getfield 167), (177, .ifCond .le 8), (180, .aload_n 0), (181, .getfield 167), (184, .ireturn), (185, .aload_n 0), (186, .getfield 176), (189, .ifCond .le 8), (192, .aload_n 0), (193, .getfield 176), (196, .ireturn), (197, .aload_n 0), (198, .getfield 43), (201, .aload_n 0), (202, .getfield 40), (205, .invokestatic 209), (208, .aload_n 0), (209, .iconst 0), (210, .putfield 213), (213, .iconst 0), (214, .istore_n 1), (215, .iload_n 1), (216, .iconst 3), (217, .if_icmp .ge 16), (220, .aload_n 0), (221, .getfield 95), (224, .iload_n 1), (225, .iconst 0), (226, .bastore), (227, .iinc 1 1), (230, .goto (-15)), (233, .iconst 0), (234, .ireturn)]
def km_q141 : km_Q := (yX9_read, cX9_read, 2, (some .int), 9, 1, false, km_c141)
def km_c142 : List (Nat × Jvm.ClassFile.Instr) := [(0, .aload_n 0), (1, .getfield 37), (4, .ireturn)]
def km_q142 : km_Q := (yX9_place, cX9_place, 1, (some .int), 9, 1, false, km_c142)
def km_c143 : List (Nat × Jvm.ClassFile.Instr) := [(0, .aload_n 0), (1, .invokevirtual 188), (4, .aload_n 0), (5, .iconst 2), (6, .invokevirtual 216), (9, .iconst 0), (10, .istore_n 1), (11, .aload_n 0), (12, .iconst 2), (13, .invokevirtual 185), (16, .ifCond .ne 12), (19, .aload_n 0), (20, .bipush 6), (22, .invokevirtual 185), (25, .ifCond .eq 39), (28, .iload_n 1), (29, .bipush 8), (31, .if_icmp .ne 9), (34, .aload_n 0), (35, .iconst 2), (36, .invokevirtual 182), (39, .return_), (40, .aload_n 0), (41, .bipush 6), (43, .invokevirtual 185), (46, .ifCond .eq 7), (49, .aload_n 0), (50, .invokevirtual 188), (53, .aload_n 0), (54, .iconst 2), (55, .invokevirtual 216), (58, .iinc 1 1), (61, .goto (-50)), (64, .aload_n 0), (65, .iconst 4), (66, .invokevirtual 216), (69, .aload_n 0), (70, .getfield 167), (73, .ifCond .ne 16), (76, .aload_n 0), (77, .iconst 0), (78, .invokevirtual 185), (81, .ifCond .ne 8), (84, .aload_n 0), (85, .iconst 1), (86, .invokevirtual 182), (89, .return_)]
def km_q143 : km_Q := (yX9_tellBraid, cX9_tellBraid, 2, none, 9, 1, false, km_c143)
def km_c144 : List (Nat × Jvm.ClassFile.Instr) := [(0, .aload_n 0), (1, .bipush 20), (3, .invokevirtual 185), (6, .ifCond .ne 9), (9, .aload_n 0), (10, .iconst 1), (11, .invokevirtual 182), (14, .return_), (15, .aload_n 0), (16, .getfield 197), (19, .iconst 4), (20, .if_icmp .ne 9), (23, .aload_n 0), (24, .iconst 2), (25, .invokevirtual 182), (28, .return_), (29, .aload_n 0), (30, .dup), (31, .getfield 197), (34, .iconst 1), (35, .iadd), (36, .putfield 197), (39, .aload_n 0), (40, .invokevirtual 188), (43, .aload_n 0), (44, .bipush 21), (46, .invokevirtual 185), (49, .ifCond .ne 12), (52, .aload_n 0), (53, .bipush 22), (55, .invokevirtual 185), (58, .ifCond .eq 65), (61, .aload_n 0), (62, .invokevirtual 188), (65, .aload_n 0), (66, .iconst 2), (67, .invokevirtual 185), (70, .ifCond .eq 16), (73, .aload_n 0), (74, .aload_n 0), (75, .getfield 27), (78, .aload_n 0), (79, .getfield 170), (82, .iaload), (83, .invokevirtual 219), (86, .aload_n 0), (87, .iconst 2), (88, .invokevirtual 216), (91, .aload_n 0), (92, .iconst 5), (93, .invokevirtual 185), (96, .ifCond .ne 12), (99, .aload_n 0), (100, .bipush 6), (102, .invokevirtual 185), (105, .ifCond .eq 10), (108, .aload_n 0), (109, .invokevirtual 188), (112, .goto (-69)), (115, .aload_n 0), (116, .iconst 1), (117, .invokevirtual 182), (120, .goto (-77)), (123, .aload_n 0), (124, .iconst 4), (125, .invokevirtual 216), (128, .return_)]
def km_q144 : km_Q := (yX9_tellRing, cX9_tellRing, 1, none, 9, 1, false, km_c144)
def km_c145 : List (Nat × Jvm.ClassFile.Instr) := [(0, .iconst 0), (1, .istore_n 2), (2, .iload_n 2), (3, .aload_n 0), (4, .getfield 194), (7, .if_icmp .ge 21), (10, .aload_n 0), (11, .getfield 46), (14, .iload_n 2), (15, .iaload), (16, .iload_n 1), (17, .if_icmp .ne 5), (20, .iload_n 2), (21, .ireturn), (22, .iinc 2 1), (25, .goto (-23)), (28, .iconst (-1)), (29, .ireturn)]
def km_q145 : km_Q := (yX9_unlikeAt, cX9_unlikeAt, 3, (some .int), 9, 2, false, km_c145)
def km_c146 : List (Nat × Jvm.ClassFile.Instr) := [(0, .aload_n 0), (1, .iload_n 1), (2, .invokevirtual 222), (5, .ifCond .lt 4), (8, .return_), (9, .aload_n 0), (10, .getfield 194), (13, .bipush 8), (15, .if_icmp .ne 9), (18, .aload_n 0), (19, .iconst 2), (20, .invokevirtual 182), (23, .return_), (24, .aload_n 0), (25, .getfield 46), (28, .aload_n 0), (29, .getfield 194), (32, .iload_n 1), (33, .iastore), (34, .aload_n 0), (35, .dup), (36, .getfield 194), (39, .iconst 1), (40, .iadd), (41, .putfield 194), (44, .return_)]
def km_q146 : km_Q := (yX9_meets, cX9_meets, 2, none, 9, 2, false, km_c146)
def km_c147 : List (Nat × Jvm.ClassFile.Instr) := [(0, .aload_n 0), (1, .getfield 20), (4, .iconst 0), (5, .iaload), (6, .bipush 23), (8, .if_icmp .ne 8), (11, .aload_n 0), (12, .invokevirtual 225), (15, .return_), (16, .aload_n 0), (17, .invokevirtual 228), (20, .aload_n 0), (21, .getfield 176), (24, .ifCond .ne 7), (27, .aload_n 0), (28, .invokevirtual 231), (31, .aload_n 0), (32, .getfield 176), (35, .ifCond .ne 28), (38, .aload_n 0), (39, .aload_n 0), (40, .getfield 43), (43, .invokevirtual 234), (46, .ifCond .ne 17), (49, .aload_n 0), (50, .bipush 6), (52, .putfield 176), (55, .aload_n 0), (56, .aload_n 0), (57, .getfield 136), (60, .putfield 179), (63, .return_)]
def km_q147 : km_Q := (yX9_means, cX9_means, 1, none, 9, 1, false, km_c147)
def km_c148 : List (Nat × Jvm.ClassFile.Instr) := [(0, .aload_n 0), (1, .getfield 43), (4, .iconst 1), (5, .aload_n 0), (6, .getfield 194), (9, .iastore), (10, .iconst 0), (11, .istore_n 1), (12, .iload_n 1), (13, .bipush 8), (15, .if_icmp .ge 16), (18, .aload_n 0), (19, .getfield 49), (22, .iload_n 1), (23, .iconst 0), (24, .iastore), (25, .iinc 1 1), (28, .goto (-16)), (31, .iconst (-1)), (32, .istore_n 1), (33, .iconst 0), (34, .istore_n 2), (35, .iload_n 2), (36, .aload_n 0), (37, .getfield 145), (40, .if_icmp .ge 213), (43, .aload_n 0), (44, .getfield 20), (47, .iload_n 2), (48, .iaload), (49, .bipush 20), (51, .if_icmp .ne 6), (54, .iinc 1 1), (57, .aload_n 0), (58, .getfield 20), (61, .iload_n 2), (62, .iaload), (63, .iconst 2), (64, .if_icmp .eq 6), (67, .goto 180), (70, .aload_n 0), (71, .aload_n 0), (72, .getfield 27), (75, .iload_n 2), (76, .iaload), (77, .invokevirtual 222), (80, .istore_n 3), (81, .aload_n 0), (82, .getfield 20), (85, .iload_n 2), (86, .iconst 1), (87, .isub), (88, .iaload), (89, .bipush 21), (91, .if_icmp .ne 7), (94, .iconst 1), (95, .goto 4), (98, .iconst 0), (99, .istore 4), (101, .aload_n 0), (102, .getfield 20), (105, .iload_n 2), (106, .iconst 1), (107, .iadd), (108, .iaload), (109, .iconst 5), (110, .if_icmp .ne 7), (113, .iconst 1), (114, .goto 4), (117, .iconst (-1)), (118, .istore 5), (120, .aload_n 0), (121, .getfield 27), (124, .iload_n 2), (125, .iaload), (126, .bipush 99), (128, .if_icmp .le 9), (131, .aload_n 0), (132, .iconst 5), (133, .iload_n 2), (134, .invokevirtual 238), (137, .aload_n 0), (138, .getfield 49), (141, .iload_n 3), (142, .iaload), (143, .iconst 1), (144, .if_icmp .gt 38), (147, .aload_n 0), (148, .getfield 49), (151, .iload_n 3), (152, .iaload), (153, .iconst 1), (154, .if_icmp .ne 34), (157, .aload_n 0), (158, .getfield 52), (161, .iload_n 3), (162, .iaload), (163, .iload 4), (165, .if_icmp .eq 17), (168, .aload_n 0), (169, .getfield 43), (172, .bipush 70), (174, .iload_n 3), (175, .iadd), (176, .iaload), (177, .iload 5), (179, .if_icmp .eq 9), (182, .aload_n 0), (183, .iconst 3), (184, .iload_n 2), (185, .invokevirtual 238), (188, .aload_n 0), (189, .getfield 49), (192, .iload_n 3), (193, .iaload), (194, .ifCond .ne 22), (197, .aload_n 0), (198, .getfield 52), (201, .iload_n 3), (202, .iload 4), (204, .iastore), (205, .aload_n 0), (206, .getfield 43), (209, .bipush 70), (211, .iload_n 3), (212, .iadd), (213, .iload 5), (215, .iastore), (216, .aload_n 0), (217, .getfield 49), (220, .iload_n 3), (221, .dup2), (222, .iaload), (223, .iconst 1), (224, .iadd), (225, .iastore), (226, .aload_n 0), (227, .getfield 176), (230, .ifCond .ne 17), (233, .aload_n 0), (234, .getfield 43), (237, .iload_n 1), (238, .iconst 2), (239, .iload_n 3), (240, .imul), (241, .iload 4), (243, .iadd), (244, .invokestatic 242), (247, .iinc 2 1), (250, .goto (-215)), (253, .aload_n 0), (254, .getfield 43), (257, .iconst 0), (258, .iload_n 1), (259, .iconst 1), (260, .iadd), (261, .iastore), (262, .return_)]
def km_q148 : km_Q := (yX9_meansRings, cX9_meansRings, 6, none, 9, 1, false, km_c148)
def km_c149 : List (Nat × Jvm.ClassFile.Instr) := [(0, .aload_n 0), (1, .bipush 6), (3, .bipush 16), (5, .iload_n 1), (6, .imul), (7, .iadd), (8, .aload_n 0), (9, .iconst 2), (10, .iload_n 1), (11, .iadd), (12, .iaload), (13, .iadd), (14, .iload_n 2), (15, .iastore), (16, .aload_n 0), (17, .iconst 2), (18, .iload_n 1), (19, .iadd), (20, .dup2), (21, .iaload), (22, .iconst 1), (23, .iadd), (24, .iastore), (25, .return_)]
def km_q149 : km_Q := (yX9_adds, cX9_adds, 3, none, 9, 3, true, km_c149)
def km_c150 : List (Nat × Jvm.ClassFile.Instr) := [(0, .iconst 0), (1, .istore_n 1), (2, .iload_n 1), (3, .aload_n 0), (4, .getfield 145), (7, .if_icmp .ge 44), (10, .aload_n 0), (11, .getfield 20), (14, .iload_n 1), (15, .iaload), (16, .iconst 2), (17, .if_icmp .ne 28), (20, .aload_n 0), (21, .getfield 49), (24, .aload_n 0), (25, .aload_n 0), (26, .getfield 27), (29, .iload_n 1), (30, .iaload), (31, .invokevirtual 222), (34, .iaload), (35, .iconst 1), (36, .if_icmp .ne 9), (39, .aload_n 0), (40, .iconst 4), (41, .iload_n 1), (42, .invokevirtual 238), (45, .iinc 1 1), (48, .goto (-46)), (51, .return_)]
def km_q150 : km_Q := (yX9_lacks, cX9_lacks, 2, none, 9, 1, false, km_c150)
def km_c151 : List (Nat × Jvm.ClassFile.Instr) := [(0, .aload_n 0), (1, .getfield 27), (4, .iconst 1), (5, .iaload), (6, .istore_n 1), (7, .iload_n 1), (8, .iconst 2), (9, .iconst 4), (10, .invokestatic 246), (13, .ifCond .ne 10), (16, .aload_n 0), (17, .iconst 5), (18, .iconst 1), (19, .invokevirtual 238), (22, .return_), (23, .iconst 0), (24, .istore_n 2), (25, .iconst 2), (26, .istore_n 3), (27, .aload_n 0), (28, .getfield 20), (31, .iload_n 3), (32, .iaload), (33, .iconst 4), (34, .if_icmp .eq 88), (37, .aload_n 0), (38, .getfield 20), (41, .iload_n 3), (42, .iaload), (43, .iconst 2), (44, .if_icmp .eq 6), (47, .goto 69), (50, .aload_n 0), (51, .getfield 27), (54, .iload_n 3), (55, .iaload), (56, .iconst 1), (57, .iload_n 1), (58, .iconst 1), (59, .isub), (60, .invokestatic 246), (63, .ifCond .ne 9), (66, .aload_n 0), (67, .iconst 5), (68, .iload_n 3), (69, .invokevirtual 238), (72, .aload_n 0), (73, .getfield 55), (76, .iload_n 2), (77, .aload_n 0), (78, .getfield 27), (81, .iload_n 3), (82, .iaload), (83, .iconst 1), (84, .isub), (85, .iastore), (86, .aload_n 0), (87, .getfield 43), (90, .bipush 70), (92, .iload_n 2), (93, .iadd), (94, .aload_n 0), (95, .getfield 20), (98, .iload_n 3), (99, .iconst 1), (100, .isub), (101, .iaload), (102, .bipush 6), (104, .if_icmp .ne 7), (107, .iconst (-1)), (108, .goto 4), (111, .iconst 1), (112, .iastore), (113, .iinc 2 1), (116, .iinc 3 1), (119, .goto (-92)), (122, .aload_n 0), (123, .getfield 43), (126, .iconst 1), (127, .iload_n 2), (128, .iastore), (129, .aload_n 0), (130, .getfield 176), (133, .ifCond .le 4), (136, .return_), (137, .iconst 0), (138, .istore_n 3), (139, .iconst 0), (140, .istore 4), (142, .iload 4), (144, .iload_n 1), (145, .if_icmp .ge 63), (148, .iload_n 3), (149, .iload 4), (151, .invokestatic 250), (154, .ifCond .eq 6), (157, .goto 45), (160, .iload 4), (162, .istore 5), (164, .iload_n 3), (165, .iload 5), (167, .invokestatic 250), (170, .ifCond .ne 22), (173, .iload_n 3), (174, .iconst 1), (175, .iload 5), (177, .ishl), (178, .ior), (179, .istore_n 3), (180, .aload_n 0), (181, .iload 5), (183, .iload_n 2), (184, .invokevirtual 254), (187, .istore 5), (189, .goto (-25)), (192, .aload_n 0), (193, .getfield 43), (196, .iconst 0), (197, .dup2), (198, .iaload), (199, .iconst 1), (200, .iadd), (201, .iastore), (202, .iinc 4 1), (205, .goto (-63)), (208, .return_)]
def km_q151 : km_Q := (yX9_meansBraid, cX9_meansBraid, 6, none, 9, 1, false, km_c151)
def km_c152 : List (Nat × Jvm.ClassFile.Instr) := [(0, .iload_n 1), (1, .istore_n 3), (2, .iconst 0), (3, .istore 4), (5, .iload 4), (7, .iload_n 2), (8, .if_icmp .ge 126), (11, .iload_n 3), (12, .aload_n 0), (13, .getfield 55), (16, .iload 4), (18, .iaload), (19, .if_icmp .eq 19), (22, .iload_n 3), (23, .aload_n 0), (24, .getfield 55), (27, .iload 4), (29, .iaload), (30, .iconst 1), (31, .iadd), (32, .if_icmp .eq 6), (35, .goto 93), (38, .iload_n 3), (39, .aload_n 0), (40, .getfield 55), (43, .iload 4), (45, .iaload), (46, .if_icmp .ne 7), (49, .iconst 1), (50, .goto 4), (53, .iconst 0), (54, .istore 5), (56, .iload 5), (58, .aload_n 0), (59, .getfield 43), (62, .bipush 70), (64, .iload 4), (66, .iadd), (67, .iaload), (68, .iconst 1), (69, .if_icmp .ne 7), (72, .iconst 1), (73, .goto 4), (76, .iconst 0), (77, .if_icmp .ne 7), (80, .iconst 1), (81, .goto 4), (84, .iconst 0), (85, .istore 6), (87, .aload_n 0), (88, .getfield 43), (91, .aload_n 0), (92, .getfield 43), (95, .iconst 0), (96, .iaload), (97, .iconst 2), (98, .iload 4), (100, .imul), (101, .iload 6), (103, .ifCond .eq 7), (106, .iconst 1), (107, .goto 4), (110, .iconst 0), (111, .iadd), (112, .invokestatic 242), (115, .iload_n 3), (116, .iload 5), (118, .ifCond .eq 7), (121, .iconst 1), (122, .goto 4), (125, .iconst (-1)), (126, .iadd), (127, .istore_n 3), (128, .iinc 4 1), (131, .goto (-126)), (134, .iload_n 3), (135, .ireturn)]
def km_q152 : km_Q := (yX9_goesDown, cX9_goesDown, 7, (some .int), 9, 3, false, km_c152)
def km_c153 : List (Nat × Jvm.ClassFile.Instr) := [(0, .iload_n 0), (1, .iload_n 1), (2, .if_icmp .lt 12), (5, .iload_n 0), (6, .iload_n 2), (7, .if_icmp .gt 7), (10, .iconst 1), (11, .goto 4), (14, .iconst 0), (15, .ireturn)]
def km_q153 : km_Q := (yX9_in, cX9_in, 3, (some .boolean), 9, 3, true, km_c153)
def km_c154 : List (Nat × Jvm.ClassFile.Instr) := [(0, .iload_n 0), (1, .iload_n 1), (2, .ishr), (3, .iconst 1), (4, .iand), (5, .iconst 1), (6, .if_icmp .ne 7), (9, .iconst 1), (10, .goto 4), (13, .iconst 0), (14, .ireturn)]
def km_q154 : km_Q := (yX9_has, cX9_has, 2, (some .boolean), 9, 2, true, km_c154)
def km_c155 : List (Nat × Jvm.ClassFile.Instr) := [(0, .iconst 0), (1, .istore_n 1), (2, .iload_n 0), (3, .istore_n 2), (4, .iload_n 2), (5, .ifCond .le 16), (8, .iload_n 1), (9, .iload_n 2), (10, .iconst 1), (11, .iand), (12, .iadd), (13, .istore_n 1), (14, .iload_n 2), (15, .iconst 1), (16, .ishr), (17, .istore_n 2), (18, .goto (-14)), (21, .iload_n 1), (22, .ireturn)]
def km_q155 : km_Q := (yX9_bitsOf, cX9_bitsOf, 3, (some .int), 9, 1, true, km_c155)
def km_c156 : List (Nat × Jvm.ClassFile.Instr) := [(0, .iconst 0), (1, .istore_n 2), (2, .iload_n 2), (3, .bipush 78), (5, .if_icmp .ge 15), (8, .aload_n 1), (9, .iload_n 2), (10, .aload_n 0), (11, .iload_n 2), (12, .iaload), (13, .iastore), (14, .iinc 2 1), (17, .goto (-15)), (20, .return_)]
def km_q156 : km_Q := (yX9_copies, cX9_copies, 3, none, 9, 2, true, km_c156)
def km_c157 : List (Nat × Jvm.ClassFile.Instr) := [(0, .aload_n 0), (1, .iconst 0), (2, .putfield 257), (5, .iconst 0), (6, .istore_n 2), (7, .iload_n 2), (8, .aload_n 1), (9, .iconst 0), (10, .iaload), (11, .if_icmp .ge 117), (14, .aload_n 0), (15, .getfield 257), (18, .istore_n 3), (19, .aload_n 1), (20, .iconst 2), (21, .iload_n 2), (22, .iadd), (23, .iaload), (24, .istore 4), (26, .iconst 0), (27, .istore 5), (29, .iload 5), (31, .iload 4), (33, .if_icmp .ge 89), (36, .aload_n 0), (37, .getfield 58), (40, .aload_n 0), (41, .getfield 257), (44, .aload_n 1), (45, .bipush 6), (47, .bipush 16), (49, .iload_n 2), (50, .imul), (51, .iadd), (52, .iload 5), (54, .iadd), (55, .iaload), (56, .iastore), (57, .aload_n 0), (58, .getfield 61), (61, .aload_n 0), (62, .getfield 257), (65, .iload_n 2), (66, .iastore), (67, .aload_n 0), (68, .getfield 64), (71, .aload_n 0), (72, .getfield 257), (75, .iload_n 3), (76, .iload 5), (78, .iconst 1), (79, .iadd), (80, .iload 4), (82, .irem), (83, .iadd), (84, .iastore), (85, .aload_n 0), (86, .getfield 67), (89, .aload_n 0), (90, .getfield 257), (93, .iload_n 3), (94, .iload 5), (96, .iload 4), (98, .iadd), (99, .iconst 1), (100, .isub), (101, .iload 4), (103, .irem), (104, .iadd), (105, .iastore), (106, .aload_n 0), (107, .dup), (108, .getfield 257), (111, .iconst 1), (112, .iadd), (113, .putfield 257), (116, .iinc 5 1), (119, .goto (-90)), (122, .iinc 2 1), (125, .goto (-118)), (128, .iconst 0), (129, .istore_n 2), (130, .iload_n 2), (131, .aload_n 0), (132, .getfield 257), (135, .if_icmp .ge 87), (138, .aload_n 0), (139, .getfield 58), (142, .iload_n 2), (143, .iaload), (144, .iconst 2), (145, .idiv), (146, .istore_n 3), (147, .aload_n 0), (148, .aload_n 1), (149, .iload_n 2), (150, .invokevirtual 260), (153, .istore 4), (155, .aload_n 0), (156, .getfield 70), (159, .iconst 4), (160, .iload_n 3), (161, .imul), (162, .iload 4), (164, .iadd), (165, .aload_n 0), (166, .getfield 67), (169, .iload_n 2), (170, .iaload), (171, .iastore), (172, .aload_n 0), (173, .getfield 73), (176, .iconst 4), (177, .iload_n 3), (178, .imul), (179, .iload 4), (181, .iadd), (182, .iconst 1), (183, .bastore), (184, .aload_n 0), (185, .getfield 70), (188, .iconst 4), (189, .iload_n 3), (190, .imul), (191, .iload 4), (193, .iconst 2), (194, .iadd), (195, .iconst 4), (196, .irem), (197, .iadd), (198, .iload_n 2), (199, .iastore), (200, .aload_n 0), (201, .getfield 73), (204, .iconst 4), (205, .iload_n 3), (206, .imul), (207, .iload 4), (209, .iconst 2), (210, .iadd), (211, .iconst 4), (212, .irem), (213, .iadd), (214, .iconst 0), (215, .bastore), (216, .iinc 2 1), (219, .goto (-89)), (222, .return_)]
def km_q157 : km_Q := (yX9_laysEdges, cX9_laysEdges, 6, none, 9, 2, false, km_c157)
def km_c158 : List (Nat × Jvm.ClassFile.Instr) := [(0, .aload_n 0), (1, .getfield 58), (4, .iload_n 2), (5, .iaload), (6, .iconst 2), (7, .irem), (8, .ifCond .ne 7), (11, .iconst 0), (12, .goto 25), (15, .aload_n 1), (16, .bipush 70), (18, .aload_n 0), (19, .getfield 58), (22, .iload_n 2), (23, .iaload), (24, .iconst 2), (25, .idiv), (26, .iadd), (27, .iaload), (28, .iconst 1), (29, .if_icmp .ne 7), (32, .iconst 3), (33, .goto 4), (36, .iconst 1), (37, .ireturn)]
def km_q158 : km_Q := (yX9_endIn, cX9_endIn, 3, (some .int), 9, 3, false, km_c158)
def km_c159 : List (Nat × Jvm.ClassFile.Instr) := [(0, .iload_n 2), (1, .iconst 2), (2, .idiv), (3, .istore_n 3), (4, .iload_n 2), (5, .iconst 2), (6, .irem), (7, .ifCond .ne 12), (10, .aload_n 0), (11, .getfield 64), (14, .iload_n 3), (15, .iaload), (16, .goto 4), (19, .iload_n 3), (20, .istore 4), (22, .iload_n 2), (23, .iconst 2), (24, .irem), (25, .ifCond .ne 13), (28, .aload_n 0), (29, .aload_n 1), (30, .iload 4), (32, .invokevirtual 260), (35, .goto 14), (38, .aload_n 0), (39, .aload_n 1), (40, .iload 4), (42, .invokevirtual 260), (45, .iconst 2), (46, .iadd), (47, .iconst 4), (48, .irem), (49, .istore 5), (51, .iconst 4), (52, .aload_n 0), (53, .getfield 58), (56, .iload 4), (58, .iaload), (59, .iconst 2), (60, .idiv), (61, .imul), (62, .iload 5), (64, .iconst 1), (65, .iadd), (66, .iconst 4), (67, .irem), (68, .iadd), (69, .istore 6), (71, .iconst 2), (72, .aload_n 0), (73, .getfield 70), (76, .iload 6), (78, .iaload), (79, .imul), (80, .aload_n 0), (81, .getfield 73), (84, .iload 6), (86, .baload), (87, .ifCond .eq 7), (90, .iconst 1), (91, .goto 4), (94, .iconst 0), (95, .iadd), (96, .ireturn)]
def km_q159 : km_Q := (yX9_turnsTo, cX9_turnsTo, 7, (some .int), 9, 3, false, km_c159)
def km_c160 : List (Nat × Jvm.ClassFile.Instr) := [(0, .aload_n 0), (1, .getfield 58), (4, .iload_n 1), (5, .iconst 2), (6, .irem), (7, .ifCond .ne 14), (10, .aload_n 0), (11, .getfield 64), (14, .iload_n 1), (15, .iconst 2), (16, .idiv), (17, .iaload), (18, .goto 6), (21, .iload_n 1), (22, .iconst 2), (23, .idiv), (24, .iaload), (25, .iconst 2), (26, .idiv), (27, .ireturn)]
def km_q160 : km_Q := (yX9_crossingBehind, cX9_crossingBehind, 2, (some .int), 9, 2, false, km_c160)
def km_c161 : List (Nat × Jvm.ClassFile.Instr) := [(0, .aload_n 0), (1, .aload_n 1), (2, .invokevirtual 263), (5, .iconst 0), (6, .istore_n 2), (7, .iload_n 2), (8, .iconst 2), (9, .aload_n 0), (10, .getfield 257), (13, .imul), (14, .if_icmp .ge 16), (17, .aload_n 0), (18, .getfield 83), (21, .iload_n 2), (22, .iconst 0), (23, .bastore), (24, .iinc 2 1), (27, .goto (-20)), (30, .aload_n 0), (31, .iconst 0), (32, .putfield 267), (35, .iconst 0), (36, .istore_n 2), (37, .iload_n 2), (38, .iconst 2), (39, .aload_n 0), (40, .getfield 257), (43, .imul), (44, .if_icmp .ge 92), (47, .aload_n 0), (48, .getfield 83), (51, .iload_n 2), (52, .baload), (53, .ifCond .eq 6), (56, .goto 74), (59, .aload_n 0), (60, .getfield 77), (63, .aload_n 0), (64, .getfield 267), (67, .iload_n 2), (68, .iastore), (69, .aload_n 0), (70, .getfield 80), (73, .aload_n 0), (74, .getfield 267), (77, .iconst 0), (78, .iastore), (79, .iload_n 2), (80, .istore_n 3), (81, .aload_n 0), (82, .getfield 83), (85, .iload_n 3), (86, .baload), (87, .ifCond .ne 33), (90, .aload_n 0), (91, .getfield 83), (94, .iload_n 3), (95, .iconst 1), (96, .bastore), (97, .aload_n 0), (98, .getfield 80), (101, .aload_n 0), (102, .getfield 267), (105, .dup2), (106, .iaload), (107, .iconst 1), (108, .iadd), (109, .iastore), (110, .aload_n 0), (111, .aload_n 1), (112, .iload_n 3), (113, .invokevirtual 270), (116, .istore_n 3), (117, .goto (-36)), (120, .aload_n 0), (121, .dup), (122, .getfield 267), (125, .iconst 1), (126, .iadd), (127, .putfield 267), (130, .iinc 2 1), (133, .goto (-96)), (136, .aload_n 0), (137, .getfield 267), (140, .ireturn)]
def km_q161 : km_Q := (yX9_laysFaces, cX9_laysFaces, 4, (some .int), 9, 2, false, km_c161)
def km_c162 : List (Nat × Jvm.ClassFile.Instr) := [(0, .aload_n 0), (1, .aload_n 1), (2, .invokevirtual 263), (5, .aload_n 1), (6, .iconst 1), (7, .iaload), (8, .istore_n 2), (9, .iconst 0), (10, .istore_n 3), (11, .iload_n 3), (12, .aload_n 1), (13, .iconst 1), (14, .iaload), (15, .if_icmp .ge 16), (18, .aload_n 0), (19, .getfield 86), (22, .iload_n 3), (23, .iload_n 3), (24, .iastore), (25, .iinc 3 1), (28, .goto (-17)), (31, .iconst 0), (32, .istore_n 3), (33, .iload_n 3), (34, .aload_n 0), (35, .getfield 257), (38, .if_icmp .ge 40), (41, .iload_n 2), (42, .aload_n 0), (43, .aload_n 0), (44, .getfield 58), (47, .iload_n 3), (48, .iaload), (49, .iconst 2), (50, .idiv), (51, .aload_n 0), (52, .getfield 58), (55, .aload_n 0), (56, .getfield 64), (59, .iload_n 3), (60, .iaload), (61, .iaload), (62, .iconst 2), (63, .idiv), (64, .aload_n 1), (65, .iconst 1), (66, .iaload), (67, .invokevirtual 273), (70, .isub), (71, .istore_n 2), (72, .iinc 3 1), (75, .goto (-42)), (78, .iload_n 2), (79, .ireturn)]
def km_q162 : km_Q := (yX9_partsOf, cX9_partsOf, 4, (some .int), 9, 2, false, km_c162)
def km_c163 : List (Nat × Jvm.ClassFile.Instr) := [(0, .aload_n 0), (1, .getfield 86), (4, .iload_n 1), (5, .iaload), (6, .istore 4), (8, .aload_n 0), (9, .getfield 86), (12, .iload_n 2), (13, .iaload), (14, .istore 5), (16, .iload 4), (18, .iload 5), (20, .if_icmp .ne 5), (23, .iconst 0), (24, .ireturn), (25, .iconst 0), (26, .istore 6), (28, .iload 6), (30, .iload_n 3), (31, .if_icmp .ge 30), (34, .aload_n 0), (35, .getfield 86), (38, .iload 6), (40, .iaload), (41, .iload 4), (43, .if_icmp .ne 12), (46, .aload_n 0), (47, .getfield 86), (50, .iload 6), (52, .iload 5), (54, .iastore), (55, .iinc 6 1), (58, .goto (-30)), (61, .iconst 1), (62, .ireturn)]
def km_q163 : km_Q := (yX9_joins, cX9_joins, 7, (some .int), 9, 4, false, km_c163)
def km_c164 : List (Nat × Jvm.ClassFile.Instr) := [(0, .aload_n 0), (1, .aload_n 1), (2, .invokevirtual 277), (5, .aload_n 1), (6, .iconst 1), (7, .iaload), (8, .iconst 2), (9, .aload_n 0), (10, .aload_n 1), (11, .invokevirtual 281), (14, .imul), (15, .iadd), (16, .if_icmp .ne 7), (19, .iconst 1), (20, .goto 4), (23, .iconst 0), (24, .ireturn)]
def km_q164 : km_Q := (yX9_canBeDrawn, cX9_canBeDrawn, 2, (some .boolean), 9, 2, false, km_c164)
def km_c165 : List (Nat × Jvm.ClassFile.Instr) := [(0, .aload_n 0), (1, .getfield 58), (4, .iload_n 1), (5, .iaload), (6, .iconst 2), (7, .irem), (8, .aload_n 0), (9, .getfield 58), (12, .aload_n 0), (13, .getfield 64), (16, .iload_n 1), (17, .iaload), (18, .iaload), (19, .iconst 2), (20, .irem), (21, .iadd), (22, .ireturn)]
def km_q165 : km_Q := (yX9_oversOf, cX9_oversOf, 2, (some .int), 9, 2, false, km_c165)
def km_c166 : List (Nat × Jvm.ClassFile.Instr) := [(0, .aload_n 0), (1, .getfield 80), (4, .iload_n 2), (5, .iaload), (6, .istore_n 3), (7, .iload_n 3), (8, .iconst 1), (9, .if_icmp .ne 5), (12, .iconst 1), (13, .ireturn), (14, .iload_n 3), (15, .iconst 3), (16, .if_icmp .le 5), (19, .iconst 0), (20, .ireturn), (21, .aload_n 0), (22, .getfield 77), (25, .iload_n 2), (26, .iaload), (27, .istore 4), (29, .aload_n 0), (30, .aload_n 1), (31, .iload 4), (33, .invokevirtual 270), (36, .istore 5), (38, .aload_n 0), (39, .iload 4), (41, .invokevirtual 284), (44, .aload_n 0), (45, .iload 5), (47, .invokevirtual 284), (50, .if_icmp .ne 5), (53, .iconst 0), (54, .ireturn), (55, .iload_n 3), (56, .iconst 2), (57, .if_icmp .ne 42), (60, .aload_n 0), (61, .iload 4), (63, .iconst 2), (64, .idiv), (65, .invokevirtual 287), (68, .aload_n 0), (69, .iload 5), (71, .iconst 2), (72, .idiv), (73, .invokevirtual 287), (76, .iadd), (77, .iconst 2), (78, .if_icmp .ne 19), (81, .aload_n 0), (82, .iload 4), (84, .iconst 2), (85, .idiv), (86, .invokevirtual 287), (89, .iconst 1), (90, .if_icmp .eq 7), (93, .iconst 2), (94, .goto 4), (97, .iconst 0), (98, .ireturn), (99, .aload_n 0), (100, .aload_n 1), (101, .iload 5), (103, .invokevirtual 270), (106, .istore 6), (108, .aload_n 0), (109, .iload 4), (111, .invokevirtual 284), (114, .aload_n 0), (115, .iload 6), (117, .invokevirtual 284), (120, .if_icmp .eq 18), (123, .aload_n 0), (124, .iload 5), (126, .invokevirtual 284), (129, .aload_n 0), (130, .iload 6), (132, .invokevirtual 284), (135, .if_icmp .ne 5), (138, .iconst 0), (139, .ireturn), (140, .iconst 1), (141, .aload_n 0), (142, .iload 4), (144, .iconst 2), (145, .idiv), (146, .invokevirtual 287), (149, .ishl), (150, .iconst 1), (151, .aload_n 0), (152, .iload 5), (154, .iconst 2), (155, .idiv), (156, .invokevirtual 287), (159, .ishl), (160, .ior), (161, .iconst 1), (162, .aload_n 0), (163, .iload 6), (165, .iconst 2), (166, .idiv), (167, .invokevirtual 287), (170, .ishl), (171, .ior), (172, .istore 7), (174, .iload 7), (176, .bipush 7), (178, .if_icmp .ne 7), (181, .iconst 3), (182, .goto 4), (185, .iconst 0), (186, .ireturn)]
def km_q166 : km_Q := (yX9_kindOf, cX9_kindOf, 8, (some .int), 9, 3, false, km_c166)
def km_c167 : List (Nat × Jvm.ClassFile.Instr) := [(0, .iconst 0), (1, .istore_n 2), (2, .aload_n 0), (3, .aload_n 0), (4, .getfield 40), (7, .invokevirtual 277), (10, .pop), (11, .iconst 0), (12, .istore_n 3), (13, .iload_n 3), (14, .aload_n 0), (15, .getfield 267), (18, .if_icmp .ge 25), (21, .aload_n 0), (22, .aload_n 0), (23, .getfield 40), (26, .iload_n 3), (27, .invokevirtual 290), (30, .iload_n 1), (31, .if_icmp .ne 6), (34, .iinc 2 1), (37, .iinc 3 1), (40, .goto (-27)), (43, .iload_n 2), (44, .ireturn)]
def km_q167 : km_Q := (yX9_kindMany, cX9_kindMany, 4, (some .int), 9, 2, false, km_c167)
def km_c168 : List (Nat × Jvm.ClassFile.Instr) := [(0, .aload_n 0), (1, .aload_n 1), (2, .invokevirtual 277), (5, .pop), (6, .iconst 0), (7, .istore_n 3), (8, .iload_n 3), (9, .aload_n 0), (10, .getfield 267), (13, .if_icmp .ge 21), (16, .aload_n 0), (17, .aload_n 1), (18, .iload_n 3), (19, .invokevirtual 290), (22, .iload_n 2), (23, .if_icmp .ne 5), (26, .iload_n 3), (27, .ireturn), (28, .iinc 3 1), (31, .goto (-23)), (34, .iconst (-1)), (35, .ireturn)]
def km_q168 : km_Q := (yX9_firstOf, cX9_firstOf, 4, (some .int), 9, 3, false, km_c168)
def km_c169 : List (Nat × Jvm.ClassFile.Instr) := [(0, .iconst 0), (1, .istore_n 2), (2, .iload_n 2), (3, .aload_n 0), (4, .iconst 0), (5, .iaload), (6, .if_icmp .ge 92), (9, .iconst 0), (10, .istore_n 3), (11, .iconst 0), (12, .istore 4), (14, .iload 4), (16, .aload_n 0), (17, .iconst 2), (18, .iload_n 2), (19, .iadd), (20, .iaload), (21, .if_icmp .ge 65), (24, .aload_n 0), (25, .bipush 6), (27, .bipush 16), (29, .iload_n 2), (30, .imul), (31, .iadd), (32, .iload 4), (34, .iadd), (35, .iaload), (36, .istore 5), (38, .iload 5), (40, .iconst 2), (41, .idiv), (42, .iload_n 1), (43, .if_icmp .ne 6), (46, .goto 34), (49, .aload_n 0), (50, .bipush 6), (52, .bipush 16), (54, .iload_n 2), (55, .imul), (56, .iadd), (57, .iload_n 3), (58, .iadd), (59, .iload 5), (61, .iconst 2), (62, .idiv), (63, .iload_n 1), (64, .if_icmp .le 10), (67, .iload 5), (69, .iconst 2), (70, .isub), (71, .goto 5), (74, .iload 5), (76, .iastore), (77, .iinc 3 1), (80, .iinc 4 1), (83, .goto (-69)), (86, .aload_n 0), (87, .iconst 2), (88, .iload_n 2), (89, .iadd), (90, .iload_n 3), (91, .iastore), (92, .iinc 2 1), (95, .goto (-93)), (98, .iload_n 1), (99, .istore_n 2), (100, .iload_n 2), (101, .iconst 1), (102, .iadd), (103, .aload_n 0), (104, .iconst 1), (105, .iaload), (106, .if_icmp .ge 23), (109, .aload_n 0), (110, .bipush 70), (112, .iload_n 2), (113, .iadd), (114, .aload_n 0), (115, .bipush 70), (117, .iload_n 2), (118, .iadd), (119, .iconst 1), (120, .iadd), (121, .iaload), (122, .iastore), (123, .iinc 2 1), (126, .goto (-26)), (129, .aload_n 0), (130, .iconst 1), (131, .dup2), (132, .iaload), (133, .iconst 1), (134, .isub), (135, .iastore), (136, .return_)]
def km_q169 : km_Q := (yX9_dropsOut, cX9_dropsOut, 6, none, 9, 2, true, km_c169)
def km_c170 : List (Nat × Jvm.ClassFile.Instr) := [(0, .aload_n 0), (1, .aload_n 0), (2, .getfield 77), (5, .iload_n 2), (6, .iaload), (7, .invokevirtual 284), (10, .istore_n 3), (11, .aload_n 0), (12, .getfield 80), (15, .iload_n 2), (16, .iaload), (17, .iconst 2), (18, .if_icmp .ne 21), (21, .aload_n 0), (22, .aload_n 0), (23, .aload_n 1), (24, .aload_n 0), (25, .getfield 77), (28, .iload_n 2), (29, .iaload), (30, .invokevirtual 270), (33, .invokevirtual 284), (36, .goto 4), (39, .iload_n 3), (40, .istore 4), (42, .aload_n 1), (43, .iload_n 3), (44, .iload 4), (46, .if_icmp .le 7), (49, .iload_n 3), (50, .goto 5), (53, .iload 4), (55, .invokestatic 293), (58, .iload_n 3), (59, .iload 4), (61, .if_icmp .eq 19), (64, .aload_n 1), (65, .iload_n 3), (66, .iload 4), (68, .if_icmp .le 8), (71, .iload 4), (73, .goto 4), (76, .iload_n 3), (77, .invokestatic 293), (80, .return_)]
def km_q170 : km_Q := (yX9_goesOut, cX9_goesOut, 5, none, 9, 3, false, km_c170)
def km_c171 : List (Nat × Jvm.ClassFile.Instr) := [(0, .aload_n 1), (1, .iconst 1), (2, .iaload), (3, .istore_n 2), (4, .iconst 1), (5, .istore_n 3), (6, .iload_n 3), (7, .ifCond .eq 49), (10, .aload_n 0), (11, .aload_n 1), (12, .iconst 1), (13, .invokevirtual 297), (16, .istore 4), (18, .iload 4), (20, .ifCond .ge 11), (23, .aload_n 0), (24, .aload_n 1), (25, .iconst 2), (26, .invokevirtual 297), (29, .istore 4), (31, .iload 4), (33, .ifCond .lt 7), (36, .iconst 1), (37, .goto 4), (40, .iconst 0), (41, .istore_n 3), (42, .iload_n 3), (43, .ifCond .eq 10), (46, .aload_n 0), (47, .aload_n 1), (48, .iload 4), (50, .invokevirtual 300), (53, .goto (-47)), (56, .iload_n 2), (57, .aload_n 1), (58, .iconst 1), (59, .iaload), (60, .isub), (61, .ireturn)]
def km_q171 : km_Q := (yX9_loosens, cX9_loosens, 5, (some .int), 9, 2, false, km_c171)
def km_c172 : List (Nat × Jvm.ClassFile.Instr) := [(0, .iload_n 2), (1, .istore_n 3), (2, .iconst 0), (3, .istore 4), (5, .iload_n 3), (6, .aload_n 1), (7, .iconst 2), (8, .iload 4), (10, .iadd), (11, .iaload), (12, .if_icmp .lt 18), (15, .iload_n 3), (16, .aload_n 1), (17, .iconst 2), (18, .iload 4), (20, .iadd), (21, .iaload), (22, .isub), (23, .istore_n 3), (24, .iinc 4 1), (27, .goto (-22)), (30, .bipush 6), (32, .bipush 16), (34, .iload 4), (36, .imul), (37, .iadd), (38, .iload_n 3), (39, .iadd), (40, .ireturn)]
def km_q172 : km_Q := (yX9_whereOf, cX9_whereOf, 5, (some .int), 9, 3, false, km_c172)
def km_c173 : List (Nat × Jvm.ClassFile.Instr) := [(0, .aload_n 0), (1, .getfield 77), (4, .iload_n 2), (5, .iaload), (6, .istore_n 3), (7, .iload_n 3), (8, .iconst 2), (9, .idiv), (10, .istore 4), (12, .aload_n 0), (13, .aload_n 1), (14, .iload_n 3), (15, .invokevirtual 270), (18, .iconst 2), (19, .idiv), (20, .istore 5), (22, .aload_n 0), (23, .aload_n 1), (24, .aload_n 0), (25, .aload_n 1), (26, .iload_n 3), (27, .invokevirtual 270), (30, .invokevirtual 270), (33, .iconst 2), (34, .idiv), (35, .istore 6), (37, .aload_n 0), (38, .aload_n 1), (39, .iload 4), (41, .invokevirtual 303), (44, .aload_n 0), (45, .aload_n 1), (46, .iload 5), (48, .invokevirtual 303), (51, .aload_n 0), (52, .aload_n 1), (53, .iload 6), (55, .invokevirtual 303), (58, .return_)]
def km_q173 : km_Q := (yX9_slides, cX9_slides, 7, none, 9, 3, false, km_c173)
def km_c174 : List (Nat × Jvm.ClassFile.Instr) := [(0, .aload_n 0), (1, .aload_n 1), (2, .iload_n 2), (3, .invokevirtual 306), (6, .istore_n 3), (7, .aload_n 0), (8, .aload_n 1), (9, .aload_n 0), (10, .getfield 64), (13, .iload_n 2), (14, .iaload), (15, .invokevirtual 306), (18, .istore 4), (20, .aload_n 1), (21, .iload_n 3), (22, .iaload), (23, .istore 5), (25, .aload_n 1), (26, .iload_n 3), (27, .aload_n 1), (28, .iload 4), (30, .iaload), (31, .iastore), (32, .aload_n 1), (33, .iload 4), (35, .iload 5), (37, .iastore), (38, .return_)]
def km_q174 : km_Q := (yX9_exchanges, cX9_exchanges, 6, none, 9, 3, false, km_c174)
def km_c175 : List (Nat × Jvm.ClassFile.Instr) := [(0, .aload_n 0), (1, .bipush 70), (3, .iload_n 1), (4, .iadd), (5, .aload_n 0), (6, .bipush 70), (8, .iload_n 1), (9, .iadd), (10, .iaload), (11, .ineg), (12, .iastore), (13, .iconst 0), (14, .istore_n 2), (15, .iload_n 2), (16, .aload_n 0), (17, .iconst 0), (18, .iaload), (19, .if_icmp .ge 58), (22, .iconst 0), (23, .istore_n 3), (24, .iload_n 3), (25, .aload_n 0), (26, .iconst 2), (27, .iload_n 2), (28, .iadd), (29, .iaload), (30, .if_icmp .ge 41), (33, .aload_n 0), (34, .bipush 6), (36, .bipush 16), (38, .iload_n 2), (39, .imul), (40, .iadd), (41, .iload_n 3), (42, .iadd), (43, .iaload), (44, .iconst 2), (45, .idiv), (46, .iload_n 1), (47, .if_icmp .ne 18), (50, .aload_n 0), (51, .bipush 6), (53, .bipush 16), (55, .iload_n 2), (56, .imul), (57, .iadd), (58, .iload_n 3), (59, .iadd), (60, .dup2), (61, .iaload), (62, .iconst 1), (63, .ixor), (64, .iastore), (65, .iinc 3 1), (68, .goto (-44)), (71, .iinc 2 1), (74, .goto (-59)), (77, .return_)]
def km_q175 : km_Q := (yX9_switchesAt, cX9_switchesAt, 4, none, 9, 2, true, km_c175)
def km_c176 : List (Nat × Jvm.ClassFile.Instr) := [(0, .aload_n 0), (1, .getfield 213), (4, .bipush 40), (6, .if_icmp .ne 26), (9, .aload_n 0), (10, .aload_n 0), (11, .getfield 309), (14, .iconst 1), (15, .iadd), (16, .bipush 40), (18, .irem), (19, .putfield 309), (22, .aload_n 0), (23, .dup), (24, .getfield 213), (27, .iconst 1), (28, .isub), (29, .putfield 213), (32, .bipush 78), (34, .aload_n 0), (35, .getfield 309), (38, .aload_n 0), (39, .getfield 213), (42, .iadd), (43, .bipush 40), (45, .irem), (46, .imul), (47, .istore_n 1), (48, .iconst 0), (49, .istore_n 2), (50, .iload_n 2), (51, .bipush 78), (53, .if_icmp .ge 23), (56, .aload_n 0), (57, .getfield 89), (60, .iload_n 1), (61, .iload_n 2), (62, .iadd), (63, .aload_n 0), (64, .getfield 40), (67, .iload_n 2), (68, .iaload), (69, .iastore), (70, .iinc 2 1), (73, .goto (-23)), (76, .aload_n 0), (77, .dup), (78, .getfield 213), (81, .iconst 1), (82, .iadd), (83, .putfield 213), (86, .return_)]
def km_q176 : km_Q := (yX9_marks, cX9_marks, 3, none, 9, 1, false, km_c176)
def km_c177 : List (Nat × Jvm.ClassFile.Instr) := [(0, .aload_n 0), (1, .getfield 213), (4, .ifCond .ne 5), (7, .iconst 0), (8, .ireturn), (9, .aload_n 0), (10, .dup), (11, .getfield 213), (14, .iconst 1), (15, .isub), (16, .putfield 213), (19, .bipush 78), (21, .aload_n 0), (22, .getfield 309), (25, .aload_n 0), (26, .getfield 213), (29, .iadd), (30, .bipush 40), (32, .irem), (33, .imul), (34, .istore_n 1), (35, .iconst 0), (36, .istore_n 2), (37, .iload_n 2), (38, .bipush 78), (40, .if_icmp .ge 23), (43, .aload_n 0), (44, .getfield 40), (47, .iload_n 2), (48, .aload_n 0), (49, .getfield 89), (52, .iload_n 1), (53, .iload_n 2), (54, .iadd), (55, .iaload), (56, .iastore), (57, .iinc 2 1), (60, .goto (-23)), (63, .iconst 1), (64, .ireturn)]
def km_q177 : km_Q := (yX9_undo, cX9_undo, 3, (some .boolean), 9, 1, false, km_c177)
def km_c178 : List (Nat × Jvm.ClassFile.Instr) := [(0, .iload_n 1), (1, .iconst 0), (2, .iconst 2), (3, .invokestatic 246), (6, .ifCond .ne 5), (9, .iconst 0), (10, .ireturn), (11, .iconst 0), (12, .istore_n 2), (13, .iload_n 2), (14, .bipush 78), (16, .if_icmp .ge 26), (19, .aload_n 0), (20, .getfield 92), (23, .bipush 78), (25, .iload_n 1), (26, .imul), (27, .iload_n 2), (28, .iadd), (29, .aload_n 0), (30, .getfield 40), (33, .iload_n 2), (34, .iaload), (35, .iastore), (36, .iinc 2 1), (39, .goto (-26)), (42, .aload_n 0), (43, .getfield 95), (46, .iload_n 1), (47, .iconst 1), (48, .bastore), (49, .iconst 1), (50, .ireturn)]
def km_q178 : km_Q := (yX9_hold, cX9_hold, 3, (some .boolean), 9, 2, false, km_c178)
def km_c179 : List (Nat × Jvm.ClassFile.Instr) := [(0, .iload_n 1), (1, .iconst 0), (2, .iconst 2), (3, .invokestatic 246), (6, .ifCond .eq 12), (9, .aload_n 0), (10, .getfield 95), (13, .iload_n 1), (14, .baload), (15, .ifCond .ne 5), (18, .iconst 0), (19, .ireturn), (20, .iconst 0), (21, .istore_n 2), (22, .iload_n 2), (23, .bipush 78), (25, .if_icmp .ge 26), (28, .aload_n 0), (29, .getfield 98), (32, .iload_n 2), (33, .aload_n 0), (34, .getfield 92), (37, .bipush 78), (39, .iload_n 1), (40, .imul), (41, .iload_n 2), (42, .iadd), (43, .iaload), (44, .iastore), (45, .iinc 2 1), (48, .goto (-26)), (51, .iconst 1), (52, .ireturn)]
def km_q179 : km_Q := (yX9_hasHeld, cX9_hasHeld, 3, (some .boolean), 9, 2, false, km_c179)
def km_c180 : List (Nat × Jvm.ClassFile.Instr) := [(0, .aload_n 0), (1, .iload_n 1), (2, .invokevirtual 312), (5, .ifCond .ne 5), (8, .iconst 0), (9, .ireturn), (10, .aload_n 0), (11, .getfield 98), (14, .aload_n 0), (15, .getfield 40), (18, .invokestatic 209), (21, .aload_n 0), (22, .iconst 0), (23, .putfield 213), (26, .iconst 1), (27, .ireturn)]
def km_q180 : km_Q := (yX9_restore, cX9_restore, 2, (some .boolean), 9, 2, false, km_c180)
def km_c181 : List (Nat × Jvm.ClassFile.Instr) := [(0, .iload_n 1), (1, .iconst 0), (2, .aload_n 0), (3, .aload_n 0), (4, .getfield 40), (7, .invokevirtual 277), (10, .iconst 1), (11, .isub), (12, .invokestatic 246), (15, .ifCond .ne 5), (18, .iconst (-1)), (19, .ireturn), (20, .aload_n 0), (21, .aload_n 0), (22, .getfield 40), (25, .iload_n 1), (26, .invokevirtual 290), (29, .istore_n 2), (30, .iload_n 2), (31, .iconst 1), (32, .if_icmp .eq 10), (35, .iload_n 2), (36, .iconst 2), (37, .if_icmp .eq 5), (40, .iconst (-1)), (41, .ireturn), (42, .aload_n 0), (43, .invokevirtual 315), (46, .aload_n 0), (47, .aload_n 0), (48, .getfield 40), (51, .iload_n 1), (52, .invokevirtual 300), (55, .aload_n 0), (56, .getfield 40), (59, .iconst 1), (60, .iaload), (61, .ireturn)]
def km_q181 : km_Q := (yX9_out, cX9_out, 3, (some .int), 9, 2, false, km_c181)
def km_c182 : List (Nat × Jvm.ClassFile.Instr) := [(0, .iload_n 1), (1, .iconst 0), (2, .aload_n 0), (3, .aload_n 0), (4, .getfield 40), (7, .invokevirtual 277), (10, .iconst 1), (11, .isub), (12, .invokestatic 246), (15, .ifCond .eq 16), (18, .aload_n 0), (19, .aload_n 0), (20, .getfield 40), (23, .iload_n 1), (24, .invokevirtual 290), (27, .iconst 3), (28, .if_icmp .eq 5), (31, .iconst 0), (32, .ireturn), (33, .aload_n 0), (34, .invokevirtual 315), (37, .aload_n 0), (38, .aload_n 0), (39, .getfield 40), (42, .iload_n 1), (43, .invokevirtual 318), (46, .iconst 1), (47, .ireturn)]
def km_q182 : km_Q := (yX9_slide, cX9_slide, 2, (some .boolean), 9, 2, false, km_c182)
def km_c183 : List (Nat × Jvm.ClassFile.Instr) := [(0, .aload_n 0), (1, .getfield 40), (4, .iconst 1), (5, .iaload), (6, .bipush 8), (8, .if_icmp .eq 21), (11, .iload_n 1), (12, .iconst 0), (13, .iconst 2), (14, .aload_n 0), (15, .getfield 40), (18, .iconst 1), (19, .iaload), (20, .imul), (21, .iconst 1), (22, .isub), (23, .invokestatic 246), (26, .ifCond .ne 5), (29, .iconst 0), (30, .ireturn), (31, .aload_n 0), (32, .invokevirtual 315), (35, .aload_n 0), (36, .aload_n 0), (37, .getfield 40), (40, .iload_n 1), (41, .invokevirtual 306), (44, .istore 4), (46, .iload 4), (48, .bipush 6), (50, .isub), (51, .bipush 16), (53, .idiv), (54, .istore 5), (56, .aload_n 0), (57, .getfield 40), (60, .iconst 1), (61, .iaload), (62, .istore 6), (64, .bipush 6), (66, .bipush 16), (68, .iload 5), (70, .imul), (71, .iadd), (72, .aload_n 0), (73, .getfield 40), (76, .iconst 2), (77, .iload 5), (79, .iadd), (80, .iaload), (81, .iadd), (82, .iconst 1), (83, .isub), (84, .istore 7), (86, .iload 7), (88, .iload 4), (90, .if_icmp .le 25), (93, .aload_n 0), (94, .getfield 40), (97, .iload 7), (99, .iconst 2), (100, .iadd), (101, .aload_n 0), (102, .getfield 40), (105, .iload 7), (107, .iaload), (108, .iastore), (109, .iinc 7 (-1)), (112, .goto (-26)), (115, .aload_n 0), (116, .getfield 40), (119, .iload 4), (121, .iconst 1), (122, .iadd), (123, .iconst 2), (124, .iload 6), (126, .imul), (127, .iload_n 2), (128, .ifCond .eq 7), (131, .iconst 1), (132, .goto 4), (135, .iconst 0), (136, .iadd), (137, .iastore), (138, .aload_n 0), (139, .getfield 40), (142, .iload 4), (144, .iconst 2), (145, .iadd), (146, .iconst 2), (147, .iload 6), (149, .imul), (150, .iload_n 2), (151, .ifCond .eq 7), (154, .iconst 0), (155, .goto 4), (158, .iconst 1), (159, .iadd), (160, .iastore), (161, .aload_n 0), (162, .getfield 40), (165, .iconst 2), (166, .iload 5), (168, .iadd), (169, .dup2), (170, .iaload), (171, .iconst 2), (172, .iadd), (173, .iastore), (174, .aload_n 0), (175, .getfield 40), (178, .bipush 70), (180, .iload 6), (182, .iadd), (183, .iload_n 3), (184, .ifCond .eq 7), (187, .iconst 1), (188, .goto 4), (191, .iconst (-1)), (192, .iastore), (193, .aload_n 0), (194, .getfield 40), (197, .iconst 1), (198, .dup2), (199, .iaload), (200, .iconst 1), (201, .iadd), (202, .iastore), (203, .iconst 1), (204, .ireturn)]
def km_q183 : km_Q := (yX9_kink, cX9_kink, 8, (some .boolean), 9, 4, false, km_c183)
def km_c184 : List (Nat × Jvm.ClassFile.Instr) := [(0, .aload_n 0), (1, .getfield 40), (4, .aload_n 0), (5, .getfield 98), (8, .invokestatic 209), (11, .aload_n 0), (12, .aload_n 0), (13, .getfield 98), (16, .invokevirtual 321), (19, .istore_n 1), (20, .iload_n 1), (21, .ifCond .ne 5), (24, .iconst 0), (25, .ireturn), (26, .aload_n 0), (27, .invokevirtual 315), (30, .aload_n 0), (31, .getfield 98), (34, .aload_n 0), (35, .getfield 40), (38, .invokestatic 209), (41, .iload_n 1), (42, .ireturn)]
def km_q184 : km_Q := (yX9_loosen, cX9_loosen, 2, (some .int), 9, 1, false, km_c184)
def km_c185 : List (Nat × Jvm.ClassFile.Instr) := [(0, .aload_n 0), (1, .getfield 40), (4, .iconst 0), (5, .iaload), (6, .ifCond .ne 5), (9, .iconst 0), (10, .ireturn), (11, .aload_n 0), (12, .invokevirtual 315), (15, .iconst 0), (16, .istore_n 1), (17, .iload_n 1), (18, .aload_n 0), (19, .getfield 40), (22, .iconst 1), (23, .iaload), (24, .if_icmp .ge 17), (27, .aload_n 0), (28, .getfield 40), (31, .iload_n 1), (32, .invokestatic 324), (35, .iinc 1 1), (38, .goto (-21)), (41, .iconst 1), (42, .ireturn)]
def km_q185 : km_Q := (yX9_mirror, cX9_mirror, 2, (some .boolean), 9, 1, false, km_c185)
def km_c186 : List (Nat × Jvm.ClassFile.Instr) := [(0, .iload_n 1), (1, .iconst 0), (2, .aload_n 0), (3, .getfield 40), (6, .iconst 0), (7, .iaload), (8, .iconst 1), (9, .isub), (10, .invokestatic 246), (13, .ifCond .ne 5), (16, .iconst 0), (17, .ireturn), (18, .aload_n 0), (19, .invokevirtual 315), (22, .bipush 6), (24, .bipush 16), (26, .iload_n 1), (27, .imul), (28, .iadd), (29, .istore_n 2), (30, .aload_n 0), (31, .getfield 40), (34, .iconst 2), (35, .iload_n 1), (36, .iadd), (37, .iaload), (38, .istore_n 3), (39, .iconst 0), (40, .istore 4), (42, .iconst 0), (43, .istore 5), (45, .iload 5), (47, .iload_n 3), (48, .if_icmp .ge 27), (51, .iload 4), (53, .iconst 1), (54, .aload_n 0), (55, .getfield 40), (58, .iload_n 2), (59, .iload 5), (61, .iadd), (62, .iaload), (63, .iconst 2), (64, .idiv), (65, .ishl), (66, .ixor), (67, .istore 4), (69, .iinc 5 1), (72, .goto (-27)), (75, .iconst 0), (76, .istore 5), (78, .iload 5), (80, .aload_n 0), (81, .getfield 40), (84, .iconst 1), (85, .iaload), (86, .if_icmp .ge 40), (89, .iload 4), (91, .iload 5), (93, .invokestatic 250), (96, .ifCond .eq 24), (99, .aload_n 0), (100, .getfield 40), (103, .bipush 70), (105, .iload 5), (107, .iadd), (108, .aload_n 0), (109, .getfield 40), (112, .bipush 70), (114, .iload 5), (116, .iadd), (117, .iaload), (118, .ineg), (119, .iastore), (120, .iinc 5 1), (123, .goto (-45)), (126, .iconst 1), (127, .istore 5), (129, .iload 5), (131, .iload_n 3), (132, .iload 5), (134, .isub), (135, .if_icmp .ge 53), (138, .aload_n 0), (139, .getfield 40), (142, .iload_n 2), (143, .iload 5), (145, .iadd), (146, .iaload), (147, .istore 6), (149, .aload_n 0), (150, .getfield 40), (153, .iload_n 2), (154, .iload 5), (156, .iadd), (157, .aload_n 0), (158, .getfield 40), (161, .iload_n 2), (162, .iload_n 3), (163, .iadd), (164, .iload 5), (166, .isub), (167, .iaload), (168, .iastore), (169, .aload_n 0), (170, .getfield 40), (173, .iload_n 2), (174, .iload_n 3), (175, .iadd), (176, .iload 5), (178, .isub), (179, .iload 6), (181, .iastore), (182, .iinc 5 1), (185, .goto (-56)), (188, .iconst 1), (189, .ireturn)]
def km_q186 : km_Q := (yX9_round, cX9_round, 7, (some .boolean), 9, 2, false, km_c186)
def km_c187 : List (Nat × Jvm.ClassFile.Instr) := [(0, .iload_n 1), (1, .iconst 0), (2, .aload_n 0), (3, .getfield 40), (6, .iconst 1), (7, .iaload), (8, .iconst 1), (9, .isub), (10, .invokestatic 246), (13, .ifCond .ne 5), (16, .iconst 0), (17, .ireturn), (18, .aload_n 0), (19, .invokevirtual 315), (22, .aload_n 0), (23, .getfield 40), (26, .iload_n 1), (27, .invokestatic 324), (30, .iconst 1), (31, .ireturn)]
def km_q187 : km_Q := (yX9_switches, cX9_switches, 2, (some .boolean), 9, 2, false, km_c187)
def km_c188 : List (Nat × Jvm.ClassFile.Instr) := [(0, .aload_n 0), (1, .iload_n 1), (2, .invokevirtual 312), (5, .ifCond .eq 21), (8, .aload_n 0), (9, .getfield 40), (12, .iconst 0), (13, .iaload), (14, .ifCond .eq 12), (17, .aload_n 0), (18, .getfield 98), (21, .iconst 0), (22, .iaload), (23, .ifCond .ne 5), (26, .iconst 0), (27, .ireturn), (28, .aload_n 0), (29, .getfield 40), (32, .iconst 1), (33, .iaload), (34, .aload_n 0), (35, .getfield 98), (38, .iconst 1), (39, .iaload), (40, .iadd), (41, .bipush 8), (43, .if_icmp .gt 22), (46, .aload_n 0), (47, .getfield 40), (50, .iconst 0), (51, .iaload), (52, .aload_n 0), (53, .getfield 98), (56, .iconst 0), (57, .iaload), (58, .iadd), (59, .iconst 1), (60, .isub), (61, .iconst 4), (62, .if_icmp .le 5), (65, .iconst 0), (66, .ireturn), (67, .aload_n 0), (68, .invokevirtual 315), (71, .aload_n 0), (72, .getfield 40), (75, .iconst 1), (76, .iaload), (77, .istore_n 2), (78, .iconst 0), (79, .istore_n 3), (80, .iload_n 3), (81, .aload_n 0), (82, .getfield 98), (85, .iconst 0), (86, .iaload), (87, .if_icmp .ge 93), (90, .iload_n 3), (91, .ifCond .ne 7), (94, .iconst 0), (95, .goto 13), (98, .aload_n 0), (99, .getfield 40), (102, .iconst 0), (103, .iaload), (104, .iload_n 3), (105, .iadd), (106, .iconst 1), (107, .isub), (108, .istore 4), (110, .iload_n 3), (111, .ifCond .le 13), (114, .aload_n 0), (115, .getfield 40), (118, .iconst 2), (119, .iload 4), (121, .iadd), (122, .iconst 0), (123, .iastore), (124, .iconst 0), (125, .istore 5), (127, .iload 5), (129, .aload_n 0), (130, .getfield 98), (133, .iconst 2), (134, .iload_n 3), (135, .iadd), (136, .iaload), (137, .if_icmp .ge 37), (140, .aload_n 0), (141, .getfield 40), (144, .iload 4), (146, .aload_n 0), (147, .getfield 98), (150, .bipush 6), (152, .bipush 16), (154, .iload_n 3), (155, .imul), (156, .iadd), (157, .iload 5), (159, .iadd), (160, .iaload), (161, .iconst 2), (162, .iload_n 2), (163, .imul), (164, .iadd), (165, .invokestatic 242), (168, .iinc 5 1), (171, .goto (-44)), (174, .iinc 3 1), (177, .goto (-97)), (180, .iconst 0), (181, .istore_n 3), (182, .iload_n 3), (183, .aload_n 0), (184, .getfield 98), (187, .iconst 1), (188, .iaload), (189, .if_icmp .ge 29), (192, .aload_n 0), (193, .getfield 40), (196, .bipush 70), (198, .iload_n 2), (199, .iadd), (200, .iload_n 3), (201, .iadd), (202, .aload_n 0), (203, .getfield 98), (206, .bipush 70), (208, .iload_n 3), (209, .iadd), (210, .iaload), (211, .iastore), (212, .iinc 3 1), (215, .goto (-33)), (218, .aload_n 0), (219, .getfield 40), (222, .iconst 0), (223, .dup2), (224, .iaload), (225, .aload_n 0), (226, .getfield 98), (229, .iconst 0), (230, .iaload), (231, .iconst 1), (232, .isub), (233, .iadd), (234, .iastore), (235, .aload_n 0), (236, .getfield 40), (239, .iconst 1), (240, .dup2), (241, .iaload), (242, .aload_n 0), (243, .getfield 98), (246, .iconst 1), (247, .iaload), (248, .iadd), (249, .iastore), (250, .iconst 1), (251, .ireturn)]
def km_q188 : km_Q := (yX9_sum, cX9_sum, 6, (some .boolean), 9, 2, false, km_c188)
def km_c189 : List (Nat × Jvm.ClassFile.Instr) := [(0, .iload_n 1), (1, .iconst 0), (2, .aload_n 0), (3, .getfield 40), (6, .iconst 0), (7, .iaload), (8, .iconst 1), (9, .isub), (10, .invokestatic 246), (13, .ifCond .ne 5), (16, .iconst (-1)), (17, .ireturn), (18, .aload_n 0), (19, .getfield 40), (22, .iconst 2), (23, .iload_n 1), (24, .iadd), (25, .iaload), (26, .istore_n 3), (27, .iload_n 2), (28, .iconst (-1)), (29, .if_icmp .ne 5), (32, .iload_n 3), (33, .ireturn), (34, .iload_n 2), (35, .iconst 0), (36, .iload_n 3), (37, .iconst 1), (38, .isub), (39, .invokestatic 246), (42, .ifCond .ne 5), (45, .iconst (-1)), (46, .ireturn), (47, .aload_n 0), (48, .getfield 40), (51, .bipush 6), (53, .bipush 16), (55, .iload_n 1), (56, .imul), (57, .iadd), (58, .iload_n 2), (59, .iadd), (60, .iaload), (61, .istore 4), (63, .iconst 4), (64, .iload 4), (66, .iconst 2), (67, .idiv), (68, .imul), (69, .iconst 2), (70, .iload 4), (72, .iconst 2), (73, .irem), (74, .imul), (75, .iadd), (76, .aload_n 0), (77, .getfield 40), (80, .bipush 70), (82, .iload 4), (84, .iconst 2), (85, .idiv), (86, .iadd), (87, .iaload), (88, .iconst 1), (89, .if_icmp .ne 7), (92, .iconst 1), (93, .goto 4), (96, .iconst 0), (97, .iadd), (98, .ireturn)]
def km_q189 : km_Q := (yX9_ring, cX9_ring, 5, (some .int), 9, 3, false, km_c189)
def km_c190 : List (Nat × Jvm.ClassFile.Instr) := [(0, .iconst 0), (1, .istore_n 3), (2, .aload_n 0), (3, .getfield 58), (6, .iload_n 3), (7, .iaload), (8, .iconst 2), (9, .iload_n 1), (10, .imul), (11, .iload_n 2), (12, .iadd), (13, .if_icmp .eq 9), (16, .iinc 3 1), (19, .goto (-17)), (22, .iload_n 3), (23, .ireturn)]
def km_q190 : km_Q := (yX9_passAt, cX9_passAt, 4, (some .int), 9, 3, false, km_c190)
def km_c191 : List (Nat × Jvm.ClassFile.Instr) := [(0, .iload_n 1), (1, .iconst 0), (2, .aload_n 0), (3, .getfield 40), (6, .iconst 1), (7, .iaload), (8, .iconst 1), (9, .isub), (10, .invokestatic 246), (13, .ifCond .eq 13), (16, .iload_n 2), (17, .iconst 0), (18, .bipush 7), (20, .invokestatic 246), (23, .ifCond .ne 7), (26, .ldc_w 327), (29, .ireturn), (30, .aload_n 0), (31, .aload_n 0), (32, .getfield 40), (35, .invokevirtual 328), (38, .istore_n 3), (39, .iload_n 2), (40, .ifCond .ne 13), (43, .aload_n 0), (44, .getfield 40), (47, .bipush 70), (49, .iload_n 1), (50, .iadd), (51, .iaload), (52, .ireturn), (53, .iload_n 2), (54, .iconst 5), (55, .if_icmp .ge 16), (58, .aload_n 0), (59, .getfield 70), (62, .iconst 4), (63, .iload_n 1), (64, .imul), (65, .iload_n 2), (66, .iadd), (67, .iconst 1), (68, .isub), (69, .iaload), (70, .ireturn), (71, .iload_n 2), (72, .iconst 5), (73, .if_icmp .ne 17), (76, .aload_n 0), (77, .getfield 61), (80, .aload_n 0), (81, .iload_n 1), (82, .iconst 1), (83, .invokevirtual 331), (86, .iaload), (87, .goto 34), (90, .iload_n 2), (91, .bipush 6), (93, .if_icmp .ne 17), (96, .aload_n 0), (97, .getfield 61), (100, .aload_n 0), (101, .iload_n 1), (102, .iconst 0), (103, .invokevirtual 331), (106, .iaload), (107, .goto 14), (110, .aload_n 0), (111, .getfield 113), (114, .aload_n 0), (115, .iload_n 1), (116, .iconst 1), (117, .invokevirtual 331), (120, .iaload), (121, .ireturn)]
def km_q191 : km_Q := (yX9_crossing, cX9_crossing, 4, (some .int), 9, 3, false, km_c191)
def km_c192 : List (Nat × Jvm.ClassFile.Instr) := [(0, .aload_n 0), (1, .aload_n 0), (2, .getfield 40), (5, .invokevirtual 277), (8, .istore_n 3), (9, .iload_n 1), (10, .iconst (-1)), (11, .if_icmp .ne 5), (14, .iload_n 3), (15, .ireturn), (16, .iload_n 1), (17, .iconst 0), (18, .iload_n 3), (19, .iconst 1), (20, .isub), (21, .invokestatic 246), (24, .ifCond .eq 7), (27, .iload_n 2), (28, .ifCond .ge 5), (31, .iconst (-1)), (32, .ireturn), (33, .iload_n 2), (34, .ifCond .ne 10), (37, .aload_n 0), (38, .getfield 80), (41, .iload_n 1), (42, .iaload), (43, .ireturn), (44, .iload_n 2), (45, .iconst 1), (46, .if_icmp .ne 13), (49, .aload_n 0), (50, .aload_n 0), (51, .getfield 40), (54, .iload_n 1), (55, .invokevirtual 290), (58, .ireturn), (59, .iload_n 2), (60, .iconst 2), (61, .isub), (62, .aload_n 0), (63, .getfield 80), (66, .iload_n 1), (67, .iaload), (68, .if_icmp .lt 5), (71, .iconst (-1)), (72, .ireturn), (73, .aload_n 0), (74, .getfield 77), (77, .iload_n 1), (78, .iaload), (79, .istore 4), (81, .iconst 0), (82, .istore 5), (84, .iload 5), (86, .iload_n 2), (87, .iconst 2), (88, .isub), (89, .if_icmp .ge 21), (92, .aload_n 0), (93, .aload_n 0), (94, .getfield 40), (97, .iload 4), (99, .invokevirtual 270), (102, .istore 4), (104, .iinc 5 1), (107, .goto (-23)), (110, .iload 4), (112, .ireturn)]
def km_q192 : km_Q := (yX9_face, cX9_face, 6, (some .int), 9, 3, false, km_c192)
def km_c193 : List (Nat × Jvm.ClassFile.Instr) := [(0, .iconst 0), (1, .istore_n 1), (2, .iconst 0), (3, .istore_n 2), (4, .iload_n 2), (5, .aload_n 0), (6, .iconst 0), (7, .iaload), (8, .if_icmp .ge 20), (11, .aload_n 0), (12, .iconst 2), (13, .iload_n 2), (14, .iadd), (15, .iaload), (16, .ifCond .ne 6), (19, .iinc 1 1), (22, .iinc 2 1), (25, .goto (-21)), (28, .iload_n 1), (29, .ireturn)]
def km_q193 : km_Q := (yX9_looseMany, cX9_looseMany, 3, (some .int), 9, 1, true, km_c193)
def km_c194 : List (Nat × Jvm.ClassFile.Instr) := [(0, .aload_n 0), (1, .getfield 257), (4, .istore_n 3), (5, .iconst 0), (6, .istore 4), (8, .iload 4), (10, .aload_n 0), (11, .getfield 257), (14, .if_icmp .ge 18), (17, .aload_n 0), (18, .getfield 86), (21, .iload 4), (23, .iload 4), (25, .iastore), (26, .iinc 4 1), (29, .goto (-21)), (32, .iconst 0), (33, .istore 4), (35, .iload 4), (37, .aload_n 1), (38, .iconst 1), (39, .iaload), (40, .if_icmp .ge 97), (43, .iconst 4), (44, .iload 4), (46, .imul), (47, .istore 5), (49, .iload_n 2), (50, .iload 4), (52, .invokestatic 250), (55, .istore 6), (57, .iload_n 3), (58, .aload_n 0), (59, .aload_n 0), (60, .getfield 70), (63, .iload 5), (65, .iaload), (66, .aload_n 0), (67, .getfield 70), (70, .iload 5), (72, .iload 6), (74, .ifCond .eq 7), (77, .iconst 3), (78, .goto 4), (81, .iconst 1), (82, .iadd), (83, .iaload), (84, .aload_n 0), (85, .getfield 257), (88, .invokevirtual 273), (91, .isub), (92, .istore_n 3), (93, .iload_n 3), (94, .aload_n 0), (95, .aload_n 0), (96, .getfield 70), (99, .iload 5), (101, .iconst 2), (102, .iadd), (103, .iaload), (104, .aload_n 0), (105, .getfield 70), (108, .iload 5), (110, .iload 6), (112, .ifCond .eq 7), (115, .iconst 1), (116, .goto 4), (119, .iconst 3), (120, .iadd), (121, .iaload), (122, .aload_n 0), (123, .getfield 257), (126, .invokevirtual 273), (129, .isub), (130, .istore_n 3), (131, .iinc 4 1), (134, .goto (-99)), (137, .iload_n 3), (138, .aload_n 1), (139, .invokestatic 334), (142, .iadd), (143, .ireturn)]
def km_q194 : km_Q := (yX9_loopsOf, cX9_loopsOf, 7, (some .int), 9, 3, false, km_c194)
def km_c195 : List (Nat × Jvm.ClassFile.Instr) := [(0, .aload_n 0), (1, .getfield 40), (4, .iconst 0), (5, .iaload), (6, .ifCond .eq 21), (9, .iload_n 1), (10, .iconst 0), (11, .iconst 1), (12, .aload_n 0), (13, .getfield 40), (16, .iconst 1), (17, .iaload), (18, .ishl), (19, .iconst 1), (20, .isub), (21, .invokestatic 246), (24, .ifCond .ne 5), (27, .iconst (-1)), (28, .ireturn), (29, .aload_n 0), (30, .aload_n 0), (31, .getfield 40), (34, .invokevirtual 263), (37, .aload_n 0), (38, .aload_n 0), (39, .getfield 40), (42, .iload_n 1), (43, .invokevirtual 337), (46, .ireturn)]
def km_q195 : km_Q := (yX9_loops, cX9_loops, 2, (some .int), 9, 2, false, km_c195)
def km_c196 : List (Nat × Jvm.ClassFile.Instr) := [(0, .iconst 0), (1, .istore_n 2), (2, .iload_n 2), (3, .sipush 201), (6, .if_icmp .ge 16), (9, .aload_n 0), (10, .getfield 101), (13, .iload_n 2), (14, .iconst 0), (15, .iastore), (16, .iinc 2 1), (19, .goto (-17)), (22, .aload_n 1), (23, .iconst 0), (24, .iaload), (25, .ifCond .ne 4), (28, .return_), (29, .aload_n 0), (30, .aload_n 1), (31, .invokevirtual 263), (34, .iconst 0), (35, .istore_n 2), (36, .iload_n 2), (37, .iconst 1), (38, .aload_n 1), (39, .iconst 1), (40, .iaload), (41, .ishl), (42, .if_icmp .ge 110), (45, .iconst 0), (46, .istore_n 3), (47, .iload_n 3), (48, .sipush 201), (51, .if_icmp .ge 16), (54, .aload_n 0), (55, .getfield 104), (58, .iload_n 3), (59, .iconst 0), (60, .iastore), (61, .iinc 3 1), (64, .goto (-17)), (67, .aload_n 0), (68, .getfield 104), (71, .bipush 100), (73, .aload_n 1), (74, .iconst 1), (75, .iaload), (76, .iadd), (77, .iconst 2), (78, .iload_n 2), (79, .invokestatic 340), (82, .imul), (83, .isub), (84, .iconst 1), (85, .iastore), (86, .aload_n 0), (87, .aload_n 1), (88, .iload_n 2), (89, .invokevirtual 337), (92, .istore_n 3), (93, .iconst 1), (94, .istore 4), (96, .iload 4), (98, .iload_n 3), (99, .if_icmp .ge 13), (102, .aload_n 0), (103, .invokevirtual 343), (106, .iinc 4 1), (109, .goto (-13)), (112, .iconst 0), (113, .istore 4), (115, .iload 4), (117, .sipush 201), (120, .if_icmp .ge 26), (123, .aload_n 0), (124, .getfield 101), (127, .iload 4), (129, .dup2), (130, .iaload), (131, .aload_n 0), (132, .getfield 104), (135, .iload 4), (137, .iaload), (138, .iadd), (139, .iastore), (140, .iinc 4 1), (143, .goto (-28)), (146, .iinc 2 1), (149, .goto (-113)), (152, .return_)]
def km_q196 : km_Q := (yX9_laysBracket, cX9_laysBracket, 5, none, 9, 2, false, km_c196)
def km_c197 : List (Nat × Jvm.ClassFile.Instr) := [(0, .iconst 0), (1, .istore_n 1), (2, .iload_n 1), (3, .sipush 201), (6, .if_icmp .ge 55), (9, .aload_n 0), (10, .getfield 107), (13, .iload_n 1), (14, .iload_n 1), (15, .iconst 1), (16, .if_icmp .le 14), (19, .aload_n 0), (20, .getfield 104), (23, .iload_n 1), (24, .iconst 2), (25, .isub), (26, .iaload), (27, .goto 4), (30, .iconst 0), (31, .ineg), (32, .iload_n 1), (33, .iconst 2), (34, .iadd), (35, .sipush 201), (38, .if_icmp .ge 14), (41, .aload_n 0), (42, .getfield 104), (45, .iload_n 1), (46, .iconst 2), (47, .iadd), (48, .iaload), (49, .goto 4), (52, .iconst 0), (53, .isub), (54, .iastore), (55, .iinc 1 1), (58, .goto (-56)), (61, .iconst 0), (62, .istore_n 1), (63, .iload_n 1), (64, .sipush 201), (67, .if_icmp .ge 21), (70, .aload_n 0), (71, .getfield 104), (74, .iload_n 1), (75, .aload_n 0), (76, .getfield 107), (79, .iload_n 1), (80, .iaload), (81, .iastore), (82, .iinc 1 1), (85, .goto (-22)), (88, .return_)]
def km_q197 : km_Q := (yX9_timesLoop, cX9_timesLoop, 2, none, 9, 1, false, km_c197)
def km_c198 : List (Nat × Jvm.ClassFile.Instr) := [(0, .iconst 0), (1, .istore_n 1), (2, .iconst 0), (3, .istore_n 2), (4, .iload_n 2), (5, .aload_n 0), (6, .iconst 1), (7, .iaload), (8, .if_icmp .ge 18), (11, .iload_n 1), (12, .aload_n 0), (13, .bipush 70), (15, .iload_n 2), (16, .iadd), (17, .iaload), (18, .iadd), (19, .istore_n 1), (20, .iinc 2 1), (23, .goto (-19)), (26, .iload_n 1), (27, .ireturn)]
def km_q198 : km_Q := (yX9_writhe, cX9_writhe, 3, (some .int), 9, 1, true, km_c198)
def km_c199 : List (Nat × Jvm.ClassFile.Instr) := [(0, .aload_n 1), (1, .invokestatic 346), (4, .istore_n 3), (5, .bipush 100), (7, .iload_n 2), (8, .iadd), (9, .iconst 3), (10, .iload_n 3), (11, .imul), (12, .iadd), (13, .istore 4), (15, .iload_n 2), (16, .bipush (-99)), (18, .bipush 99), (20, .invokestatic 246), (23, .ifCond .eq 25), (26, .iload 4), (28, .iconst 0), (29, .sipush 200), (32, .invokestatic 246), (35, .ifCond .eq 13), (38, .aload_n 0), (39, .getfield 101), (42, .iload 4), (44, .iaload), (45, .goto 4), (48, .iconst 0), (49, .istore 5), (51, .iload_n 3), (52, .iconst 2), (53, .irem), (54, .ifCond .ne 8), (57, .iload 5), (59, .goto 6), (62, .iload 5), (64, .ineg), (65, .ireturn)]
def km_q199 : km_Q := (yX9_knottedAt, cX9_knottedAt, 6, (some .int), 9, 3, false, km_c199)
def km_c200 : List (Nat × Jvm.ClassFile.Instr) := [(0, .aload_n 0), (1, .aload_n 0), (2, .getfield 40), (5, .invokevirtual 349), (8, .iload_n 2), (9, .ifCond .eq 13), (12, .aload_n 0), (13, .aload_n 0), (14, .getfield 40), (17, .iload_n 1), (18, .invokevirtual 352), (21, .ireturn), (22, .iload_n 1), (23, .bipush (-100)), (25, .bipush 100), (27, .invokestatic 246), (30, .ifCond .eq 15), (33, .aload_n 0), (34, .getfield 101), (37, .bipush 100), (39, .iload_n 1), (40, .iadd), (41, .iaload), (42, .goto 4), (45, .iconst 0), (46, .ireturn)]
def km_q200 : km_Q := (yX9_coefficient, cX9_coefficient, 3, (some .int), 9, 3, false, km_c200)
def km_c201 : List (Nat × Jvm.ClassFile.Instr) := [(0, .aload_n 0), (1, .aload_n 0), (2, .getfield 40), (5, .invokevirtual 349), (8, .iconst 0), (9, .istore_n 1), (10, .iload_n 1), (11, .sipush 201), (14, .if_icmp .ge 18), (17, .aload_n 0), (18, .getfield 101), (21, .iload_n 1), (22, .iaload), (23, .ifCond .ne 9), (26, .iinc 1 1), (29, .goto (-19)), (32, .sipush 200), (35, .istore_n 2), (36, .iload_n 2), (37, .iload_n 1), (38, .if_icmp .le 18), (41, .aload_n 0), (42, .getfield 101), (45, .iload_n 2), (46, .iaload), (47, .ifCond .ne 9), (50, .iinc 2 (-1)), (53, .goto (-17)), (56, .iload_n 1), (57, .sipush 201), (60, .if_icmp .ne 7), (63, .iconst 0), (64, .goto 6), (67, .iload_n 2), (68, .iload_n 1), (69, .isub), (70, .ireturn)]
def km_q201 : km_Q := (yX9_span, cX9_span, 3, (some .int), 9, 1, false, km_c201)
def km_c202 : List (Nat × Jvm.ClassFile.Instr) := [(0, .iload_n 1), (1, .iconst 0), (2, .aload_n 0), (3, .getfield 40), (6, .iconst 0), (7, .iaload), (8, .iconst 1), (9, .isub), (10, .invokestatic 246), (13, .ifCond .eq 24), (16, .iload_n 2), (17, .iconst 0), (18, .aload_n 0), (19, .getfield 40), (22, .iconst 0), (23, .iaload), (24, .iconst 1), (25, .isub), (26, .invokestatic 246), (29, .ifCond .eq 8), (32, .iload_n 1), (33, .iload_n 2), (34, .if_icmp .ne 7), (37, .ldc_w 327), (40, .ireturn), (41, .aload_n 0), (42, .aload_n 0), (43, .getfield 40), (46, .invokevirtual 263), (49, .iconst 0), (50, .istore_n 3), (51, .iconst 0), (52, .istore 4), (54, .iload 4), (56, .aload_n 0), (57, .getfield 40), (60, .iconst 1), (61, .iaload), (62, .if_icmp .ge 74), (65, .aload_n 0), (66, .getfield 61), (69, .aload_n 0), (70, .iload 4), (72, .iconst 0), (73, .invokevirtual 331), (76, .iaload), (77, .istore 5), (79, .aload_n 0), (80, .getfield 61), (83, .aload_n 0), (84, .iload 4), (86, .iconst 1), (87, .invokevirtual 331), (90, .iaload), (91, .istore 6), (93, .iload 5), (95, .iload_n 1), (96, .if_icmp .ne 9), (99, .iload 6), (101, .iload_n 2), (102, .if_icmp .eq 15), (105, .iload 5), (107, .iload_n 2), (108, .if_icmp .ne 22), (111, .iload 6), (113, .iload_n 1), (114, .if_icmp .ne 16), (117, .iload_n 3), (118, .aload_n 0), (119, .getfield 40), (122, .bipush 70), (124, .iload 4), (126, .iadd), (127, .iaload), (128, .iadd), (129, .istore_n 3), (130, .iinc 4 1), (133, .goto (-79)), (136, .iload_n 3), (137, .iconst 2), (138, .idiv), (139, .ireturn)]
def km_q202 : km_Q := (yX9_winding, cX9_winding, 7, (some .int), 9, 3, false, km_c202)
def km_c203 : List (Nat × Jvm.ClassFile.Instr) := [(0, .aload_n 0), (1, .aload_n 1), (2, .invokevirtual 263), (5, .iconst 0), (6, .istore_n 2), (7, .iconst 0), (8, .istore_n 3), (9, .iload_n 3), (10, .aload_n 0), (11, .getfield 257), (14, .if_icmp .ge 75), (17, .aload_n 0), (18, .getfield 58), (21, .iload_n 3), (22, .iaload), (23, .iconst 2), (24, .irem), (25, .iconst 1), (26, .if_icmp .ne 6), (29, .goto 54), (32, .aload_n 0), (33, .getfield 113), (36, .iload_n 3), (37, .iload_n 2), (38, .iastore), (39, .aload_n 0), (40, .getfield 64), (43, .iload_n 3), (44, .iaload), (45, .istore 4), (47, .aload_n 0), (48, .getfield 58), (51, .iload 4), (53, .iaload), (54, .iconst 2), (55, .irem), (56, .iconst 1), (57, .if_icmp .ne 23), (60, .aload_n 0), (61, .getfield 113), (64, .iload 4), (66, .iload_n 2), (67, .iastore), (68, .aload_n 0), (69, .getfield 64), (72, .iload 4), (74, .iaload), (75, .istore 4), (77, .goto (-30)), (80, .iinc 2 1), (83, .iinc 3 1), (86, .goto (-77)), (89, .iconst 0), (90, .istore_n 3), (91, .iload_n 3), (92, .aload_n 1), (93, .iconst 0), (94, .iaload), (95, .if_icmp .ge 113), (98, .iconst 0), (99, .istore 4), (101, .iconst 0), (102, .istore 5), (104, .iload 5), (106, .aload_n 0), (107, .getfield 257), (110, .if_icmp .ge 44), (113, .iload 4), (115, .ifCond .ne 26), (118, .aload_n 0), (119, .getfield 61), (122, .iload 5), (124, .iaload), (125, .iload_n 3), (126, .if_icmp .ne 19), (129, .aload_n 0), (130, .getfield 58), (133, .iload 5), (135, .iaload), (136, .iconst 2), (137, .irem), (138, .ifCond .ne 7), (141, .iconst 1), (142, .goto 4), (145, .iconst 0), (146, .istore 4), (148, .iinc 5 1), (151, .goto (-47)), (154, .iload 4), (156, .ifCond .eq 6), (159, .goto 43), (162, .iconst 0), (163, .istore 5), (165, .iload 5), (167, .aload_n 0), (168, .getfield 257), (171, .if_icmp .ge 28), (174, .aload_n 0), (175, .getfield 61), (178, .iload 5), (180, .iaload), (181, .iload_n 3), (182, .if_icmp .ne 11), (185, .aload_n 0), (186, .getfield 113), (189, .iload 5), (191, .iload_n 2), (192, .iastore), (193, .iinc 5 1), (196, .goto (-31)), (199, .iinc 2 1), (202, .iinc 3 1), (205, .goto (-114)), (208, .iload_n 2), (209, .ireturn)]
def km_q203 : km_Q := (yX9_laysArcs, cX9_laysArcs, 6, (some .int), 9, 2, false, km_c203)
def km_c204 : List (Nat × Jvm.ClassFile.Instr) := [(0, .aload_n 0), (1, .aload_n 0), (2, .getfield 40), (5, .invokevirtual 328), (8, .istore_n 1), (9, .iconst 0), (10, .istore_n 2), (11, .iload_n 2), (12, .bipush 96), (14, .if_icmp .ge 16), (17, .aload_n 0), (18, .getfield 116), (21, .iload_n 2), (22, .lconst 0), (23, .lastore), (24, .iinc 2 1), (27, .goto (-16)), (30, .iconst 0), (31, .istore_n 2), (32, .iload_n 2), (33, .aload_n 0), (34, .getfield 40), (37, .iconst 1), (38, .iaload), (39, .if_icmp .ge 88), (42, .aload_n 0), (43, .iload_n 2), (44, .iconst 0), (45, .invokevirtual 331), (48, .istore_n 3), (49, .aload_n 0), (50, .getfield 116), (53, .bipush 12), (55, .iload_n 2), (56, .imul), (57, .aload_n 0), (58, .getfield 113), (61, .aload_n 0), (62, .iload_n 2), (63, .iconst 1), (64, .invokevirtual 331), (67, .iaload), (68, .iadd), (69, .dup2), (70, .laload), (71, .ldc2_w 355), (74, .ladd), (75, .lastore), (76, .aload_n 0), (77, .getfield 116), (80, .bipush 12), (82, .iload_n 2), (83, .imul), (84, .aload_n 0), (85, .getfield 113), (88, .iload_n 3), (89, .iaload), (90, .iadd), (91, .dup2), (92, .laload), (93, .lconst 1), (94, .lsub), (95, .lastore), (96, .aload_n 0), (97, .getfield 116), (100, .bipush 12), (102, .iload_n 2), (103, .imul), (104, .aload_n 0), (105, .getfield 113), (108, .aload_n 0), (109, .getfield 67), (112, .iload_n 3), (113, .iaload), (114, .iaload), (115, .iadd), (116, .dup2), (117, .laload), (118, .lconst 1), (119, .lsub), (120, .lastore), (121, .iinc 2 1), (124, .goto (-92)), (127, .iload_n 1), (128, .ireturn)]
def km_q204 : km_Q := (yX9_laysRows, cX9_laysRows, 4, (some .int), 9, 1, false, km_c204)
def km_c205 : List (Nat × Jvm.ClassFile.Instr) := [(0, .iload_n 1), (1, .iconst 2), (2, .if_icmp .eq 35), (5, .iload_n 1), (6, .iconst 3), (7, .if_icmp .eq 30), (10, .iload_n 1), (11, .iconst 5), (12, .if_icmp .eq 25), (15, .iload_n 1), (16, .bipush 7), (18, .if_icmp .eq 19), (21, .iload_n 1), (22, .bipush 11), (24, .if_icmp .eq 13), (27, .iload_n 1), (28, .bipush 13), (30, .if_icmp .eq 7), (33, .ldc2_w 357), (36, .lreturn), (37, .aload_n 0), (38, .invokevirtual 359), (41, .istore_n 2), (42, .aload_n 0), (43, .getfield 40), (46, .iconst 1), (47, .iaload), (48, .istore_n 3), (49, .iconst 0), (50, .istore 4), (52, .iconst 0), (53, .istore 5), (55, .iload 5), (57, .iload_n 2), (58, .if_icmp .ge 100), (61, .iload 4), (63, .istore 6), (65, .iload 6), (67, .iload_n 3), (68, .if_icmp .ge 31), (71, .aload_n 0), (72, .getfield 116), (75, .bipush 12), (77, .iload 6), (79, .imul), (80, .iload 5), (82, .iadd), (83, .laload), (84, .iload_n 1), (85, .invokestatic 363), (88, .lconst 0), (89, .lcmp), (90, .ifCond .ne 9), (93, .iinc 6 1), (96, .goto (-31)), (99, .iload 6), (101, .iload_n 3), (102, .if_icmp .lt 6), (105, .goto 47), (108, .aload_n 0), (109, .iload 6), (111, .iload 4), (113, .invokevirtual 366), (116, .iconst 0), (117, .istore 7), (119, .iload 7), (121, .iload_n 3), (122, .if_icmp .ge 27), (125, .iload 7), (127, .iload 4), (129, .if_icmp .eq 14), (132, .aload_n 0), (133, .iload 7), (135, .iload 4), (137, .iload 5), (139, .iload_n 1), (140, .invokevirtual 369), (143, .iinc 7 1), (146, .goto (-27)), (149, .iinc 4 1), (152, .iinc 5 1), (155, .goto (-100)), (158, .lconst 1), (159, .lstore 5), (161, .iload 4), (163, .istore 7), (165, .iload 7), (167, .iload_n 2), (168, .if_icmp .ge 16), (171, .lload 5), (173, .iload_n 1), (174, .i2l), (175, .lmul), (176, .lstore 5), (178, .iinc 7 1), (181, .goto (-16)), (184, .lload 5), (186, .lreturn)]
def km_q205 : km_Q := (yX9_colourings, cX9_colourings, 8, (some .long), 9, 2, false, km_c205)
def km_c206 : List (Nat × Jvm.ClassFile.Instr) := [(0, .lload_n 0), (1, .iload_n 2), (2, .i2l), (3, .lrem), (4, .iload_n 2), (5, .i2l), (6, .ladd), (7, .iload_n 2), (8, .i2l), (9, .lrem), (10, .lreturn)]
def km_q206 : km_Q := (yX9_rest, cX9_rest, 3, (some .long), 9, 2, true, km_c206)
def km_c207 : List (Nat × Jvm.ClassFile.Instr) := [(0, .iconst 0), (1, .istore_n 3), (2, .iload_n 3), (3, .bipush 12), (5, .if_icmp .ge 57), (8, .aload_n 0), (9, .getfield 116), (12, .bipush 12), (14, .iload_n 1), (15, .imul), (16, .iload_n 3), (17, .iadd), (18, .laload), (19, .lstore 4), (21, .aload_n 0), (22, .getfield 116), (25, .bipush 12), (27, .iload_n 1), (28, .imul), (29, .iload_n 3), (30, .iadd), (31, .aload_n 0), (32, .getfield 116), (35, .bipush 12), (37, .iload_n 2), (38, .imul), (39, .iload_n 3), (40, .iadd), (41, .laload), (42, .lastore), (43, .aload_n 0), (44, .getfield 116), (47, .bipush 12), (49, .iload_n 2), (50, .imul), (51, .iload_n 3), (52, .iadd), (53, .lload 4), (55, .lastore), (56, .iinc 3 1), (59, .goto (-57)), (62, .return_)]
def km_q207 : km_Q := (yX9_exchangesRows, cX9_exchangesRows, 6, none, 9, 3, false, km_c207)
def km_c208 : List (Nat × Jvm.ClassFile.Instr) := [(0, .aload_n 0), (1, .getfield 116), (4, .bipush 12), (6, .iload_n 1), (7, .imul), (8, .iload_n 3), (9, .iadd), (10, .laload), (11, .iload 4), (13, .invokestatic 363), (16, .lstore 5), (18, .aload_n 0), (19, .getfield 116), (22, .bipush 12), (24, .iload_n 2), (25, .imul), (26, .iload_n 3), (27, .iadd), (28, .laload), (29, .iload 4), (31, .invokestatic 363), (34, .lstore 7), (36, .iconst 0), (37, .istore 9), (39, .iload 9), (41, .bipush 12), (43, .if_icmp .ge 57), (46, .aload_n 0), (47, .getfield 116), (50, .bipush 12), (52, .iload_n 1), (53, .imul), (54, .iload 9), (56, .iadd), (57, .aload_n 0), (58, .getfield 116), (61, .bipush 12), (63, .iload_n 1), (64, .imul), (65, .iload 9), (67, .iadd), (68, .laload), (69, .lload 7), (71, .lmul), (72, .aload_n 0), (73, .getfield 116), (76, .bipush 12), (78, .iload_n 2), (79, .imul), (80, .iload 9), (82, .iadd), (83, .laload), (84, .lload 5), (86, .lmul), (87, .lsub), (88, .iload 4), (90, .invokestatic 363), (93, .lastore), (94, .iinc 9 1), (97, .goto (-58)), (100, .return_)]
def km_q208 : km_Q := (yX9_clears, cX9_clears, 10, none, 9, 5, false, km_c208)
def km_c209 : List (Nat × Jvm.ClassFile.Instr) := [(0, .aload_n 0), (1, .getfield 40), (4, .iconst 0), (5, .iaload), (6, .ifCond .ne 5), (9, .lconst 0), (10, .lreturn), (11, .aload_n 0), (12, .getfield 40), (15, .iconst 1), (16, .iaload), (17, .istore_n 1), (18, .iload_n 1), (19, .ifCond .ne 19), (22, .aload_n 0), (23, .getfield 40), (26, .iconst 0), (27, .iaload), (28, .iconst 1), (29, .if_icmp .ne 7), (32, .lconst 1), (33, .goto 4), (36, .lconst 0), (37, .lreturn), (38, .aload_n 0), (39, .invokevirtual 359), (42, .iload_n 1), (43, .if_icmp .le 5), (46, .lconst 0), (47, .lreturn), (48, .lconst 1), (49, .lstore_n 2), (50, .iconst 0), (51, .istore 4), (53, .iload 4), (55, .iload_n 1), (56, .iconst 1), (57, .isub), (58, .if_icmp .ge 185), (61, .iload 4), (63, .istore 5), (65, .iload 5), (67, .iload_n 1), (68, .iconst 1), (69, .isub), (70, .if_icmp .ge 27), (73, .aload_n 0), (74, .getfield 116), (77, .bipush 12), (79, .iload 5), (81, .imul), (82, .iload 4), (84, .iadd), (85, .laload), (86, .lconst 0), (87, .lcmp), (88, .ifCond .ne 9), (91, .iinc 5 1), (94, .goto (-29)), (97, .iload 5), (99, .iload_n 1), (100, .iconst 1), (101, .isub), (102, .if_icmp .ne 5), (105, .lconst 0), (106, .lreturn), (107, .aload_n 0), (108, .iload 5), (110, .iload 4), (112, .invokevirtual 366), (115, .iload 4), (117, .iconst 1), (118, .iadd), (119, .istore 6), (121, .iload 6), (123, .iload_n 1), (124, .iconst 1), (125, .isub), (126, .if_icmp .ge 97), (129, .iload_n 1), (130, .iconst 2), (131, .isub), (132, .istore 7), (134, .iload 7), (136, .iload 4), (138, .if_icmp .le 79), (141, .aload_n 0), (142, .getfield 116), (145, .bipush 12), (147, .iload 6), (149, .imul), (150, .iload 7), (152, .iadd), (153, .aload_n 0), (154, .getfield 116), (157, .bipush 12), (159, .iload 6), (161, .imul), (162, .iload 7), (164, .iadd), (165, .laload), (166, .aload_n 0), (167, .getfield 116), (170, .bipush 12), (172, .iload 4), (174, .imul), (175, .iload 4), (177, .iadd), (178, .laload), (179, .lmul), (180, .aload_n 0), (181, .getfield 116), (184, .bipush 12), (186, .iload 6), (188, .imul), (189, .iload 4), (191, .iadd), (192, .laload), (193, .aload_n 0), (194, .getfield 116), (197, .bipush 12), (199, .iload 4), (201, .imul), (202, .iload 7), (204, .iadd), (205, .laload), (206, .lmul), (207, .lsub), (208, .lload_n 2), (209, .ldiv), (210, .lastore), (211, .iinc 7 (-1)), (214, .goto (-80)), (217, .iinc 6 1), (220, .goto (-99)), (223, .aload_n 0), (224, .getfield 116), (227, .bipush 12), (229, .iload 4), (231, .imul), (232, .iload 4), (234, .iadd), (235, .laload), (236, .lstore_n 2), (237, .iinc 4 1), (240, .goto (-187)), (243, .lload_n 2), (244, .lconst 0), (245, .lcmp), (246, .ifCond .ge 8), (249, .lload_n 2), (250, .lneg), (251, .goto 4), (254, .lload_n 2), (255, .lreturn)]
def km_q209 : km_Q := (yX9_determinant, cX9_determinant, 8, (some .long), 9, 1, false, km_c209)
def km_c210 : List (Nat × Jvm.ClassFile.Instr) := [(0, .iconst (-1)), (1, .istore_n 1), (2, .iconst 0), (3, .istore_n 2), (4, .iload_n 2), (5, .iconst 1), (6, .aload_n 0), (7, .getfield 40), (10, .iconst 1), (11, .iaload), (12, .ishl), (13, .if_icmp .ge 100), (16, .iload_n 1), (17, .ifCond .lt 14), (20, .iload_n 2), (21, .invokestatic 340), (24, .iload_n 1), (25, .if_icmp .lt 6), (28, .goto 79), (31, .aload_n 0), (32, .getfield 40), (35, .aload_n 0), (36, .getfield 98), (39, .invokestatic 209), (42, .iconst 0), (43, .istore_n 3), (44, .iload_n 3), (45, .aload_n 0), (46, .getfield 40), (49, .iconst 1), (50, .iaload), (51, .if_icmp .ge 25), (54, .iload_n 2), (55, .iload_n 3), (56, .invokestatic 250), (59, .ifCond .eq 11), (62, .aload_n 0), (63, .getfield 98), (66, .iload_n 3), (67, .invokestatic 324), (70, .iinc 3 1), (73, .goto (-29)), (76, .aload_n 0), (77, .aload_n 0), (78, .getfield 98), (81, .invokevirtual 321), (84, .istore_n 3), (85, .aload_n 0), (86, .getfield 98), (89, .iconst 1), (90, .iaload), (91, .ifCond .le 6), (94, .goto 13), (97, .iload_n 2), (98, .invokestatic 340), (101, .istore_n 1), (102, .aload_n 0), (103, .iload_n 2), (104, .putfield 373), (107, .iinc 2 1), (110, .goto (-106)), (113, .iload_n 1), (114, .ireturn)]
def km_q210 : km_Q := (yX9_fewestSwitches, cX9_fewestSwitches, 4, (some .int), 9, 1, false, km_c210)
def km_c211 : List (Nat × Jvm.ClassFile.Instr) := [(0, .iload_n 1), (1, .iconst 0), (2, .iconst 1), (3, .invokestatic 246), (6, .ifCond .ne 5), (9, .iconst (-1)), (10, .ireturn), (11, .aload_n 0), (12, .invokevirtual 376), (15, .istore_n 2), (16, .iload_n 2), (17, .ifCond .ge 8), (20, .bipush (-2)), (22, .goto 15), (25, .iload_n 1), (26, .ifCond .ne 7), (29, .iload_n 2), (30, .goto 7), (33, .aload_n 0), (34, .getfield 373), (37, .ireturn)]
def km_q211 : km_Q := (yX9_freed, cX9_freed, 3, (some .int), 9, 2, false, km_c211)
def km_c212 : List (Nat × Jvm.ClassFile.Instr) := [(0, .iconst 0), (1, .istore_n 2), (2, .iload_n 2), (3, .bipush 78), (5, .if_icmp .ge 26), (8, .aload_n 0), (9, .getfield 98), (12, .iload_n 2), (13, .aload_n 0), (14, .getfield 119), (17, .bipush 78), (19, .iload_n 1), (20, .imul), (21, .iload_n 2), (22, .iadd), (23, .iaload), (24, .iastore), (25, .iinc 2 1), (28, .goto (-26)), (31, .aload_n 0), (32, .aload_n 0), (33, .getfield 98), (36, .invokevirtual 321), (39, .istore_n 2), (40, .aload_n 0), (41, .getfield 98), (44, .iconst 1), (45, .iaload), (46, .aload_n 0), (47, .getfield 40), (50, .iconst 1), (51, .iaload), (52, .if_icmp .ge 7), (55, .iconst 1), (56, .goto 4), (59, .iconst 0), (60, .ireturn)]
def km_q212 : km_Q := (yX9_isLooser, cX9_isLooser, 3, (some .boolean), 9, 2, false, km_c212)
def km_c213 : List (Nat × Jvm.ClassFile.Instr) := [(0, .iload_n 1), (1, .iconst 0), (2, .iconst 3), (3, .invokestatic 246), (6, .ifCond .ne 5), (9, .iconst (-1)), (10, .ireturn), (11, .iconst 0), (12, .istore_n 2), (13, .iload_n 2), (14, .bipush 78), (16, .if_icmp .ge 21), (19, .aload_n 0), (20, .getfield 119), (23, .iload_n 2), (24, .aload_n 0), (25, .getfield 40), (28, .iload_n 2), (29, .iaload), (30, .iastore), (31, .iinc 2 1), (34, .goto (-21)), (37, .aload_n 0), (38, .getfield 122), (41, .iconst 0), (42, .iconst 0), (43, .iastore), (44, .iconst 0), (45, .istore_n 2), (46, .aload_n 0), (47, .iconst 0), (48, .invokevirtual 379), (51, .ifCond .eq 5), (54, .iconst 1), (55, .ireturn), (56, .iload_n 2), (57, .ifCond .lt 187), (60, .iconst 0), (61, .istore_n 3), (62, .iload_n 3), (63, .bipush 78), (65, .if_icmp .ge 26), (68, .aload_n 0), (69, .getfield 98), (72, .iload_n 3), (73, .aload_n 0), (74, .getfield 119), (77, .bipush 78), (79, .iload_n 2), (80, .imul), (81, .iload_n 3), (82, .iadd), (83, .iaload), (84, .iastore), (85, .iinc 3 1), (88, .goto (-26)), (91, .aload_n 0), (92, .aload_n 0), (93, .getfield 98), (96, .invokevirtual 277), (99, .istore_n 3), (100, .aload_n 0), (101, .getfield 122), (104, .iload_n 2), (105, .iaload), (106, .iload_n 3), (107, .if_icmp .ge 34), (110, .aload_n 0), (111, .aload_n 0), (112, .getfield 98), (115, .aload_n 0), (116, .getfield 122), (119, .iload_n 2), (120, .iaload), (121, .invokevirtual 290), (124, .iconst 3), (125, .if_icmp .eq 16), (128, .aload_n 0), (129, .getfield 122), (132, .iload_n 2), (133, .dup2), (134, .iaload), (135, .iconst 1), (136, .iadd), (137, .iastore), (138, .goto (-38)), (141, .iload_n 2), (142, .iload_n 1), (143, .if_icmp .eq 13), (146, .aload_n 0), (147, .getfield 122), (150, .iload_n 2), (151, .iaload), (152, .iload_n 3), (153, .if_icmp .lt 9), (156, .iinc 2 (-1)), (159, .goto (-103)), (162, .aload_n 0), (163, .aload_n 0), (164, .getfield 98), (167, .aload_n 0), (168, .getfield 122), (171, .iload_n 2), (172, .iaload), (173, .invokevirtual 318), (176, .aload_n 0), (177, .getfield 122), (180, .iload_n 2), (181, .dup2), (182, .iaload), (183, .iconst 1), (184, .iadd), (185, .iastore), (186, .iinc 2 1), (189, .iconst 0), (190, .istore 4), (192, .iload 4), (194, .bipush 78), (196, .if_icmp .ge 28), (199, .aload_n 0), (200, .getfield 119), (203, .bipush 78), (205, .iload_n 2), (206, .imul), (207, .iload 4), (209, .iadd), (210, .aload_n 0), (211, .getfield 98), (214, .iload 4), (216, .iaload), (217, .iastore), (218, .iinc 4 1), (221, .goto (-29)), (224, .aload_n 0), (225, .getfield 122), (228, .iload_n 2), (229, .iconst 0), (230, .iastore), (231, .aload_n 0), (232, .iload_n 2), (233, .invokevirtual 379), (236, .ifCond .eq 5), (239, .iconst 1), (240, .ireturn), (241, .goto (-185)), (244, .iconst 0), (245, .ireturn)]
def km_q213 : km_Q := (yX9_looser, cX9_looser, 5, (some .int), 9, 2, false, km_c213)
def km_c214 : List (Nat × Jvm.ClassFile.Instr) := [(0, .aload_n 0), (1, .getfield 40), (4, .iconst 0), (5, .iaload), (6, .aload_n 0), (7, .getfield 98), (10, .iconst 0), (11, .iaload), (12, .if_icmp .ne 18), (15, .aload_n 0), (16, .getfield 40), (19, .iconst 1), (20, .iaload), (21, .aload_n 0), (22, .getfield 98), (25, .iconst 1), (26, .iaload), (27, .if_icmp .eq 5), (30, .iconst 0), (31, .ireturn), (32, .iconst 0), (33, .istore_n 1), (34, .iload_n 1), (35, .aload_n 0), (36, .getfield 40), (39, .iconst 0), (40, .iaload), (41, .if_icmp .ge 83), (44, .aload_n 0), (45, .getfield 40), (48, .iconst 2), (49, .iload_n 1), (50, .iadd), (51, .iaload), (52, .aload_n 0), (53, .getfield 98), (56, .iconst 2), (57, .iload_n 1), (58, .iadd), (59, .iaload), (60, .if_icmp .eq 5), (63, .iconst 0), (64, .ireturn), (65, .iconst 0), (66, .istore_n 2), (67, .iload_n 2), (68, .aload_n 0), (69, .getfield 40), (72, .iconst 2), (73, .iload_n 1), (74, .iadd), (75, .iaload), (76, .if_icmp .ge 42), (79, .aload_n 0), (80, .getfield 40), (83, .bipush 6), (85, .bipush 16), (87, .iload_n 1), (88, .imul), (89, .iadd), (90, .iload_n 2), (91, .iadd), (92, .iaload), (93, .aload_n 0), (94, .getfield 98), (97, .bipush 6), (99, .bipush 16), (101, .iload_n 1), (102, .imul), (103, .iadd), (104, .iload_n 2), (105, .iadd), (106, .iaload), (107, .if_icmp .eq 5), (110, .iconst 0), (111, .ireturn), (112, .iinc 2 1), (115, .goto (-48)), (118, .iinc 1 1), (121, .goto (-87)), (124, .iconst 0), (125, .istore_n 1), (126, .iload_n 1), (127, .aload_n 0), (128, .getfield 40), (131, .iconst 1), (132, .iaload), (133, .if_icmp .ge 32), (136, .aload_n 0), (137, .getfield 40), (140, .bipush 70), (142, .iload_n 1), (143, .iadd), (144, .iaload), (145, .aload_n 0), (146, .getfield 98), (149, .bipush 70), (151, .iload_n 1), (152, .iadd), (153, .iaload), (154, .if_icmp .eq 5), (157, .iconst 0), (158, .ireturn), (159, .iinc 1 1), (162, .goto (-36)), (165, .iconst 1), (166, .ireturn)]
def km_q214 : km_Q := (yX9_areRowsAlike, cX9_areRowsAlike, 3, (some .boolean), 9, 1, false, km_c214)
def km_c215 : List (Nat × Jvm.ClassFile.Instr) := [(0, .aload_n 0), (1, .iload_n 1), (2, .invokevirtual 312), (5, .ifCond .eq 12), (8, .iload_n 2), (9, .iconst 0), (10, .iconst 2), (11, .invokestatic 246), (14, .ifCond .ne 5), (17, .iconst (-1)), (18, .ireturn), (19, .iload_n 2), (20, .iconst 2), (21, .if_icmp .ne 16), (24, .aload_n 0), (25, .invokevirtual 382), (28, .ifCond .eq 7), (31, .iconst 1), (32, .goto 4), (35, .iconst 0), (36, .ireturn), (37, .aload_n 0), (38, .aload_n 0), (39, .getfield 98), (42, .invokevirtual 349), (45, .bipush (-99)), (47, .istore_n 3), (48, .iload_n 3), (49, .bipush 99), (51, .if_icmp .gt 27), (54, .aload_n 0), (55, .getfield 110), (58, .bipush 100), (60, .iload_n 3), (61, .iadd), (62, .aload_n 0), (63, .aload_n 0), (64, .getfield 98), (67, .iload_n 3), (68, .invokevirtual 352), (71, .iastore), (72, .iinc 3 1), (75, .goto (-27)), (78, .aload_n 0), (79, .aload_n 0), (80, .getfield 40), (83, .invokevirtual 349), (86, .bipush (-99)), (88, .istore_n 3), (89, .iload_n 3), (90, .bipush 99), (92, .if_icmp .gt 41), (95, .aload_n 0), (96, .aload_n 0), (97, .getfield 40), (100, .iload_n 3), (101, .invokevirtual 352), (104, .aload_n 0), (105, .getfield 110), (108, .bipush 100), (110, .iload_n 2), (111, .ifCond .ne 7), (114, .iload_n 3), (115, .goto 5), (118, .iload_n 3), (119, .ineg), (120, .iadd), (121, .iaload), (122, .if_icmp .eq 5), (125, .iconst 0), (126, .ireturn), (127, .iinc 3 1), (130, .goto (-41)), (133, .iconst 1), (134, .ireturn)]
def km_q215 : km_Q := (yX9_alike, cX9_alike, 4, (some .int), 9, 3, false, km_c215)
def km_c216 : List (Nat × Jvm.ClassFile.Instr) := [(0, .aload_n 0), (1, .aload_n 0), (2, .getfield 40), (5, .invokevirtual 263), (8, .iconst 0), (9, .istore_n 1), (10, .iload_n 1), (11, .aload_n 0), (12, .getfield 257), (15, .if_icmp .ge 35), (18, .aload_n 0), (19, .getfield 58), (22, .iload_n 1), (23, .iaload), (24, .iconst 2), (25, .irem), (26, .aload_n 0), (27, .getfield 58), (30, .aload_n 0), (31, .getfield 64), (34, .iload_n 1), (35, .iaload), (36, .iaload), (37, .iconst 2), (38, .irem), (39, .if_icmp .ne 5), (42, .iconst 0), (43, .ireturn), (44, .iinc 1 1), (47, .goto (-37)), (50, .iconst 1), (51, .ireturn)]
def km_q216 : km_Q := (yX9_takeTurns, cX9_takeTurns, 2, (some .int), 9, 1, false, km_c216)
def km_c217 : List (Nat × Jvm.ClassFile.Instr) := [(0, .iload_n 1), (1, .tableswitch 238 0 16 #[83, 90, 97, 106, 115, 124, 132, 141, 147, 152, 160, 166, 172, 178, 183, 188, 193]), (84, .aload_n 0), (85, .getfield 40), (88, .iconst 0), (89, .iaload), (90, .ireturn), (91, .aload_n 0), (92, .getfield 40), (95, .iconst 1), (96, .iaload), (97, .ireturn), (98, .iconst 2), (99, .aload_n 0), (100, .getfield 40), (103, .iconst 1), (104, .iaload), (105, .imul), (106, .ireturn), (107, .aload_n 0), (108, .aload_n 0), (109, .getfield 40), (112, .invokevirtual 277), (115, .ireturn), (116, .aload_n 0), (117, .aload_n 0), (118, .getfield 40), (121, .invokevirtual 281), (124, .ireturn), (125, .aload_n 0), (126, .getfield 40), (129, .invokestatic 346), (132, .ireturn), (133, .aload_n 0), (134, .aload_n 0), (135, .getfield 40), (138, .invokevirtual 328), (141, .ireturn), (142, .aload_n 0), (143, .invokevirtual 386), (146, .l2i), (147, .ireturn), (148, .aload_n 0), (149, .invokevirtual 390), (152, .ireturn), (153, .aload_n 0), (154, .getfield 40), (157, .invokestatic 334), (160, .ireturn), (161, .aload_n 0), (162, .iconst 1), (163, .invokevirtual 393), (166, .ireturn), (167, .aload_n 0), (168, .iconst 2), (169, .invokevirtual 393), (172, .ireturn), (173, .aload_n 0), (174, .iconst 3), (175, .invokevirtual 393), (178, .ireturn), (179, .aload_n 0), (180, .invokevirtual 396), (183, .ireturn), (184, .aload_n 0), (185, .getfield 129), (188, .ireturn), (189, .aload_n 0), (190, .getfield 213), (193, .ireturn), (194, .aload_n 0), (195, .getfield 95), (198, .iconst 0), (199, .baload), (200, .ifCond .eq 7), (203, .iconst 1), (204, .goto 4), (207, .iconst 0), (208, .aload_n 0), (209, .getfield 95), (212, .iconst 1), (213, .baload), (214, .ifCond .eq 7), (217, .iconst 1), (218, .goto 4), (221, .iconst 0), (222, .iadd), (223, .aload_n 0), (224, .getfield 95), (227, .iconst 2), (228, .baload), (229, .ifCond .eq 7), (232, .iconst 1), (233, .goto 4), (236, .iconst 0), (237, .iadd), (238, .ireturn), (239, .ldc_w 327), (242, .ireturn)]
def km_q217 : km_Q := (yX9_count, cX9_count, 2, (some .int), 9, 2, false, km_c217)
def km_c218 : List (Nat × Jvm.ClassFile.Instr) := [(0, .iload_n 0), (1, .iload_n 0), (2, .iconst 1), (3, .iushr), (4, .ldc_w 265), (7, .iand), (8, .isub), (9, .istore_n 0), (10, .iload_n 0), (11, .ldc_w 266), (14, .iand), (15, .iload_n 0), (16, .iconst 2), (17, .iushr), (18, .ldc_w 266), (21, .iand), (22, .iadd), (23, .istore_n 0), (24, .iload_n 0), (25, .iload_n 0), (26, .iconst 4), (27, .iushr), (28, .iadd), (29, .ldc_w 267), (32, .iand), (33, .istore_n 0), (34, .iload_n 0), (35, .iload_n 0), (36, .bipush 8), (38, .iushr), (39, .iadd), (40, .istore_n 0), (41, .iload_n 0), (42, .iload_n 0), (43, .bipush 16), (45, .iushr), (46, .iadd), (47, .istore_n 0), (48, .iload_n 0), (49, .bipush 63), (51, .iand), (52, .ireturn)]
def km_q218 : km_Q := (yJ6_bitCount_0f7a4, cJ6_bitCount_0f7a4, 1, (some .int), 10, 1, true, km_c218)
def km_c219 : List (Nat × Jvm.ClassFile.Instr) := [(0, .lload_n 0), (1, .lload_n 2), (2, .lrem), (3, .lstore 4), (5, .lload_n 0), (6, .lload_n 2), (7, .lxor), (8, .lconst 0), (9, .lcmp), (10, .ifCond .ge 15), (13, .lload 4), (15, .lconst 0), (16, .lcmp), (17, .ifCond .eq 8), (20, .lload 4), (22, .lload_n 2), (23, .ladd), (24, .lreturn), (25, .lload 4), (27, .lreturn)]
def km_q219 : km_Q := (yJ9_floorMod_f86c9, cJ9_floorMod_f86c9, 6, (some .long), 11, 2, true, km_c219)
def km_c220 : List (Nat × Jvm.ClassFile.Instr) := [(0, .lload_n 0), (1, .lconst 0), (2, .lcmp), (3, .ifCond .ge 8), (6, .lload_n 0), (7, .lneg), (8, .goto 4), (11, .lload_n 0), (12, .lreturn)]
def km_q220 : km_Q := (yJ9_abs_067f4, cJ9_abs_067f4, 2, (some .long), 11, 1, true, km_c220)
def km_c221 : List (Nat × Jvm.ClassFile.Instr) := [(0, .iload_n 0), (1, .iload_n 1), (2, .if_icmp .lt 7), (5, .iload_n 0), (6, .goto 4), (9, .iload_n 1), (10, .ireturn)]
def km_q221 : km_Q := (yJ9_max_7cf53, cJ9_max_7cf53, 2, (some .int), 11, 2, true, km_c221)
def km_c222 : List (Nat × Jvm.ClassFile.Instr) := [(0, .iload_n 0), (1, .iload_n 1), (2, .if_icmp .gt 7), (5, .iload_n 0), (6, .goto 4), (9, .iload_n 1), (10, .ireturn)]
def km_q222 : km_Q := (yJ9_min_7cf53, cJ9_min_7cf53, 2, (some .int), 11, 2, true, km_c222)
def km_c223 : List (Nat × Jvm.ClassFile.Instr) := [(0, .new 7), (3, .dup), (4, .invokespecial 9), (7, .astore_n 1), (8, .new 10), (11, .dup), (12, .invokespecial 12), (15, .astore_n 2), (16, .iconst 0), (17, .istore_n 3), (18, .iload_n 3), (19, .aload_n 0), (20, .arraylength), (21, .bipush 6), (23, .isub), (24, .if_icmp .gt 851), (27, .aload_n 0), (28, .iload_n 3), (29, .iaload), (30, .bipush 31), (32, .iand), (33, .tableswitch 836 0 25 #[119, 182, 205, 218, 231, 254, 277, 352, 365, 378, 401, 424, 447, 460, 493, 526, 559, 582, 631, 664, 688, 711, 734, 767, 790, 813]), (152, .aload_n 1), (153, .aload_n 0), (154, .iload_n 3), (155, .iconst 1), (156, .iadd), (157, .iaload), (158, .aload_n 0), (159, .iload_n 3), (160, .iconst 2), (161, .iadd), (162, .iaload), (163, .aload_n 0), (164, .iload_n 3), (165, .iconst 3), (166, .iadd), (167, .iaload), (168, .aload_n 0), (169, .iload_n 3), (170, .iconst 4), (171, .iadd), (172, .iaload), (173, .aload_n 0), (174, .iload_n 3), (175, .iconst 5), (176, .iadd), (177, .iaload), (178, .invokevirtual 13), (181, .aload_n 2), (182, .aload_n 0), (183, .iload_n 3), (184, .iconst 1), (185, .iadd), (186, .iaload), (187, .aload_n 0), (188, .iload_n 3), (189, .iconst 2), (190, .iadd), (191, .iaload), (192, .aload_n 0), (193, .iload_n 3), (194, .iconst 3), (195, .iadd), (196, .iaload), (197, .aload_n 0), (198, .iload_n 3), (199, .iconst 4), (200, .iadd), (201, .iaload), (202, .aload_n 0), (203, .iload_n 3), (204, .iconst 5), (205, .iadd), (206, .iaload), (207, .invokevirtual 17), (210, .if_icmp .eq 659), (213, .iconst 0), (214, .ireturn), (215, .aload_n 1), (216, .aload_n 0), (217, .iload_n 3), (218, .iconst 1), (219, .iadd), (220, .iaload), (221, .invokevirtual 18), (224, .aload_n 2), (225, .aload_n 0), (226, .iload_n 3), (227, .iconst 1), (228, .iadd), (229, .iaload), (230, .invokevirtual 22), (233, .if_icmp .eq 636), (236, .iconst 0), (237, .ireturn), (238, .aload_n 1), (239, .invokevirtual 23), (242, .aload_n 2), (243, .invokevirtual 27), (246, .if_icmp .eq 623), (249, .iconst 0), (250, .ireturn), (251, .aload_n 1), (252, .invokevirtual 28), (255, .aload_n 2), (256, .invokevirtual 31), (259, .if_icmp .eq 610), (262, .iconst 0), (263, .ireturn), (264, .aload_n 1), (265, .aload_n 0), (266, .iload_n 3), (267, .iconst 1), (268, .iadd), (269, .iaload), (270, .invokevirtual 32), (273, .aload_n 2), (274, .aload_n 0), (275, .iload_n 3), (276, .iconst 1), (277, .iadd), (278, .iaload), (279, .invokevirtual 35), (282, .if_icmp .eq 587), (285, .iconst 0), (286, .ireturn), (287, .aload_n 1), (288, .aload_n 0), (289, .iload_n 3), (290, .iconst 1), (291, .iadd), (292, .iaload), (293, .invokevirtual 36), (296, .aload_n 2), (297, .aload_n 0), (298, .iload_n 3), (299, .iconst 1), (300, .iadd), (301, .iaload), (302, .invokevirtual 40), (305, .if_icmp .eq 564), (308, .iconst 0), (309, .ireturn), (310, .aload_n 1), (311, .aload_n 0), (312, .iload_n 3), (313, .iconst 1), (314, .iadd), (315, .iaload), (316, .aload_n 0), (317, .iload_n 3), (318, .iconst 2), (319, .iadd), (320, .iaload), (321, .ifCond .eq 7), (324, .iconst 1), (325, .goto 4), (328, .iconst 0), (329, .aload_n 0), (330, .iload_n 3), (331, .iconst 3), (332, .iadd), (333, .iaload), (334, .ifCond .eq 7), (337, .iconst 1), (338, .goto 4), (341, .iconst 0), (342, .invokevirtual 41), (345, .aload_n 2), (346, .aload_n 0), (347, .iload_n 3), (348, .iconst 1), (349, .iadd), (350, .iaload), (351, .aload_n 0), (352, .iload_n 3), (353, .iconst 2), (354, .iadd), (355, .iaload), (356, .ifCond .eq 7), (359, .iconst 1), (360, .goto 4), (363, .iconst 0), (364, .aload_n 0), (365, .iload_n 3), (366, .iconst 3), (367, .iadd), (368, .iaload), (369, .ifCond .eq 7), (372, .iconst 1), (373, .goto 4), (376, .iconst 0), (377, .invokevirtual 45), (380, .if_icmp .eq 489), (383, .iconst 0), (384, .ireturn), (385, .aload_n 1), (386, .invokevirtual 46), (389, .aload_n 2), (390, .invokevirtual 49), (393, .if_icmp .eq 476), (396, .iconst 0), (397, .ireturn), (398, .aload_n 1), (399, .invokevirtual 50), (402, .aload_n 2), (403, .invokevirtual 54), (406, .if_icmp .eq 463), (409, .iconst 0), (410, .ireturn), (411, .aload_n 1), (412, .aload_n 0), (413, .iload_n 3), (414, .iconst 1), (415, .iadd), (416, .iaload), (417, .invokevirtual 55), (420, .aload_n 2), (421, .aload_n 0), (422, .iload_n 3), (423, .iconst 1), (424, .iadd), (425, .iaload), (426, .invokevirtual 58), (429, .if_icmp .eq 440), (432, .iconst 0), (433, .ireturn), (434, .aload_n 1), (435, .aload_n 0), (436, .iload_n 3), (437, .iconst 1), (438, .iadd), (439, .iaload), (440, .invokevirtual 59), (443, .aload_n 2), (444, .aload_n 0), (445, .iload_n 3), (446, .iconst 1), (447, .iadd), (448, .iaload), (449, .invokevirtual 62), (452, .if_icmp .eq 417), (455, .iconst 0), (456, .ireturn), (457, .aload_n 1), (458, .aload_n 0), (459, .iload_n 3), (460, .iconst 1), (461, .iadd), (462, .iaload), (463, .invokevirtual 63), (466, .aload_n 2), (467, .aload_n 0), (468, .iload_n 3), (469, .iconst 1), (470, .iadd), (471, .iaload), (472, .invokevirtual 66), (475, .if_icmp .eq 394), (478, .iconst 0), (479, .ireturn), (480, .aload_n 1), (481, .invokevirtual 67), (484, .aload_n 2), (485, .invokevirtual 70), (488, .if_icmp .eq 381), (491, .iconst 0), (492, .ireturn), (493, .aload_n 1), (494, .aload_n 0), (495, .iload_n 3), (496, .iconst 1), (497, .iadd), (498, .iaload), (499, .aload_n 0), (500, .iload_n 3), (501, .iconst 2), (502, .iadd), (503, .iaload), (504, .invokevirtual 71), (507, .aload_n 2), (508, .aload_n 0), (509, .iload_n 3), (510, .iconst 1), (511, .iadd), (512, .iaload), (513, .aload_n 0), (514, .iload_n 3), (515, .iconst 2), (516, .iadd), (517, .iaload), (518, .invokevirtual 75), (521, .if_icmp .eq 348), (524, .iconst 0), (525, .ireturn), (526, .aload_n 1), (527, .aload_n 0), (528, .iload_n 3), (529, .iconst 1), (530, .iadd), (531, .iaload), (532, .aload_n 0), (533, .iload_n 3), (534, .iconst 2), (535, .iadd), (536, .iaload), (537, .invokevirtual 76), (540, .aload_n 2), (541, .aload_n 0), (542, .iload_n 3), (543, .iconst 1), (544, .iadd), (545, .iaload), (546, .aload_n 0), (547, .iload_n 3), (548, .iconst 2), (549, .iadd), (550, .iaload), (551, .invokevirtual 79), (554, .if_icmp .eq 315), (557, .iconst 0), (558, .ireturn), (559, .aload_n 1), (560, .aload_n 0), (561, .iload_n 3), (562, .iconst 1), (563, .iadd), (564, .iaload), (565, .aload_n 0), (566, .iload_n 3), (567, .iconst 2), (568, .iadd), (569, .iaload), (570, .invokevirtual 80), (573, .aload_n 2), (574, .aload_n 0), (575, .iload_n 3), (576, .iconst 1), (577, .iadd), (578, .iaload), (579, .aload_n 0), (580, .iload_n 3), (581, .iconst 2), (582, .iadd), (583, .iaload), (584, .invokevirtual 83), (587, .if_icmp .eq 282), (590, .iconst 0), (591, .ireturn), (592, .aload_n 1), (593, .aload_n 0), (594, .iload_n 3), (595, .iconst 1), (596, .iadd), (597, .iaload), (598, .invokevirtual 84), (601, .aload_n 2), (602, .aload_n 0), (603, .iload_n 3), (604, .iconst 1), (605, .iadd), (606, .iaload), (607, .invokevirtual 87), (610, .if_icmp .eq 259), (613, .iconst 0), (614, .ireturn), (615, .aload_n 1), (616, .aload_n 0), (617, .iload_n 3), (618, .iconst 1), (619, .iadd), (620, .iaload), (621, .aload_n 0), (622, .iload_n 3), (623, .iconst 2), (624, .iadd), (625, .iaload), (626, .ifCond .eq 7), (629, .iconst 1), (630, .goto 4), (633, .iconst 0), (634, .invokevirtual 88), (637, .aload_n 2), (638, .aload_n 0), (639, .iload_n 3), (640, .iconst 1), (641, .iadd), (642, .iaload), (643, .aload_n 0), (644, .iload_n 3), (645, .iconst 2), (646, .iadd), (647, .iaload), (648, .ifCond .eq 7), (651, .iconst 1), (652, .goto 4), (655, .iconst 0), (656, .invokevirtual 92), (659, .if_icmp .eq 210), (662, .iconst 0), (663, .ireturn), (664, .aload_n 1), (665, .aload_n 0), (666, .iload_n 3), (667, .iconst 1), (668, .iadd), (669, .iaload), (670, .aload_n 0), (671, .iload_n 3), (672, .iconst 2), (673, .iadd), (674, .iaload), (675, .invokevirtual 93), (678, .aload_n 2), (679, .aload_n 0), (680, .iload_n 3), (681, .iconst 1), (682, .iadd), (683, .iaload), (684, .aload_n 0), (685, .iload_n 3), (686, .iconst 2), (687, .iadd), (688, .iaload), (689, .invokevirtual 96), (692, .if_icmp .eq 177), (695, .iconst 0), (696, .ireturn), (697, .aload_n 1), (698, .aload_n 0), (699, .iload_n 3), (700, .iconst 1), (701, .iadd), (702, .iaload), (703, .invokevirtual 97), (706, .aload_n 2), (707, .aload_n 0), (708, .iload_n 3), (709, .iconst 1), (710, .iadd), (711, .iaload), (712, .invokevirtual 101), (715, .lcmp), (716, .ifCond .eq 153), (719, .iconst 0), (720, .ireturn), (721, .aload_n 1), (722, .aload_n 0), (723, .iload_n 3), (724, .iconst 1), (725, .iadd), (726, .iaload), (727, .invokevirtual 102), (730, .aload_n 2), (731, .aload_n 0), (732, .iload_n 3), (733, .iconst 1), (734, .iadd), (735, .iaload), (736, .invokevirtual 105), (739, .if_icmp .eq 130), (742, .iconst 0), (743, .ireturn), (744, .aload_n 1), (745, .aload_n 0), (746, .iload_n 3), (747, .iconst 1), (748, .iadd), (749, .iaload), (750, .invokevirtual 106), (753, .aload_n 2), (754, .aload_n 0), (755, .iload_n 3), (756, .iconst 1), (757, .iadd), (758, .iaload), (759, .invokevirtual 109), (762, .if_icmp .eq 107), (765, .iconst 0), (766, .ireturn), (767, .aload_n 1), (768, .aload_n 0), (769, .iload_n 3), (770, .iconst 1), (771, .iadd), (772, .iaload), (773, .aload_n 0), (774, .iload_n 3), (775, .iconst 2), (776, .iadd), (777, .iaload), (778, .invokevirtual 110), (781, .aload_n 2), (782, .aload_n 0), (783, .iload_n 3), (784, .iconst 1), (785, .iadd), (786, .iaload), (787, .aload_n 0), (788, .iload_n 3), (789, .iconst 2), (790, .iadd), (791, .iaload), (792, .invokevirtual 113), (795, .if_icmp .eq 74), (798, .iconst 0), (799, .ireturn), (800, .aload_n 1), (801, .aload_n 0), (802, .iload_n 3), (803, .iconst 1), (804, .iadd), (805, .iaload), (806, .invokevirtual 114), (809, .aload_n 2), (810, .aload_n 0), (811, .iload_n 3), (812, .iconst 1), (813, .iadd), (814, .iaload), (815, .invokevirtual 117), (818, .if_icmp .eq 51), (821, .iconst 0), (822, .ireturn), (823, .aload_n 1), (824, .aload_n 0), (825, .iload_n 3), (826, .iconst 1), (827, .iadd), (828, .iaload), (829, .invokevirtual 118), (832, .aload_n 2), (833, .aload_n 0), (834, .iload_n 3), (835, .iconst 1), (836, .iadd), (837, .iaload), (838, .invokevirtual 121), (841, .if_icmp .eq 28), (844, .iconst 0), (845, .ireturn), (846, .aload_n 1), (847, .aload_n 0), (848, .iload_n 3), (849, .iconst 1), (850, .iadd), (851, .iaload), (852, .invokevirtual 122), (855, .aload_n 2), (856, .aload_n 0), (857, .iload_n 3), (858, .iconst 1), (859, .iadd), (860, .iaload), (861, .invokevirtual 125), (864, .if_icmp .eq 5), (867, .iconst 0), (868, .ireturn), (869, .iinc 3 6), (872, .goto (-854)), (875, .iconst 1), (876, .ireturn)]
def km_q223 : km_Q := (yL_law, cL_law, 4, (some .boolean), 12, 1, true, km_c223)
def km_T : List km_Q := [km_q0, km_q1, km_q2, km_q3, km_q4, km_q5, km_q6, km_q7, km_q8, km_q9, km_q10, km_q11, km_q12, km_q13, km_q14, km_q15, km_q16, km_q17, km_q18, km_q19, km_q20, km_q21, km_q22, km_q23, km_q24, km_q25, km_q26, km_q27, km_q28, km_q29, km_q30, km_q31, km_q32, km_q33, km_q34, km_q35, km_q36, km_q37, km_q38, km_q39, km_q40, km_q41, km_q42, km_q43, km_q44, km_q45, km_q46, km_q47, km_q48, km_q49, km_q50, km_q51, km_q52, km_q53, km_q54, km_q55, km_q56, km_q57, km_q58, km_q59, km_q60, km_q61, km_q62, km_q63, km_q64, km_q65, km_q66, km_q67, km_q68, km_q69, km_q70, km_q71, km_q72, km_q73, km_q74, km_q75, km_q76, km_q77, km_q78, km_q79, km_q80, km_q81, km_q82, km_q83, km_q84, km_q85, km_q86, km_q87, km_q88, km_q89, km_q90, km_q91, km_q92, km_q93, km_q94, km_q95, km_q96, km_q97, km_q98, km_q99, km_q100, km_q101, km_q102, km_q103, km_q104, km_q105, km_q106, km_q107, km_q108, km_q109, km_q110, km_q111, km_q112, km_q113, km_q114, km_q115, km_q116, km_q117, km_q118, km_q119, km_q120, km_q121, km_q122, km_q123, km_q124, km_q125, km_q126, km_q127, km_q128, km_q129, km_q130, km_q131, km_q132, km_q133, km_q134, km_q135, km_q136, km_q137, km_q138, km_q139, km_q140, km_q141, km_q142, km_q143, km_q144, km_q145, km_q146, km_q147, km_q148, km_q149, km_q150, km_q151, km_q152, km_q153, km_q154, km_q155, km_q156, km_q157, km_q158, km_q159, km_q160, km_q161, km_q162, km_q163, km_q164, km_q165, km_q166, km_q167, km_q168, km_q169, km_q170, km_q171, km_q172, km_q173, km_q174, km_q175, km_q176, km_q177, km_q178, km_q179, km_q180, km_q181, km_q182, km_q183, km_q184, km_q185, km_q186, km_q187, km_q188, km_q189, km_q190, km_q191, km_q192, km_q193, km_q194, km_q195, km_q196, km_q197, km_q198, km_q199, km_q200, km_q201, km_q202, km_q203, km_q204, km_q205, km_q206, km_q207, km_q208, km_q209, km_q210, km_q211, km_q212, km_q213, km_q214, km_q215, km_q216, km_q217, km_q218, km_q219, km_q220, km_q221, km_q222, km_q223]
end
section
/-! the constant pools' entries, as the tables say them -/
def km_R : Nat → String
  | 0 => RX0 | 1 => RX1 | 2 => RX2 | 3 => RX3 | 4 => RX4 | 5 => RX5 | 6 => RX6 | 7 => RX7 | 8 => RX8 | 9 => RX9 | 10 => RJ6 | 11 => RJ9 | _ => RL
def km_X : Nat → u_T
  | 0 => TX0 | 1 => TX1 | 2 => TX2 | 3 => TX3 | 4 => TX4 | 5 => TX5 | 6 => TX6 | 7 => TX7 | 8 => TX8 | _ => TX9
def km_N : Nat → Nat
  | 0 => 3 | 1 => 3 | 2 => 11 | 3 => 3 | 4 => 18 | 5 => 5 | 6 => 2 | 7 => 6 | 8 => 17 | _ => 52
def km_F : List (Nat × Nat × Nat × Nat × Nat) := [(0, 9, 0, 1, 326), (0, 17, 0, 2, 328), (0, 20, 5, 1, 228), (0, 26, 0, 0, 324), (0, 29, 5, 0, 223), (0, 32, 5, 2, 235), (0, 47, 2, 4, 276), (0, 52, 2, 3, 272), (0, 57, 2, 1, 267), (1, 11, 1, 0, 343), (1, 15, 1, 1, 344), (1, 24, 1, 2, 345), (1, 27, 5, 0, 224), (1, 34, 5, 1, 230), (2, 9, 2, 0, 264), (2, 15, 2, 1, 266), (2, 18, 2, 2, 268), (2, 21, 2, 3, 271), (2, 24, 2, 4, 275), (2, 27, 2, 5, 279), (2, 30, 2, 6, 280), (2, 33, 2, 8, 284), (2, 36, 2, 9, 287), (2, 39, 2, 10, 290), (2, 59, 2, 7, 281), (2, 67, 5, 0, 225), (2, 70, 5, 2, 236), (2, 81, 5, 4, 244), (2, 99, 5, 3, 240), (2, 105, 5, 1, 233), (3, 11, 3, 2, 365), (3, 18, 3, 0, 362), (3, 22, 3, 1, 364), (4, 9, 4, 9, 168), (4, 15, 4, 10, 169), (4, 18, 4, 11, 170), (4, 21, 4, 12, 171), (4, 24, 4, 13, 172), (4, 28, 4, 14, 173), (4, 31, 4, 15, 174), (4, 34, 4, 16, 175), (4, 37, 4, 17, 176), (4, 40, 4, 2, 161), (4, 44, 4, 3, 162), (4, 48, 4, 6, 165), (4, 51, 4, 7, 166), (4, 81, 7, 0, 128), (4, 90, 4, 0, 157), (4, 93, 4, 1, 159), (4, 102, 7, 1, 129), (4, 109, 7, 3, 134), (4, 119, 4, 8, 167), (4, 129, 7, 2, 132), (4, 132, 4, 4, 163), (4, 135, 4, 5, 164), (4, 150, 5, 0, 227), (4, 153, 5, 1, 232), (4, 156, 5, 2, 237), (4, 157, 5, 3, 241), (4, 160, 5, 4, 245), (5, 9, 5, 2, 234), (5, 15, 5, 3, 239), (5, 18, 5, 4, 243), (5, 21, 5, 0, 222), (5, 25, 5, 1, 229), (5, 46, 2, 2, 269), (5, 51, 2, 3, 273), (5, 54, 2, 4, 277), (5, 61, 2, 9, 288), (5, 64, 2, 8, 285), (5, 67, 2, 0, 265), (6, 11, 6, 0, 384), (6, 19, 6, 1, 385), (6, 40, 2, 7, 282), (6, 44, 2, 10, 291), (7, 9, 7, 5, 136), (7, 15, 7, 0, 127), (7, 19, 7, 4, 135), (7, 30, 7, 3, 133), (7, 33, 7, 1, 130), (7, 69, 7, 2, 131), (8, 10, 8, 0, 391), (8, 19, 8, 1, 392), (8, 26, 8, 2, 393), (8, 33, 8, 3, 394), (8, 40, 8, 4, 395), (8, 47, 8, 5, 396), (8, 51, 8, 6, 397), (8, 57, 8, 7, 398), (8, 61, 8, 8, 399), (8, 65, 8, 9, 400), (8, 69, 8, 10, 401), (8, 72, 8, 11, 402), (8, 78, 8, 12, 403), (8, 82, 8, 16, 407), (8, 86, 7, 0, 126), (8, 97, 4, 1, 160), (8, 100, 4, 0, 158), (8, 126, 5, 1, 231), (8, 145, 5, 0, 226), (8, 172, 5, 2, 238), (8, 176, 5, 3, 242), (8, 179, 5, 4, 246), (8, 190, 2, 2, 270), (8, 193, 2, 3, 274), (8, 196, 2, 4, 278), (8, 199, 0, 1, 327), (8, 202, 2, 7, 283), (8, 208, 2, 10, 292), (8, 211, 2, 8, 286), (8, 214, 2, 9, 289), (8, 237, 8, 14, 405), (8, 244, 8, 15, 406), (8, 277, 0, 0, 325), (8, 296, 3, 0, 363), (8, 305, 8, 13, 404), (9, 13, 9, 1, 1013), (9, 17, 9, 3, 1015), (9, 20, 9, 5, 1017), (9, 24, 9, 6, 1018), (9, 27, 9, 7, 1019), (9, 30, 9, 8, 1020), (9, 34, 9, 9, 1021), (9, 37, 9, 16, 1028), (9, 40, 9, 17, 1029), (9, 43, 9, 18, 1030), (9, 46, 9, 19, 1031), (9, 49, 9, 22, 1034), (9, 52, 9, 23, 1035), (9, 55, 9, 24, 1036), (9, 58, 9, 26, 1038), (9, 61, 9, 27, 1039), (9, 64, 9, 28, 1040), (9, 67, 9, 29, 1041), (9, 70, 9, 30, 1042), (9, 73, 9, 31, 1043), (9, 77, 9, 33, 1045), (9, 80, 9, 34, 1046), (9, 83, 9, 35, 1047), (9, 86, 9, 36, 1048), (9, 89, 9, 37, 1049), (9, 92, 9, 40, 1052), (9, 95, 9, 41, 1053), (9, 98, 9, 42, 1054), (9, 101, 9, 43, 1055), (9, 104, 9, 44, 1056), (9, 107, 9, 45, 1057), (9, 110, 9, 46, 1058), (9, 113, 9, 47, 1059), (9, 116, 9, 48, 1060), (9, 119, 9, 50, 1062), (9, 122, 9, 51, 1063), (9, 129, 9, 2, 1014), (9, 136, 9, 4, 1016), (9, 145, 9, 10, 1022), (9, 167, 9, 12, 1024), (9, 170, 9, 11, 1023), (9, 173, 9, 13, 1025), (9, 176, 9, 14, 1026), (9, 179, 9, 15, 1027), (9, 194, 9, 20, 1032), (9, 197, 9, 21, 1033), (9, 213, 9, 39, 1051), (9, 257, 9, 25, 1037), (9, 267, 9, 32, 1044), (9, 309, 9, 38, 1050), (9, 373, 9, 49, 1061)]
def km_I : List (Nat × Nat × Nat × Nat × Nat) := [(0, 3, 4, 0, 321), (0, 35, 1, 62, 688), (0, 39, 1, 2, 689), (0, 43, 1, 3, 693), (0, 60, 1, 4, 892), (0, 64, 1, 6, 975), (0, 68, 0, 220, 979), (0, 74, 1, 7, 904), (0, 78, 1, 8, 908), (0, 82, 0, 219, 897), (0, 86, 1, 10, 900), (0, 90, 1, 11, 912), (1, 3, 4, 0, 342), (1, 18, 1, 63, 855), (1, 30, 1, 14, 859), (1, 37, 1, 15, 866), (1, 41, 1, 60, 863), (1, 44, 1, 35, 864), (1, 50, 0, 218, 865), (1, 56, 1, 16, 874), (1, 59, 1, 17, 956), (2, 3, 4, 0, 263), (2, 42, 1, 22, 610), (2, 46, 1, 23, 614), (2, 49, 1, 59, 618), (2, 55, 1, 25, 634), (2, 63, 1, 26, 638), (2, 73, 1, 61, 622), (2, 77, 1, 62, 626), (2, 84, 1, 24, 630), (2, 88, 1, 27, 642), (2, 91, 1, 28, 646), (2, 94, 0, 218, 650), (2, 102, 1, 33, 664), (2, 108, 1, 32, 660), (2, 112, 1, 64, 839), (3, 3, 4, 0, 358), (3, 17, 3, 56, 361), (3, 25, 1, 57, 713), (3, 29, 0, 222, 714), (4, 3, 4, 0, 156), (4, 54, 1, 43, 463), (4, 58, 1, 53, 582), (4, 62, 1, 54, 586), (4, 66, 1, 50, 594), (4, 69, 1, 52, 602), (4, 72, 1, 21, 606), (4, 77, 1, 34, 656), (4, 86, 1, 42, 552), (4, 96, 1, 81, 467), (4, 99, 1, 82, 471), (4, 105, 0, 44, 556), (4, 112, 1, 45, 559), (4, 116, 1, 46, 563), (4, 122, 1, 47, 567), (4, 126, 1, 48, 571), (4, 138, 1, 49, 575), (4, 141, 0, 221, 579), (4, 146, 1, 51, 598), (4, 163, 1, 55, 590), (5, 3, 4, 0, 221), (5, 28, 5, 0, 676), (5, 34, 1, 59, 748), (5, 38, 1, 62, 995), (5, 42, 1, 61, 722), (5, 57, 1, 69, 735), (5, 70, 0, 72, 723), (5, 74, 0, 218, 726), (5, 79, 1, 21, 757), (5, 83, 1, 31, 758), (5, 86, 1, 28, 762), (5, 89, 1, 71, 763), (6, 3, 4, 0, 378), (6, 23, 3, 56, 382), (6, 24, 3, 20, 383), (6, 25, 1, 57, 937), (6, 29, 0, 78, 938), (6, 33, 1, 21, 941), (6, 36, 1, 31, 942), (6, 48, 1, 68, 943), (7, 3, 4, 0, 125), (7, 22, 1, 86, 475), (7, 26, 0, 87, 479), (7, 36, 0, 88, 482), (7, 39, 1, 83, 485), (7, 42, 0, 89, 545), (7, 45, 1, 85, 548), (7, 50, 1, 84, 490), (7, 60, 6, 0, 494), (7, 65, 7, 0, 504), (8, 1, 4, 0, 117), (8, 9, 3, 79, 122), (8, 18, 3, 40, 153), (8, 25, 3, 56, 218), (8, 32, 3, 20, 260), (8, 39, 3, 0, 318), (8, 46, 3, 12, 339), (8, 56, 2, 36, 355), (8, 77, 2, 76, 375), (8, 89, 1, 80, 447), (8, 93, 1, 41, 459), (8, 103, 1, 37, 668), (8, 106, 1, 57, 672), (8, 110, 1, 117, 679), (8, 113, 1, 120, 705), (8, 117, 1, 38, 709), (8, 120, 1, 28, 717), (8, 123, 1, 71, 718), (8, 129, 1, 68, 731), (8, 133, 1, 59, 743), (8, 137, 1, 70, 744), (8, 141, 1, 73, 753), (8, 148, 1, 60, 768), (8, 151, 1, 66, 772), (8, 154, 1, 67, 780), (8, 158, 1, 118, 792), (8, 162, 1, 74, 796), (8, 166, 1, 75, 800), (8, 169, 1, 39, 808), (8, 182, 1, 61, 816), (8, 186, 1, 29, 822), (8, 205, 1, 27, 830), (8, 217, 1, 35, 835), (8, 221, 1, 121, 847), (8, 225, 1, 17, 870), (8, 228, 1, 16, 878), (8, 233, 1, 9, 888), (8, 241, 1, 122, 920), (8, 247, 0, 218, 924), (8, 252, 1, 77, 933), (8, 256, 1, 58, 948), (8, 259, 1, 21, 683), (8, 262, 1, 13, 851), (8, 266, 1, 18, 952), (8, 270, 1, 32, 969), (8, 274, 1, 63, 970), (8, 279, 1, 5, 971), (8, 283, 1, 19, 982), (8, 286, 1, 64, 986), (8, 289, 1, 30, 987), (8, 292, 1, 65, 991), (8, 299, 1, 119, 996), (8, 302, 1, 1, 684), (8, 308, 1, 123, 925), (9, 7, 4, 0, 1005), (9, 125, 0, 132, 1006), (9, 132, 1, 126, 1173), (9, 141, 0, 131, 1009), (9, 148, 1, 128, 1189), (9, 152, 1, 133, 1193), (9, 156, 0, 130, 1197), (9, 160, 0, 129, 1200), (9, 163, 1, 135, 1203), (9, 182, 1, 137, 1219), (9, 185, 1, 136, 1207), (9, 188, 1, 139, 1215), (9, 191, 1, 134, 1185), (9, 200, 1, 143, 1211), (9, 203, 1, 144, 1227), (9, 206, 1, 147, 1239), (9, 209, 0, 156, 1300), (9, 216, 1, 140, 1223), (9, 219, 1, 146, 1231), (9, 222, 1, 145, 1235), (9, 225, 1, 151, 1243), (9, 228, 1, 148, 1264), (9, 231, 1, 150, 1268), (9, 234, 1, 164, 1272), (9, 238, 1, 138, 1250), (9, 242, 0, 149, 1261), (9, 246, 0, 153, 1247), (9, 250, 0, 154, 1254), (9, 254, 1, 152, 1257), (9, 260, 1, 158, 1284), (9, 263, 1, 157, 1280), (9, 270, 1, 159, 1288), (9, 273, 1, 163, 1296), (9, 277, 1, 161, 1276), (9, 281, 1, 162, 1292), (9, 284, 1, 160, 1331), (9, 287, 1, 165, 1335), (9, 290, 1, 166, 1327), (9, 293, 0, 169, 1347), (9, 297, 1, 168, 1378), (9, 300, 1, 170, 1343), (9, 303, 1, 174, 1358), (9, 306, 1, 172, 1362), (9, 312, 1, 179, 1319), (9, 315, 1, 176, 1339), (9, 318, 1, 173, 1354), (9, 321, 1, 171, 1374), (9, 324, 0, 175, 1386), (9, 328, 1, 203, 1410), (9, 331, 1, 190, 1414), (9, 334, 0, 193, 1430), (9, 337, 1, 194, 1426), (9, 340, 0, 155, 1441), (9, 343, 1, 197, 1444), (9, 346, 0, 198, 1452), (9, 349, 1, 196, 1437), (9, 352, 1, 199, 1448), (9, 359, 1, 204, 1464), (9, 363, 0, 206, 1469), (9, 366, 1, 207, 1472), (9, 369, 1, 208, 1476), (9, 376, 1, 210, 1484), (9, 379, 1, 212, 1492), (9, 382, 1, 214, 1500), (9, 386, 1, 209, 1508), (9, 390, 1, 201, 1512), (9, 393, 1, 167, 1516), (9, 396, 1, 216, 1520), (12, 9, 2, 90, 114), (12, 12, 2, 124, 1002), (12, 13, 1, 91, 443), (12, 17, 1, 125, 1169), (12, 18, 1, 92, 451), (12, 22, 1, 127, 1177), (12, 23, 1, 93, 455), (12, 27, 1, 141, 1181), (12, 28, 1, 94, 697), (12, 31, 1, 142, 1303), (12, 32, 1, 95, 701), (12, 35, 1, 181, 1323), (12, 36, 1, 96, 727), (12, 40, 1, 182, 1350), (12, 41, 1, 97, 739), (12, 45, 1, 183, 1366), (12, 46, 1, 98, 749), (12, 49, 1, 184, 1370), (12, 50, 1, 99, 764), (12, 54, 1, 185, 1382), (12, 55, 1, 100, 776), (12, 58, 1, 186, 1389), (12, 59, 1, 101, 784), (12, 62, 1, 187, 1393), (12, 63, 1, 102, 788), (12, 66, 1, 188, 1397), (12, 67, 1, 103, 804), (12, 70, 1, 177, 1307), (12, 71, 1, 104, 812), (12, 75, 1, 189, 1401), (12, 76, 1, 105, 817), (12, 79, 1, 191, 1405), (12, 80, 1, 106, 826), (12, 83, 1, 192, 1418), (12, 84, 1, 107, 831), (12, 87, 1, 195, 1422), (12, 88, 1, 108, 843), (12, 92, 1, 200, 1433), (12, 93, 1, 109, 879), (12, 96, 1, 202, 1455), (12, 97, 1, 110, 883), (12, 101, 1, 205, 1459), (12, 102, 1, 111, 916), (12, 105, 1, 211, 1480), (12, 106, 1, 112, 929), (12, 109, 1, 213, 1488), (12, 110, 1, 113, 944), (12, 113, 1, 215, 1496), (12, 114, 1, 114, 957), (12, 117, 1, 178, 1311), (12, 118, 1, 115, 961), (12, 121, 1, 180, 1315), (12, 122, 1, 116, 965), (12, 125, 1, 217, 1504)]
def km_W : List (Nat × Nat × Nat × Nat) := [(0, 15, 16, 322), (3, 9, 5, 359), (6, 9, 5, 379), (6, 17, 2, 380), (8, 7, 7, 120), (8, 16, 4, 151), (8, 23, 5, 216), (8, 30, 2, 258), (8, 37, 0, 316), (8, 44, 1, 337), (8, 54, 3, 353), (8, 75, 6, 373), (12, 7, 8, 112), (12, 10, 9, 1000)]
def km_okF (e : Nat × Nat × Nat × Nat × Nat) : Bool := let w : Cond := .fieldLink (km_R e.1) e.2.1 (km_R e.2.2.1) (km_X e.2.2.1 e.2.2.2.1).2.1 (km_X e.2.2.1 e.2.2.2.1).2.2.1
  decide (lw_tbl[e.2.2.2.2]? = some w) && goodWord w && Nat.blt e.2.2.2.1 (km_N e.2.2.1) && Nat.blt e.2.2.1 10
set_option maxRecDepth 100000 in
set_option maxHeartbeats 4000000 in
theorem km_F_ok : km_F.all km_okF = true := by decide +kernel
end
section
set_option maxRecDepth 100000 in
theorem km_d0_0 : ((km_c0.drop 0).take 30).all (km_okd cX0_init) = true := by decide +kernel
theorem km_d0 : km_okc km_q0 = true := km_dall (km_dlast (by decide +kernel) km_d0_0)
set_option maxRecDepth 100000 in
theorem km_d1_0 : ((km_c1.drop 0).take 30).all (km_okd cX0_number) = true := by decide +kernel
set_option maxRecDepth 100000 in
theorem km_d1_1 : ((km_c1.drop 30).take 30).all (km_okd cX0_number) = true := by decide +kernel
set_option maxRecDepth 100000 in
theorem km_d1_2 : ((km_c1.drop 60).take 30).all (km_okd cX0_number) = true := by decide +kernel
theorem km_d1 : km_okc km_q1 = true := km_dall (km_dstep km_d1_0 (km_dstep km_d1_1 (km_dlast (by decide +kernel) km_d1_2)))
set_option maxRecDepth 100000 in
theorem km_d2_0 : ((km_c2.drop 0).take 30).all (km_okd cX0_fill) = true := by decide +kernel
theorem km_d2 : km_okc km_q2 = true := km_dall (km_dlast (by decide +kernel) km_d2_0)
set_option maxRecDepth 100000 in
theorem km_d3_0 : ((km_c3.drop 0).take 30).all (km_okd cX0_numberRing) = true := by decide +kernel
set_option maxRecDepth 100000 in
theorem km_d3_1 : ((km_c3.drop 30).take 30).all (km_okd cX0_numberRing) = true := by decide +kernel
theorem km_d3 : km_okc km_q3 = true := km_dall (km_dstep km_d3_0 (km_dlast (by decide +kernel) km_d3_1))
set_option maxRecDepth 100000 in
theorem km_d4_0 : ((km_c4.drop 0).take 30).all (km_okd cX0_writeRows) = true := by decide +kernel
set_option maxRecDepth 100000 in
theorem km_d4_1 : ((km_c4.drop 30).take 30).all (km_okd cX0_writeRows) = true := by decide +kernel
set_option maxRecDepth 100000 in
theorem km_d4_2 : ((km_c4.drop 60).take 30).all (km_okd cX0_writeRows) = true := by decide +kernel
theorem km_d4 : km_okc km_q4 = true := km_dall (km_dstep km_d4_0 (km_dstep km_d4_1 (km_dlast (by decide +kernel) km_d4_2)))
set_option maxRecDepth 100000 in
theorem km_d5_0 : ((km_c5.drop 0).take 30).all (km_okd cX0_determinant) = true := by decide +kernel
set_option maxRecDepth 100000 in
theorem km_d5_1 : ((km_c5.drop 30).take 30).all (km_okd cX0_determinant) = true := by decide +kernel
theorem km_d5 : km_okc km_q5 = true := km_dall (km_dstep km_d5_0 (km_dlast (by decide +kernel) km_d5_1))
set_option maxRecDepth 100000 in
theorem km_d6_0 : ((km_c6.drop 0).take 30).all (km_okd cX0_eliminated) = true := by decide +kernel
set_option maxRecDepth 100000 in
theorem km_d6_1 : ((km_c6.drop 30).take 30).all (km_okd cX0_eliminated) = true := by decide +kernel
set_option maxRecDepth 100000 in
theorem km_d6_2 : ((km_c6.drop 60).take 30).all (km_okd cX0_eliminated) = true := by decide +kernel
set_option maxRecDepth 100000 in
theorem km_d6_3 : ((km_c6.drop 90).take 30).all (km_okd cX0_eliminated) = true := by decide +kernel
theorem km_d6 : km_okc km_q6 = true := km_dall (km_dstep km_d6_0 (km_dstep km_d6_1 (km_dstep km_d6_2 (km_dlast (by decide +kernel) km_d6_3))))
set_option maxRecDepth 100000 in
theorem km_d7_0 : ((km_c7.drop 0).take 30).all (km_okd cX0_pivotRow) = true := by decide +kernel
theorem km_d7 : km_okc km_q7 = true := km_dall (km_dlast (by decide +kernel) km_d7_0)
set_option maxRecDepth 100000 in
theorem km_d8_0 : ((km_c8.drop 0).take 30).all (km_okd cX0_swapRows) = true := by decide +kernel
set_option maxRecDepth 100000 in
theorem km_d8_1 : ((km_c8.drop 30).take 30).all (km_okd cX0_swapRows) = true := by decide +kernel
theorem km_d8 : km_okc km_q8 = true := km_dall (km_dstep km_d8_0 (km_dlast (by decide +kernel) km_d8_1))
set_option maxRecDepth 100000 in
theorem km_d9_0 : ((km_c9.drop 0).take 30).all (km_okd cX0_colouringsBy) = true := by decide +kernel
set_option maxRecDepth 100000 in
theorem km_d9_1 : ((km_c9.drop 30).take 30).all (km_okd cX0_colouringsBy) = true := by decide +kernel
theorem km_d9 : km_okc km_q9 = true := km_dall (km_dstep km_d9_0 (km_dlast (by decide +kernel) km_d9_1))
set_option maxRecDepth 100000 in
theorem km_d10_0 : ((km_c10.drop 0).take 30).all (km_okd cX0_rank) = true := by decide +kernel
set_option maxRecDepth 100000 in
theorem km_d10_1 : ((km_c10.drop 30).take 30).all (km_okd cX0_rank) = true := by decide +kernel
theorem km_d10 : km_okc km_q10 = true := km_dall (km_dstep km_d10_0 (km_dlast (by decide +kernel) km_d10_1))
set_option maxRecDepth 100000 in
theorem km_d11_0 : ((km_c11.drop 0).take 30).all (km_okd cX0_clear) = true := by decide +kernel
set_option maxRecDepth 100000 in
theorem km_d11_1 : ((km_c11.drop 30).take 30).all (km_okd cX0_clear) = true := by decide +kernel
theorem km_d11 : km_okc km_q11 = true := km_dall (km_dstep km_d11_0 (km_dlast (by decide +kernel) km_d11_1))
set_option maxRecDepth 100000 in
theorem km_d12_0 : ((km_c12.drop 0).take 30).all (km_okd cX1_init) = true := by decide +kernel
theorem km_d12 : km_okc km_q12 = true := km_dall (km_dlast (by decide +kernel) km_d12_0)
set_option maxRecDepth 100000 in
theorem km_d13_0 : ((km_c13.drop 0).take 30).all (km_okd cX1_addUp) = true := by decide +kernel
set_option maxRecDepth 100000 in
theorem km_d13_1 : ((km_c13.drop 30).take 30).all (km_okd cX1_addUp) = true := by decide +kernel
set_option maxRecDepth 100000 in
theorem km_d13_2 : ((km_c13.drop 60).take 30).all (km_okd cX1_addUp) = true := by decide +kernel
theorem km_d13 : km_okc km_q13 = true := km_dall (km_dstep km_d13_0 (km_dstep km_d13_1 (km_dlast (by decide +kernel) km_d13_2)))
set_option maxRecDepth 100000 in
theorem km_d14_0 : ((km_c14.drop 0).take 30).all (km_okd cX1_tallyStates) = true := by decide +kernel
set_option maxRecDepth 100000 in
theorem km_d14_1 : ((km_c14.drop 30).take 30).all (km_okd cX1_tallyStates) = true := by decide +kernel
theorem km_d14 : km_okc km_q14 = true := km_dall (km_dstep km_d14_0 (km_dlast (by decide +kernel) km_d14_1))
set_option maxRecDepth 100000 in
theorem km_d15_0 : ((km_c15.drop 0).take 30).all (km_okd cX1_addPower) = true := by decide +kernel
set_option maxRecDepth 100000 in
theorem km_d15_1 : ((km_c15.drop 30).take 30).all (km_okd cX1_addPower) = true := by decide +kernel
theorem km_d15 : km_okc km_q15 = true := km_dall (km_dstep km_d15_0 (km_dlast (by decide +kernel) km_d15_1))
set_option maxRecDepth 100000 in
theorem km_d16_0 : ((km_c16.drop 0).take 30).all (km_okd cX1_at) = true := by decide +kernel
theorem km_d16 : km_okc km_q16 = true := km_dall (km_dlast (by decide +kernel) km_d16_0)
set_option maxRecDepth 100000 in
theorem km_d17_0 : ((km_c17.drop 0).take 30).all (km_okd cX1_knottedAt) = true := by decide +kernel
theorem km_d17 : km_okc km_q17 = true := km_dall (km_dlast (by decide +kernel) km_d17_0)
set_option maxRecDepth 100000 in
theorem km_d18_0 : ((km_c18.drop 0).take 30).all (km_okd cX1_knottedAlike) = true := by decide +kernel
theorem km_d18 : km_okc km_q18 = true := km_dall (km_dlast (by decide +kernel) km_d18_0)
set_option maxRecDepth 100000 in
theorem km_d19_0 : ((km_c19.drop 0).take 30).all (km_okd cX1_span) = true := by decide +kernel
set_option maxRecDepth 100000 in
theorem km_d19_1 : ((km_c19.drop 30).take 30).all (km_okd cX1_span) = true := by decide +kernel
theorem km_d19 : km_okc km_q19 = true := km_dall (km_dstep km_d19_0 (km_dlast (by decide +kernel) km_d19_1))
set_option maxRecDepth 100000 in
theorem km_d20_0 : ((km_c20.drop 0).take 30).all (km_okd cX2_init) = true := by decide +kernel
set_option maxRecDepth 100000 in
theorem km_d20_1 : ((km_c20.drop 30).take 30).all (km_okd cX2_init) = true := by decide +kernel
theorem km_d20 : km_okc km_q20 = true := km_dall (km_dstep km_d20_0 (km_dlast (by decide +kernel) km_d20_1))
set_option maxRecDepth 100000 in
theorem km_d21_0 : ((km_c21.drop 0).take 30).all (km_okd cX2_trace) = true := by decide +kernel
theorem km_d21 : km_okc km_q21 = true := km_dall (km_dlast (by decide +kernel) km_d21_0)
set_option maxRecDepth 100000 in
theorem km_d22_0 : ((km_c22.drop 0).take 30).all (km_okd cX2_joinPasses) = true := by decide +kernel
set_option maxRecDepth 100000 in
theorem km_d22_1 : ((km_c22.drop 30).take 30).all (km_okd cX2_joinPasses) = true := by decide +kernel
theorem km_d22 : km_okc km_q22 = true := km_dall (km_dstep km_d22_0 (km_dlast (by decide +kernel) km_d22_1))
set_option maxRecDepth 100000 in
theorem km_d23_0 : ((km_c23.drop 0).take 30).all (km_okd cX2_joinEnds) = true := by decide +kernel
set_option maxRecDepth 100000 in
theorem km_d23_1 : ((km_c23.drop 30).take 30).all (km_okd cX2_joinEnds) = true := by decide +kernel
set_option maxRecDepth 100000 in
theorem km_d23_2 : ((km_c23.drop 60).take 30).all (km_okd cX2_joinEnds) = true := by decide +kernel
theorem km_d23 : km_okc km_q23 = true := km_dall (km_dstep km_d23_0 (km_dstep km_d23_1 (km_dlast (by decide +kernel) km_d23_2)))
set_option maxRecDepth 100000 in
theorem km_d24_0 : ((km_c24.drop 0).take 30).all (km_okd cX2_joinEnd) = true := by decide +kernel
theorem km_d24 : km_okc km_q24 = true := km_dall (km_dlast (by decide +kernel) km_d24_0)
set_option maxRecDepth 100000 in
theorem km_d25_0 : ((km_c25.drop 0).take 30).all (km_okd cX2_walkFaces) = true := by decide +kernel
set_option maxRecDepth 100000 in
theorem km_d25_1 : ((km_c25.drop 30).take 30).all (km_okd cX2_walkFaces) = true := by decide +kernel
set_option maxRecDepth 100000 in
theorem km_d25_2 : ((km_c25.drop 60).take 30).all (km_okd cX2_walkFaces) = true := by decide +kernel
theorem km_d25 : km_okc km_q25 = true := km_dall (km_dstep km_d25_0 (km_dstep km_d25_1 (km_dlast (by decide +kernel) km_d25_2)))
set_option maxRecDepth 100000 in
theorem km_d26_0 : ((km_c26.drop 0).take 30).all (km_okd cX2_judged) = true := by decide +kernel
set_option maxRecDepth 100000 in
theorem km_d26_1 : ((km_c26.drop 30).take 30).all (km_okd cX2_judged) = true := by decide +kernel
set_option maxRecDepth 100000 in
theorem km_d26_2 : ((km_c26.drop 60).take 30).all (km_okd cX2_judged) = true := by decide +kernel
theorem km_d26 : km_okc km_q26 = true := km_dall (km_dstep km_d26_0 (km_dstep km_d26_1 (km_dlast (by decide +kernel) km_d26_2)))
set_option maxRecDepth 100000 in
theorem km_d27_0 : ((km_c27.drop 0).take 30).all (km_okd cX2_corners) = true := by decide +kernel
theorem km_d27 : km_okc km_q27 = true := km_dall (km_dlast (by decide +kernel) km_d27_0)
set_option maxRecDepth 100000 in
theorem km_d28_0 : ((km_c28.drop 0).take 30).all (km_okd cX2_crossingsAt) = true := by decide +kernel
set_option maxRecDepth 100000 in
theorem km_d28_1 : ((km_c28.drop 30).take 30).all (km_okd cX2_crossingsAt) = true := by decide +kernel
theorem km_d28 : km_okc km_q28 = true := km_dall (km_dstep km_d28_0 (km_dlast (by decide +kernel) km_d28_1))
set_option maxRecDepth 100000 in
theorem km_d29_0 : ((km_c29.drop 0).take 30).all (km_okd cX2_edgeAt) = true := by decide +kernel
theorem km_d29 : km_okc km_q29 = true := km_dall (km_dlast (by decide +kernel) km_d29_0)
set_option maxRecDepth 100000 in
theorem km_d30_0 : ((km_c30.drop 0).take 30).all (km_okd cX2_facesOfKind) = true := by decide +kernel
theorem km_d30 : km_okc km_q30 = true := km_dall (km_dlast (by decide +kernel) km_d30_0)
set_option maxRecDepth 100000 in
theorem km_d31_0 : ((km_c31.drop 0).take 30).all (km_okd cX2_firstToGo) = true := by decide +kernel
set_option maxRecDepth 100000 in
theorem km_d31_1 : ((km_c31.drop 30).take 30).all (km_okd cX2_firstToGo) = true := by decide +kernel
theorem km_d31 : km_okc km_q31 = true := km_dall (km_dstep km_d31_0 (km_dlast (by decide +kernel) km_d31_1))
set_option maxRecDepth 100000 in
theorem km_d32_0 : ((km_c32.drop 0).take 30).all (km_okd cX2_partsOf) = true := by decide +kernel
set_option maxRecDepth 100000 in
theorem km_d32_1 : ((km_c32.drop 30).take 30).all (km_okd cX2_partsOf) = true := by decide +kernel
theorem km_d32 : km_okc km_q32 = true := km_dall (km_dstep km_d32_0 (km_dlast (by decide +kernel) km_d32_1))
set_option maxRecDepth 100000 in
theorem km_d33_0 : ((km_c33.drop 0).take 30).all (km_okd cX2_partWith) = true := by decide +kernel
set_option maxRecDepth 100000 in
theorem km_d33_1 : ((km_c33.drop 30).take 30).all (km_okd cX2_partWith) = true := by decide +kernel
theorem km_d33 : km_okc km_q33 = true := km_dall (km_dstep km_d33_0 (km_dlast (by decide +kernel) km_d33_1))
set_option maxRecDepth 100000 in
theorem km_d34_0 : ((km_c34.drop 0).take 30).all (km_okd cX2_isPlane) = true := by decide +kernel
theorem km_d34 : km_okc km_q34 = true := km_dall (km_dlast (by decide +kernel) km_d34_0)
set_option maxRecDepth 100000 in
theorem km_d35_0 : ((km_c35.drop 0).take 30).all (km_okd cX2_loopsOf) = true := by decide +kernel
set_option maxRecDepth 100000 in
theorem km_d35_1 : ((km_c35.drop 30).take 30).all (km_okd cX2_loopsOf) = true := by decide +kernel
set_option maxRecDepth 100000 in
theorem km_d35_2 : ((km_c35.drop 60).take 30).all (km_okd cX2_loopsOf) = true := by decide +kernel
theorem km_d35 : km_okc km_q35 = true := km_dall (km_dstep km_d35_0 (km_dstep km_d35_1 (km_dlast (by decide +kernel) km_d35_2)))
set_option maxRecDepth 100000 in
theorem km_d36_0 : ((km_c36.drop 0).take 30).all (km_okd cX3_init) = true := by decide +kernel
theorem km_d36 : km_okc km_q36 = true := km_dall (km_dlast (by decide +kernel) km_d36_0)
set_option maxRecDepth 100000 in
theorem km_d37_0 : ((km_c37.drop 0).take 30).all (km_okd cX3_forget) = true := by decide +kernel
theorem km_d37 : km_okc km_q37 = true := km_dall (km_dlast (by decide +kernel) km_d37_0)
set_option maxRecDepth 100000 in
theorem km_d38_0 : ((km_c38.drop 0).take 30).all (km_okd cX3_keep) = true := by decide +kernel
theorem km_d38 : km_okc km_q38 = true := km_dall (km_dlast (by decide +kernel) km_d38_0)
set_option maxRecDepth 100000 in
theorem km_d39_0 : ((km_c39.drop 0).take 30).all (km_okd cX3_bringBack) = true := by decide +kernel
set_option maxRecDepth 100000 in
theorem km_d39_1 : ((km_c39.drop 30).take 30).all (km_okd cX3_bringBack) = true := by decide +kernel
theorem km_d39 : km_okc km_q39 = true := km_dall (km_dstep km_d39_0 (km_dlast (by decide +kernel) km_d39_1))
set_option maxRecDepth 100000 in
theorem km_d40_0 : ((km_c40.drop 0).take 30).all (km_okd cX4_init) = true := by decide +kernel
set_option maxRecDepth 100000 in
theorem km_d40_1 : ((km_c40.drop 30).take 30).all (km_okd cX4_init) = true := by decide +kernel
theorem km_d40 : km_okc km_q40 = true := km_dall (km_dstep km_d40_0 (km_dlast (by decide +kernel) km_d40_1))
set_option maxRecDepth 100000 in
theorem km_d41_0 : ((km_c41.drop 0).take 30).all (km_okd cX4_reads) = true := by decide +kernel
set_option maxRecDepth 100000 in
theorem km_d41_1 : ((km_c41.drop 30).take 30).all (km_okd cX4_reads) = true := by decide +kernel
theorem km_d41 : km_okc km_q41 = true := km_dall (km_dstep km_d41_0 (km_dlast (by decide +kernel) km_d41_1))
set_option maxRecDepth 100000 in
theorem km_d42_0 : ((km_c42.drop 0).take 30).all (km_okd cX4_fails) = true := by decide +kernel
theorem km_d42 : km_okc km_q42 = true := km_dall (km_dlast (by decide +kernel) km_d42_0)
set_option maxRecDepth 100000 in
theorem km_d43_0 : ((km_c43.drop 0).take 30).all (km_okd cX4_takesTokens) = true := by decide +kernel
set_option maxRecDepth 100000 in
theorem km_d43_1 : ((km_c43.drop 30).take 30).all (km_okd cX4_takesTokens) = true := by decide +kernel
set_option maxRecDepth 100000 in
theorem km_d43_2 : ((km_c43.drop 60).take 30).all (km_okd cX4_takesTokens) = true := by decide +kernel
theorem km_d43 : km_okc km_q43 = true := km_dall (km_dstep km_d43_0 (km_dstep km_d43_1 (km_dlast (by decide +kernel) km_d43_2)))
set_option maxRecDepth 100000 in
theorem km_d44_0 : ((km_c44.drop 0).take 30).all (km_okd cX4_stateBehind) = true := by decide +kernel
set_option maxRecDepth 100000 in
theorem km_d44_1 : ((km_c44.drop 30).take 30).all (km_okd cX4_stateBehind) = true := by decide +kernel
set_option maxRecDepth 100000 in
theorem km_d44_2 : ((km_c44.drop 60).take 30).all (km_okd cX4_stateBehind) = true := by decide +kernel
theorem km_d44 : km_okc km_q44 = true := km_dall (km_dstep km_d44_0 (km_dstep km_d44_1 (km_dlast (by decide +kernel) km_d44_2)))
set_option maxRecDepth 100000 in
theorem km_d45_0 : ((km_c45.drop 0).take 30).all (km_okd cX4_takes) = true := by decide +kernel
set_option maxRecDepth 100000 in
theorem km_d45_1 : ((km_c45.drop 30).take 30).all (km_okd cX4_takes) = true := by decide +kernel
theorem km_d45 : km_okc km_q45 = true := km_dall (km_dstep km_d45_0 (km_dlast (by decide +kernel) km_d45_1))
set_option maxRecDepth 100000 in
theorem km_d46_0 : ((km_c46.drop 0).take 30).all (km_okd cX4_takesRing) = true := by decide +kernel
theorem km_d46 : km_okc km_q46 = true := km_dall (km_dlast (by decide +kernel) km_d46_0)
set_option maxRecDepth 100000 in
theorem km_d47_0 : ((km_c47.drop 0).take 30).all (km_okd cX4_takesSign) = true := by decide +kernel
theorem km_d47 : km_okc km_q47 = true := km_dall (km_dlast (by decide +kernel) km_d47_0)
set_option maxRecDepth 100000 in
theorem km_d48_0 : ((km_c48.drop 0).take 30).all (km_okd cX4_takesInt) = true := by decide +kernel
set_option maxRecDepth 100000 in
theorem km_d48_1 : ((km_c48.drop 30).take 30).all (km_okd cX4_takesInt) = true := by decide +kernel
set_option maxRecDepth 100000 in
theorem km_d48_2 : ((km_c48.drop 60).take 30).all (km_okd cX4_takesInt) = true := by decide +kernel
theorem km_d48 : km_okc km_q48 = true := km_dall (km_dstep km_d48_0 (km_dstep km_d48_1 (km_dlast (by decide +kernel) km_d48_2)))
set_option maxRecDepth 100000 in
theorem km_d49_0 : ((km_c49.drop 0).take 30).all (km_okd cX4_takesNumber) = true := by decide +kernel
set_option maxRecDepth 100000 in
theorem km_d49_1 : ((km_c49.drop 30).take 30).all (km_okd cX4_takesNumber) = true := by decide +kernel
theorem km_d49 : km_okc km_q49 = true := km_dall (km_dstep km_d49_0 (km_dlast (by decide +kernel) km_d49_1))
set_option maxRecDepth 100000 in
theorem km_d50_0 : ((km_c50.drop 0).take 30).all (km_okd cX4_ringsStand) = true := by decide +kernel
set_option maxRecDepth 100000 in
theorem km_d50_1 : ((km_c50.drop 30).take 30).all (km_okd cX4_ringsStand) = true := by decide +kernel
set_option maxRecDepth 100000 in
theorem km_d50_2 : ((km_c50.drop 60).take 30).all (km_okd cX4_ringsStand) = true := by decide +kernel
set_option maxRecDepth 100000 in
theorem km_d50_3 : ((km_c50.drop 90).take 30).all (km_okd cX4_ringsStand) = true := by decide +kernel
theorem km_d50 : km_okc km_q50 = true := km_dall (km_dstep km_d50_0 (km_dstep km_d50_1 (km_dstep km_d50_2 (km_dlast (by decide +kernel) km_d50_3))))
set_option maxRecDepth 100000 in
theorem km_d51_0 : ((km_c51.drop 0).take 30).all (km_okd cX4_isPartner) = true := by decide +kernel
theorem km_d51 : km_okc km_q51 = true := km_dall (km_dlast (by decide +kernel) km_d51_0)
set_option maxRecDepth 100000 in
theorem km_d52_0 : ((km_c52.drop 0).take 30).all (km_okd cX4_string) = true := by decide +kernel
set_option maxRecDepth 100000 in
theorem km_d52_1 : ((km_c52.drop 30).take 30).all (km_okd cX4_string) = true := by decide +kernel
set_option maxRecDepth 100000 in
theorem km_d52_2 : ((km_c52.drop 60).take 30).all (km_okd cX4_string) = true := by decide +kernel
theorem km_d52 : km_okc km_q52 = true := km_dall (km_dstep km_d52_0 (km_dstep km_d52_1 (km_dlast (by decide +kernel) km_d52_2)))
set_option maxRecDepth 100000 in
theorem km_d53_0 : ((km_c53.drop 0).take 30).all (km_okd cX4_braidStands) = true := by decide +kernel
set_option maxRecDepth 100000 in
theorem km_d53_1 : ((km_c53.drop 30).take 30).all (km_okd cX4_braidStands) = true := by decide +kernel
theorem km_d53 : km_okc km_q53 = true := km_dall (km_dstep km_d53_0 (km_dlast (by decide +kernel) km_d53_1))
set_option maxRecDepth 100000 in
theorem km_d54_0 : ((km_c54.drop 0).take 30).all (km_okd cX4_weave) = true := by decide +kernel
set_option maxRecDepth 100000 in
theorem km_d54_1 : ((km_c54.drop 30).take 30).all (km_okd cX4_weave) = true := by decide +kernel
set_option maxRecDepth 100000 in
theorem km_d54_2 : ((km_c54.drop 60).take 30).all (km_okd cX4_weave) = true := by decide +kernel
set_option maxRecDepth 100000 in
theorem km_d54_3 : ((km_c54.drop 90).take 30).all (km_okd cX4_weave) = true := by decide +kernel
set_option maxRecDepth 100000 in
theorem km_d54_4 : ((km_c54.drop 120).take 30).all (km_okd cX4_weave) = true := by decide +kernel
theorem km_d54 : km_okc km_q54 = true := km_dall (km_dstep km_d54_0 (km_dstep km_d54_1 (km_dstep km_d54_2 (km_dstep km_d54_3 (km_dlast (by decide +kernel) km_d54_4)))))
set_option maxRecDepth 100000 in
theorem km_d55_0 : ((km_c55.drop 0).take 30).all (km_okd cX4_placeBehind) = true := by decide +kernel
theorem km_d55 : km_okc km_q55 = true := km_dall (km_dlast (by decide +kernel) km_d55_0)
set_option maxRecDepth 100000 in
theorem km_d56_0 : ((km_c56.drop 0).take 30).all (km_okd cX5_init) = true := by decide +kernel
theorem km_d56 : km_okc km_q56 = true := km_dall (km_dlast (by decide +kernel) km_d56_0)
set_option maxRecDepth 100000 in
theorem km_d57_0 : ((km_c57.drop 0).take 30).all (km_okd cX5_copy) = true := by decide +kernel
set_option maxRecDepth 100000 in
theorem km_d57_1 : ((km_c57.drop 30).take 30).all (km_okd cX5_copy) = true := by decide +kernel
theorem km_d57 : km_okc km_q57 = true := km_dall (km_dstep km_d57_0 (km_dlast (by decide +kernel) km_d57_1))
set_option maxRecDepth 100000 in
theorem km_d58_0 : ((km_c58.drop 0).take 30).all (km_okd cX5_same) = true := by decide +kernel
set_option maxRecDepth 100000 in
theorem km_d58_1 : ((km_c58.drop 30).take 30).all (km_okd cX5_same) = true := by decide +kernel
set_option maxRecDepth 100000 in
theorem km_d58_2 : ((km_c58.drop 60).take 30).all (km_okd cX5_same) = true := by decide +kernel
theorem km_d58 : km_okc km_q58 = true := km_dall (km_dstep km_d58_0 (km_dstep km_d58_1 (km_dlast (by decide +kernel) km_d58_2)))
set_option maxRecDepth 100000 in
theorem km_d59_0 : ((km_c59.drop 0).take 30).all (km_okd cX5_edges) = true := by decide +kernel
theorem km_d59 : km_okc km_q59 = true := km_dall (km_dlast (by decide +kernel) km_d59_0)
set_option maxRecDepth 100000 in
theorem km_d60_0 : ((km_c60.drop 0).take 30).all (km_okd cX5_allCrossings) = true := by decide +kernel
theorem km_d60 : km_okc km_q60 = true := km_dall (km_dlast (by decide +kernel) km_d60_0)
set_option maxRecDepth 100000 in
theorem km_d61_0 : ((km_c61.drop 0).take 30).all (km_okd cX5_crossingOf) = true := by decide +kernel
theorem km_d61 : km_okc km_q61 = true := km_dall (km_dlast (by decide +kernel) km_d61_0)
set_option maxRecDepth 100000 in
theorem km_d62_0 : ((km_c62.drop 0).take 30).all (km_okd cX5_isOver) = true := by decide +kernel
theorem km_d62 : km_okc km_q62 = true := km_dall (km_dlast (by decide +kernel) km_d62_0)
set_option maxRecDepth 100000 in
theorem km_d63_0 : ((km_c63.drop 0).take 30).all (km_okd cX5_writhe) = true := by decide +kernel
theorem km_d63 : km_okc km_q63 = true := km_dall (km_dlast (by decide +kernel) km_d63_0)
set_option maxRecDepth 100000 in
theorem km_d64_0 : ((km_c64.drop 0).take 30).all (km_okd cX5_looseRings) = true := by decide +kernel
theorem km_d64 : km_okc km_q64 = true := km_dall (km_dlast (by decide +kernel) km_d64_0)
set_option maxRecDepth 100000 in
theorem km_d65_0 : ((km_c65.drop 0).take 30).all (km_okd cX5_takesTurns) = true := by decide +kernel
set_option maxRecDepth 100000 in
theorem km_d65_1 : ((km_c65.drop 30).take 30).all (km_okd cX5_takesTurns) = true := by decide +kernel
theorem km_d65 : km_okc km_q65 = true := km_dall (km_dstep km_d65_0 (km_dlast (by decide +kernel) km_d65_1))
set_option maxRecDepth 100000 in
theorem km_d66_0 : ((km_c66.drop 0).take 30).all (km_okd cX5_turnOver) = true := by decide +kernel
set_option maxRecDepth 100000 in
theorem km_d66_1 : ((km_c66.drop 30).take 30).all (km_okd cX5_turnOver) = true := by decide +kernel
theorem km_d66 : km_okc km_q66 = true := km_dall (km_dstep km_d66_0 (km_dlast (by decide +kernel) km_d66_1))
set_option maxRecDepth 100000 in
theorem km_d67_0 : ((km_c67.drop 0).take 30).all (km_okd cX5_reverse) = true := by decide +kernel
set_option maxRecDepth 100000 in
theorem km_d67_1 : ((km_c67.drop 30).take 30).all (km_okd cX5_reverse) = true := by decide +kernel
set_option maxRecDepth 100000 in
theorem km_d67_2 : ((km_c67.drop 60).take 30).all (km_okd cX5_reverse) = true := by decide +kernel
theorem km_d67 : km_okc km_q67 = true := km_dall (km_dstep km_d67_0 (km_dstep km_d67_1 (km_dlast (by decide +kernel) km_d67_2)))
set_option maxRecDepth 100000 in
theorem km_d68_0 : ((km_c68.drop 0).take 30).all (km_okd cX5_exchange) = true := by decide +kernel
theorem km_d68 : km_okc km_q68 = true := km_dall (km_dlast (by decide +kernel) km_d68_0)
set_option maxRecDepth 100000 in
theorem km_d69_0 : ((km_c69.drop 0).take 30).all (km_okd cX5_swap) = true := by decide +kernel
theorem km_d69 : km_okc km_q69 = true := km_dall (km_dlast (by decide +kernel) km_d69_0)
set_option maxRecDepth 100000 in
theorem km_d70_0 : ((km_c70.drop 0).take 30).all (km_okd cX5_curl) = true := by decide +kernel
set_option maxRecDepth 100000 in
theorem km_d70_1 : ((km_c70.drop 30).take 30).all (km_okd cX5_curl) = true := by decide +kernel
set_option maxRecDepth 100000 in
theorem km_d70_2 : ((km_c70.drop 60).take 30).all (km_okd cX5_curl) = true := by decide +kernel
set_option maxRecDepth 100000 in
theorem km_d70_3 : ((km_c70.drop 90).take 30).all (km_okd cX5_curl) = true := by decide +kernel
theorem km_d70 : km_okc km_q70 = true := km_dall (km_dstep km_d70_0 (km_dstep km_d70_1 (km_dstep km_d70_2 (km_dlast (by decide +kernel) km_d70_3))))
set_option maxRecDepth 100000 in
theorem km_d71_0 : ((km_c71.drop 0).take 30).all (km_okd cX5_drop) = true := by decide +kernel
set_option maxRecDepth 100000 in
theorem km_d71_1 : ((km_c71.drop 30).take 30).all (km_okd cX5_drop) = true := by decide +kernel
set_option maxRecDepth 100000 in
theorem km_d71_2 : ((km_c71.drop 60).take 30).all (km_okd cX5_drop) = true := by decide +kernel
set_option maxRecDepth 100000 in
theorem km_d71_3 : ((km_c71.drop 90).take 30).all (km_okd cX5_drop) = true := by decide +kernel
theorem km_d71 : km_okc km_q71 = true := km_dall (km_dstep km_d71_0 (km_dstep km_d71_1 (km_dstep km_d71_2 (km_dlast (by decide +kernel) km_d71_3))))
set_option maxRecDepth 100000 in
theorem km_d72_0 : ((km_c72.drop 0).take 30).all (km_okd cX5_goneAhead) = true := by decide +kernel
theorem km_d72 : km_okc km_q72 = true := km_dall (km_dlast (by decide +kernel) km_d72_0)
set_option maxRecDepth 100000 in
theorem km_d73_0 : ((km_c73.drop 0).take 30).all (km_okd cX5_shed) = true := by decide +kernel
set_option maxRecDepth 100000 in
theorem km_d73_1 : ((km_c73.drop 30).take 30).all (km_okd cX5_shed) = true := by decide +kernel
theorem km_d73 : km_okc km_q73 = true := km_dall (km_dstep km_d73_0 (km_dlast (by decide +kernel) km_d73_1))
set_option maxRecDepth 100000 in
theorem km_d74_0 : ((km_c74.drop 0).take 30).all (km_okd cX5_canTake) = true := by decide +kernel
theorem km_d74 : km_okc km_q74 = true := km_dall (km_dlast (by decide +kernel) km_d74_0)
set_option maxRecDepth 100000 in
theorem km_d75_0 : ((km_c75.drop 0).take 30).all (km_okd cX5_take) = true := by decide +kernel
set_option maxRecDepth 100000 in
theorem km_d75_1 : ((km_c75.drop 30).take 30).all (km_okd cX5_take) = true := by decide +kernel
set_option maxRecDepth 100000 in
theorem km_d75_2 : ((km_c75.drop 60).take 30).all (km_okd cX5_take) = true := by decide +kernel
set_option maxRecDepth 100000 in
theorem km_d75_3 : ((km_c75.drop 90).take 30).all (km_okd cX5_take) = true := by decide +kernel
set_option maxRecDepth 100000 in
theorem km_d75_4 : ((km_c75.drop 120).take 30).all (km_okd cX5_take) = true := by decide +kernel
theorem km_d75 : km_okc km_q75 = true := km_dall (km_dstep km_d75_0 (km_dstep km_d75_1 (km_dstep km_d75_2 (km_dstep km_d75_3 (km_dlast (by decide +kernel) km_d75_4)))))
set_option maxRecDepth 100000 in
theorem km_d76_0 : ((km_c76.drop 0).take 30).all (km_okd cX6_init) = true := by decide +kernel
set_option maxRecDepth 100000 in
theorem km_d76_1 : ((km_c76.drop 30).take 30).all (km_okd cX6_init) = true := by decide +kernel
theorem km_d76 : km_okc km_q76 = true := km_dall (km_dstep km_d76_0 (km_dlast (by decide +kernel) km_d76_1))
set_option maxRecDepth 100000 in
theorem km_d77_0 : ((km_c77.drop 0).take 30).all (km_okd cX6_reachFewer) = true := by decide +kernel
theorem km_d77 : km_okc km_q77 = true := km_dall (km_dlast (by decide +kernel) km_d77_0)
set_option maxRecDepth 100000 in
theorem km_d78_0 : ((km_c78.drop 0).take 30).all (km_okd cX6_finds) = true := by decide +kernel
set_option maxRecDepth 100000 in
theorem km_d78_1 : ((km_c78.drop 30).take 30).all (km_okd cX6_finds) = true := by decide +kernel
set_option maxRecDepth 100000 in
theorem km_d78_2 : ((km_c78.drop 60).take 30).all (km_okd cX6_finds) = true := by decide +kernel
theorem km_d78 : km_okc km_q78 = true := km_dall (km_dstep km_d78_0 (km_dstep km_d78_1 (km_dlast (by decide +kernel) km_d78_2)))
set_option maxRecDepth 100000 in
theorem km_d79_0 : ((km_c79.drop 0).take 30).all (km_okd cX7_init) = true := by decide +kernel
theorem km_d79 : km_okc km_q79 = true := km_dall (km_dlast (by decide +kernel) km_d79_0)
end
section
set_option maxRecDepth 100000 in
theorem km_d80_0 : ((km_c80.drop 0).take 30).all (km_okd cX7_put) = true := by decide +kernel
theorem km_d80 : km_okc km_q80 = true := km_dall (km_dlast (by decide +kernel) km_d80_0)
set_option maxRecDepth 100000 in
theorem km_d81_0 : ((km_c81.drop 0).take 30).all (km_okd cX7_begin) = true := by decide +kernel
theorem km_d81 : km_okc km_q81 = true := km_dall (km_dlast (by decide +kernel) km_d81_0)
set_option maxRecDepth 100000 in
theorem km_d82_0 : ((km_c82.drop 0).take 30).all (km_okd cX7_step) = true := by decide +kernel
set_option maxRecDepth 100000 in
theorem km_d82_1 : ((km_c82.drop 30).take 30).all (km_okd cX7_step) = true := by decide +kernel
set_option maxRecDepth 100000 in
theorem km_d82_2 : ((km_c82.drop 60).take 30).all (km_okd cX7_step) = true := by decide +kernel
theorem km_d82 : km_okc km_q82 = true := km_dall (km_dstep km_d82_0 (km_dstep km_d82_1 (km_dlast (by decide +kernel) km_d82_2)))
set_option maxRecDepth 100000 in
theorem km_d83_0 : ((km_c83.drop 0).take 30).all (km_okd cX7_stepWord) = true := by decide +kernel
set_option maxRecDepth 100000 in
theorem km_d83_1 : ((km_c83.drop 30).take 30).all (km_okd cX7_stepWord) = true := by decide +kernel
theorem km_d83 : km_okc km_q83 = true := km_dall (km_dstep km_d83_0 (km_dlast (by decide +kernel) km_d83_1))
set_option maxRecDepth 100000 in
theorem km_d84_0 : ((km_c84.drop 0).take 30).all (km_okd cX7_spells) = true := by decide +kernel
set_option maxRecDepth 100000 in
theorem km_d84_1 : ((km_c84.drop 30).take 30).all (km_okd cX7_spells) = true := by decide +kernel
theorem km_d84 : km_okc km_q84 = true := km_dall (km_dstep km_d84_0 (km_dlast (by decide +kernel) km_d84_1))
set_option maxRecDepth 100000 in
theorem km_d85_0 : ((km_c85.drop 0).take 30).all (km_okd cX7_stepInt) = true := by decide +kernel
set_option maxRecDepth 100000 in
theorem km_d85_1 : ((km_c85.drop 30).take 30).all (km_okd cX7_stepInt) = true := by decide +kernel
theorem km_d85 : km_okc km_q85 = true := km_dall (km_dstep km_d85_0 (km_dlast (by decide +kernel) km_d85_1))
set_option maxRecDepth 100000 in
theorem km_d86_0 : ((km_c86.drop 0).take 30).all (km_okd cX7_byteAt) = true := by decide +kernel
theorem km_d86 : km_okc km_q86 = true := km_dall (km_dlast (by decide +kernel) km_d86_0)
set_option maxRecDepth 100000 in
theorem km_d87_0 : ((km_c87.drop 0).take 30).all (km_okd cX7_isBlank) = true := by decide +kernel
theorem km_d87 : km_okc km_q87 = true := km_dall (km_dlast (by decide +kernel) km_d87_0)
set_option maxRecDepth 100000 in
theorem km_d88_0 : ((km_c88.drop 0).take 30).all (km_okd cX7_isLetter) = true := by decide +kernel
theorem km_d88 : km_okc km_q88 = true := km_dall (km_dlast (by decide +kernel) km_d88_0)
set_option maxRecDepth 100000 in
theorem km_d89_0 : ((km_c89.drop 0).take 30).all (km_okd cX7_isDigit) = true := by decide +kernel
theorem km_d89 : km_okc km_q89 = true := km_dall (km_dlast (by decide +kernel) km_d89_0)
set_option maxRecDepth 100000 in
theorem km_d90_0 : ((km_c90.drop 0).take 30).all (km_okd cX8_init) = true := by decide +kernel
set_option maxRecDepth 100000 in
theorem km_d90_1 : ((km_c90.drop 30).take 30).all (km_okd cX8_init) = true := by decide +kernel
set_option maxRecDepth 100000 in
theorem km_d90_2 : ((km_c90.drop 60).take 30).all (km_okd cX8_init) = true := by decide +kernel
theorem km_d90 : km_okc km_q90 = true := km_dall (km_dstep km_d90_0 (km_dstep km_d90_1 (km_dlast (by decide +kernel) km_d90_2)))
set_option maxRecDepth 100000 in
theorem km_d91_0 : ((km_c91.drop 0).take 30).all (km_okd cX8_feed) = true := by decide +kernel
set_option maxRecDepth 100000 in
theorem km_d91_1 : ((km_c91.drop 30).take 30).all (km_okd cX8_feed) = true := by decide +kernel
theorem km_d91 : km_okc km_q91 = true := km_dall (km_dstep km_d91_0 (km_dlast (by decide +kernel) km_d91_1))
set_option maxRecDepth 100000 in
theorem km_d92_0 : ((km_c92.drop 0).take 30).all (km_okd cX8_back) = true := by decide +kernel
theorem km_d92 : km_okc km_q92 = true := km_dall (km_dlast (by decide +kernel) km_d92_0)
set_option maxRecDepth 100000 in
theorem km_d93_0 : ((km_c93.drop 0).take 30).all (km_okd cX8_read) = true := by decide +kernel
set_option maxRecDepth 100000 in
theorem km_d93_1 : ((km_c93.drop 30).take 30).all (km_okd cX8_read) = true := by decide +kernel
theorem km_d93 : km_okc km_q93 = true := km_dall (km_dstep km_d93_0 (km_dlast (by decide +kernel) km_d93_1))
set_option maxRecDepth 100000 in
theorem km_d94_0 : ((km_c94.drop 0).take 30).all (km_okd cX8_place) = true := by decide +kernel
theorem km_d94 : km_okc km_q94 = true := km_dall (km_dlast (by decide +kernel) km_d94_0)
set_option maxRecDepth 100000 in
theorem km_d95_0 : ((km_c95.drop 0).take 30).all (km_okd cX8_out) = true := by decide +kernel
theorem km_d95 : km_okc km_q95 = true := km_dall (km_dlast (by decide +kernel) km_d95_0)
set_option maxRecDepth 100000 in
theorem km_d96_0 : ((km_c96.drop 0).take 30).all (km_okd cX8_slide) = true := by decide +kernel
theorem km_d96 : km_okc km_q96 = true := km_dall (km_dlast (by decide +kernel) km_d96_0)
set_option maxRecDepth 100000 in
theorem km_d97_0 : ((km_c97.drop 0).take 30).all (km_okd cX8_kink) = true := by decide +kernel
theorem km_d97 : km_okc km_q97 = true := km_dall (km_dlast (by decide +kernel) km_d97_0)
set_option maxRecDepth 100000 in
theorem km_d98_0 : ((km_c98.drop 0).take 30).all (km_okd cX8_loosen) = true := by decide +kernel
theorem km_d98 : km_okc km_q98 = true := km_dall (km_dlast (by decide +kernel) km_d98_0)
set_option maxRecDepth 100000 in
theorem km_d99_0 : ((km_c99.drop 0).take 30).all (km_okd cX8_mirror) = true := by decide +kernel
theorem km_d99 : km_okc km_q99 = true := km_dall (km_dlast (by decide +kernel) km_d99_0)
set_option maxRecDepth 100000 in
theorem km_d100_0 : ((km_c100.drop 0).take 30).all (km_okd cX8_round) = true := by decide +kernel
theorem km_d100 : km_okc km_q100 = true := km_dall (km_dlast (by decide +kernel) km_d100_0)
set_option maxRecDepth 100000 in
theorem km_d101_0 : ((km_c101.drop 0).take 30).all (km_okd cX8_switches) = true := by decide +kernel
theorem km_d101 : km_okc km_q101 = true := km_dall (km_dlast (by decide +kernel) km_d101_0)
set_option maxRecDepth 100000 in
theorem km_d102_0 : ((km_c102.drop 0).take 30).all (km_okd cX8_sum) = true := by decide +kernel
theorem km_d102 : km_okc km_q102 = true := km_dall (km_dlast (by decide +kernel) km_d102_0)
set_option maxRecDepth 100000 in
theorem km_d103_0 : ((km_c103.drop 0).take 30).all (km_okd cX8_undo) = true := by decide +kernel
theorem km_d103 : km_okc km_q103 = true := km_dall (km_dlast (by decide +kernel) km_d103_0)
set_option maxRecDepth 100000 in
theorem km_d104_0 : ((km_c104.drop 0).take 30).all (km_okd cX8_ring) = true := by decide +kernel
set_option maxRecDepth 100000 in
theorem km_d104_1 : ((km_c104.drop 30).take 30).all (km_okd cX8_ring) = true := by decide +kernel
set_option maxRecDepth 100000 in
theorem km_d104_2 : ((km_c104.drop 60).take 30).all (km_okd cX8_ring) = true := by decide +kernel
theorem km_d104 : km_okc km_q104 = true := km_dall (km_dstep km_d104_0 (km_dstep km_d104_1 (km_dlast (by decide +kernel) km_d104_2)))
set_option maxRecDepth 100000 in
theorem km_d105_0 : ((km_c105.drop 0).take 30).all (km_okd cX8_crossing) = true := by decide +kernel
set_option maxRecDepth 100000 in
theorem km_d105_1 : ((km_c105.drop 30).take 30).all (km_okd cX8_crossing) = true := by decide +kernel
theorem km_d105 : km_okc km_q105 = true := km_dall (km_dstep km_d105_0 (km_dlast (by decide +kernel) km_d105_1))
set_option maxRecDepth 100000 in
theorem km_d106_0 : ((km_c106.drop 0).take 30).all (km_okd cX8_face) = true := by decide +kernel
set_option maxRecDepth 100000 in
theorem km_d106_1 : ((km_c106.drop 30).take 30).all (km_okd cX8_face) = true := by decide +kernel
theorem km_d106 : km_okc km_q106 = true := km_dall (km_dstep km_d106_0 (km_dlast (by decide +kernel) km_d106_1))
set_option maxRecDepth 100000 in
theorem km_d107_0 : ((km_c107.drop 0).take 30).all (km_okd cX8_loops) = true := by decide +kernel
theorem km_d107 : km_okc km_q107 = true := km_dall (km_dlast (by decide +kernel) km_d107_0)
set_option maxRecDepth 100000 in
theorem km_d108_0 : ((km_c108.drop 0).take 30).all (km_okd cX8_coefficient) = true := by decide +kernel
theorem km_d108 : km_okc km_q108 = true := km_dall (km_dlast (by decide +kernel) km_d108_0)
set_option maxRecDepth 100000 in
theorem km_d109_0 : ((km_c109.drop 0).take 30).all (km_okd cX8_winding) = true := by decide +kernel
set_option maxRecDepth 100000 in
theorem km_d109_1 : ((km_c109.drop 30).take 30).all (km_okd cX8_winding) = true := by decide +kernel
set_option maxRecDepth 100000 in
theorem km_d109_2 : ((km_c109.drop 60).take 30).all (km_okd cX8_winding) = true := by decide +kernel
theorem km_d109 : km_okc km_q109 = true := km_dall (km_dstep km_d109_0 (km_dstep km_d109_1 (km_dlast (by decide +kernel) km_d109_2)))
set_option maxRecDepth 100000 in
theorem km_d110_0 : ((km_c110.drop 0).take 30).all (km_okd cX8_colourings) = true := by decide +kernel
theorem km_d110 : km_okc km_q110 = true := km_dall (km_dlast (by decide +kernel) km_d110_0)
set_option maxRecDepth 100000 in
theorem km_d111_0 : ((km_c111.drop 0).take 30).all (km_okd cX8_freed) = true := by decide +kernel
theorem km_d111 : km_okc km_q111 = true := km_dall (km_dlast (by decide +kernel) km_d111_0)
set_option maxRecDepth 100000 in
theorem km_d112_0 : ((km_c112.drop 0).take 30).all (km_okd cX8_looser) = true := by decide +kernel
theorem km_d112 : km_okc km_q112 = true := km_dall (km_dlast (by decide +kernel) km_d112_0)
set_option maxRecDepth 100000 in
theorem km_d113_0 : ((km_c113.drop 0).take 30).all (km_okd cX8_alike) = true := by decide +kernel
set_option maxRecDepth 100000 in
theorem km_d113_1 : ((km_c113.drop 30).take 30).all (km_okd cX8_alike) = true := by decide +kernel
theorem km_d113 : km_okc km_q113 = true := km_dall (km_dstep km_d113_0 (km_dlast (by decide +kernel) km_d113_1))
set_option maxRecDepth 100000 in
theorem km_d114_0 : ((km_c114.drop 0).take 30).all (km_okd cX8_hold) = true := by decide +kernel
theorem km_d114 : km_okc km_q114 = true := km_dall (km_dlast (by decide +kernel) km_d114_0)
set_option maxRecDepth 100000 in
theorem km_d115_0 : ((km_c115.drop 0).take 30).all (km_okd cX8_restore) = true := by decide +kernel
theorem km_d115 : km_okc km_q115 = true := km_dall (km_dlast (by decide +kernel) km_d115_0)
set_option maxRecDepth 100000 in
theorem km_d116_0 : ((km_c116.drop 0).take 30).all (km_okd cX8_count) = true := by decide +kernel
set_option maxRecDepth 100000 in
theorem km_d116_1 : ((km_c116.drop 30).take 30).all (km_okd cX8_count) = true := by decide +kernel
set_option maxRecDepth 100000 in
theorem km_d116_2 : ((km_c116.drop 60).take 30).all (km_okd cX8_count) = true := by decide +kernel
theorem km_d116 : km_okc km_q116 = true := km_dall (km_dstep km_d116_0 (km_dstep km_d116_1 (km_dlast (by decide +kernel) km_d116_2)))
set_option maxRecDepth 100000 in
theorem km_d117_0 : ((km_c117.drop 0).take 30).all (km_okd cX8_changed) = true := by decide +kernel
theorem km_d117 : km_okc km_q117 = true := km_dall (km_dlast (by decide +kernel) km_d117_0)
set_option maxRecDepth 100000 in
theorem km_d118_0 : ((km_c118.drop 0).take 30).all (km_okd cX8_holds) = true := by decide +kernel
theorem km_d118 : km_okc km_q118 = true := km_dall (km_dlast (by decide +kernel) km_d118_0)
set_option maxRecDepth 100000 in
theorem km_d119_0 : ((km_c119.drop 0).take 30).all (km_okd cX8_slotsHeld) = true := by decide +kernel
theorem km_d119 : km_okc km_q119 = true := km_dall (km_dlast (by decide +kernel) km_d119_0)
set_option maxRecDepth 100000 in
theorem km_d120_0 : ((km_c120.drop 0).take 30).all (km_okd cX8_kindOfFace) = true := by decide +kernel
theorem km_d120 : km_okc km_q120 = true := km_dall (km_dlast (by decide +kernel) km_d120_0)
set_option maxRecDepth 100000 in
theorem km_d121_0 : ((km_c121.drop 0).take 30).all (km_okd cX8_ownBracket) = true := by decide +kernel
theorem km_d121 : km_okc km_q121 = true := km_dall (km_dlast (by decide +kernel) km_d121_0)
set_option maxRecDepth 100000 in
theorem km_d122_0 : ((km_c122.drop 0).take 30).all (km_okd cX8_fewestSwitches) = true := by decide +kernel
theorem km_d122 : km_okc km_q122 = true := km_dall (km_dlast (by decide +kernel) km_d122_0)
set_option maxRecDepth 100000 in
theorem km_d123_0 : ((km_c123.drop 0).take 30).all (km_okd cX8_comesLoose) = true := by decide +kernel
theorem km_d123 : km_okc km_q123 = true := km_dall (km_dlast (by decide +kernel) km_d123_0)
set_option maxRecDepth 100000 in
theorem km_d124_0 : ((km_c124.drop 0).take 30).all (km_okd cX9_init) = true := by decide +kernel
set_option maxRecDepth 100000 in
theorem km_d124_1 : ((km_c124.drop 30).take 30).all (km_okd cX9_init) = true := by decide +kernel
set_option maxRecDepth 100000 in
theorem km_d124_2 : ((km_c124.drop 60).take 30).all (km_okd cX9_init) = true := by decide +kernel
set_option maxRecDepth 100000 in
theorem km_d124_3 : ((km_c124.drop 90).take 30).all (km_okd cX9_init) = true := by decide +kernel
set_option maxRecDepth 100000 in
theorem km_d124_4 : ((km_c124.drop 120).take 30).all (km_okd cX9_init) = true := by decide +kernel
set_option maxRecDepth 100000 in
theorem km_d124_5 : ((km_c124.drop 150).take 30).all (km_okd cX9_init) = true := by decide +kernel
set_option maxRecDepth 100000 in
theorem km_d124_6 : ((km_c124.drop 180).take 30).all (km_okd cX9_init) = true := by decide +kernel
theorem km_d124 : km_okc km_q124 = true := km_dall (km_dstep km_d124_0 (km_dstep km_d124_1 (km_dstep km_d124_2 (km_dstep km_d124_3 (km_dstep km_d124_4 (km_dstep km_d124_5 (km_dlast (by decide +kernel) km_d124_6)))))))
set_option maxRecDepth 100000 in
theorem km_d125_0 : ((km_c125.drop 0).take 30).all (km_okd cX9_feed) = true := by decide +kernel
theorem km_d125 : km_okc km_q125 = true := km_dall (km_dlast (by decide +kernel) km_d125_0)
set_option maxRecDepth 100000 in
theorem km_d126_0 : ((km_c126.drop 0).take 30).all (km_okd cX9_lays) = true := by decide +kernel
theorem km_d126 : km_okc km_q126 = true := km_dall (km_dlast (by decide +kernel) km_d126_0)
set_option maxRecDepth 100000 in
theorem km_d127_0 : ((km_c127.drop 0).take 30).all (km_okd cX9_back) = true := by decide +kernel
theorem km_d127 : km_okc km_q127 = true := km_dall (km_dlast (by decide +kernel) km_d127_0)
set_option maxRecDepth 100000 in
theorem km_d128_0 : ((km_c128.drop 0).take 30).all (km_okd cX9_byteAt) = true := by decide +kernel
theorem km_d128 : km_okc km_q128 = true := km_dall (km_dlast (by decide +kernel) km_d128_0)
set_option maxRecDepth 100000 in
theorem km_d129_0 : ((km_c129.drop 0).take 30).all (km_okd cX9_isDigit) = true := by decide +kernel
theorem km_d129 : km_okc km_q129 = true := km_dall (km_dlast (by decide +kernel) km_d129_0)
set_option maxRecDepth 100000 in
theorem km_d130_0 : ((km_c130.drop 0).take 30).all (km_okd cX9_isLetter) = true := by decide +kernel
theorem km_d130 : km_okc km_q130 = true := km_dall (km_dlast (by decide +kernel) km_d130_0)
set_option maxRecDepth 100000 in
theorem km_d131_0 : ((km_c131.drop 0).take 30).all (km_okd cX9_appends) = true := by decide +kernel
theorem km_d131 : km_okc km_q131 = true := km_dall (km_dlast (by decide +kernel) km_d131_0)
set_option maxRecDepth 100000 in
theorem km_d132_0 : ((km_c132.drop 0).take 30).all (km_okd cX9_letters) = true := by decide +kernel
theorem km_d132 : km_okc km_q132 = true := km_dall (km_dlast (by decide +kernel) km_d132_0)
set_option maxRecDepth 100000 in
theorem km_d133_0 : ((km_c133.drop 0).take 30).all (km_okd cX9_token) = true := by decide +kernel
set_option maxRecDepth 100000 in
theorem km_d133_1 : ((km_c133.drop 30).take 30).all (km_okd cX9_token) = true := by decide +kernel
theorem km_d133 : km_okc km_q133 = true := km_dall (km_dstep km_d133_0 (km_dlast (by decide +kernel) km_d133_1))
set_option maxRecDepth 100000 in
theorem km_d134_0 : ((km_c134.drop 0).take 30).all (km_okd cX9_cutsText) = true := by decide +kernel
set_option maxRecDepth 100000 in
theorem km_d134_1 : ((km_c134.drop 30).take 30).all (km_okd cX9_cutsText) = true := by decide +kernel
set_option maxRecDepth 100000 in
theorem km_d134_2 : ((km_c134.drop 60).take 30).all (km_okd cX9_cutsText) = true := by decide +kernel
set_option maxRecDepth 100000 in
theorem km_d134_3 : ((km_c134.drop 90).take 30).all (km_okd cX9_cutsText) = true := by decide +kernel
set_option maxRecDepth 100000 in
theorem km_d134_4 : ((km_c134.drop 120).take 30).all (km_okd cX9_cutsText) = true := by decide +kernel
set_option maxRecDepth 100000 in
theorem km_d134_5 : ((km_c134.drop 150).take 30).all (km_okd cX9_cutsText) = true := by decide +kernel
theorem km_d134 : km_okc km_q134 = true := km_dall (km_dstep km_d134_0 (km_dstep km_d134_1 (km_dstep km_d134_2 (km_dstep km_d134_3 (km_dstep km_d134_4 (km_dlast (by decide +kernel) km_d134_5))))))
set_option maxRecDepth 100000 in
theorem km_d135_0 : ((km_c135.drop 0).take 30).all (km_okd cX9_sign) = true := by decide +kernel
theorem km_d135 : km_okc km_q135 = true := km_dall (km_dlast (by decide +kernel) km_d135_0)
set_option maxRecDepth 100000 in
theorem km_d136_0 : ((km_c136.drop 0).take 30).all (km_okd cX9_is) = true := by decide +kernel
theorem km_d136 : km_okc km_q136 = true := km_dall (km_dlast (by decide +kernel) km_d136_0)
set_option maxRecDepth 100000 in
theorem km_d137_0 : ((km_c137.drop 0).take 30).all (km_okd cX9_fail) = true := by decide +kernel
theorem km_d137 : km_okc km_q137 = true := km_dall (km_dlast (by decide +kernel) km_d137_0)
set_option maxRecDepth 100000 in
theorem km_d138_0 : ((km_c138.drop 0).take 30).all (km_okd cX9_wrong) = true := by decide +kernel
set_option maxRecDepth 100000 in
theorem km_d138_1 : ((km_c138.drop 30).take 30).all (km_okd cX9_wrong) = true := by decide +kernel
theorem km_d138 : km_okc km_q138 = true := km_dall (km_dstep km_d138_0 (km_dlast (by decide +kernel) km_d138_1))
set_option maxRecDepth 100000 in
theorem km_d139_0 : ((km_c139.drop 0).take 30).all (km_okd cX9_passes) = true := by decide +kernel
theorem km_d139 : km_okc km_q139 = true := km_dall (km_dlast (by decide +kernel) km_d139_0)
set_option maxRecDepth 100000 in
theorem km_d140_0 : ((km_c140.drop 0).take 30).all (km_okd cX9_must) = true := by decide +kernel
theorem km_d140 : km_okc km_q140 = true := km_dall (km_dlast (by decide +kernel) km_d140_0)
set_option maxRecDepth 100000 in
theorem km_d141_0 : ((km_c141.drop 0).take 30).all (km_okd cX9_read) = true := by decide +kernel
set_option maxRecDepth 100000 in
theorem km_d141_1 : ((km_c141.drop 30).take 30).all (km_okd cX9_read) = true := by decide +kernel
set_option maxRecDepth 100000 in
theorem km_d141_2 : ((km_c141.drop 60).take 30).all (km_okd cX9_read) = true := by decide +kernel
set_option maxRecDepth 100000 in
theorem km_d141_3 : ((km_c141.drop 90).take 30).all (km_okd cX9_read) = true := by decide +kernel
set_option maxRecDepth 100000 in
theorem km_d141_4 : ((km_c141.drop 120).take 30).all (km_okd cX9_read) = true := by decide +kernel
theorem km_d141 : km_okc km_q141 = true := km_dall (km_dstep km_d141_0 (km_dstep km_d141_1 (km_dstep km_d141_2 (km_dstep km_d141_3 (km_dlast (by decide +kernel) km_d141_4)))))
set_option maxRecDepth 100000 in
theorem km_d142_0 : ((km_c142.drop 0).take 30).all (km_okd cX9_place) = true := by decide +kernel
theorem km_d142 : km_okc km_q142 = true := km_dall (km_dlast (by decide +kernel) km_d142_0)
set_option maxRecDepth 100000 in
theorem km_d143_0 : ((km_c143.drop 0).take 30).all (km_okd cX9_tellBraid) = true := by decide +kernel
set_option maxRecDepth 100000 in
theorem km_d143_1 : ((km_c143.drop 30).take 30).all (km_okd cX9_tellBraid) = true := by decide +kernel
theorem km_d143 : km_okc km_q143 = true := km_dall (km_dstep km_d143_0 (km_dlast (by decide +kernel) km_d143_1))
set_option maxRecDepth 100000 in
theorem km_d144_0 : ((km_c144.drop 0).take 30).all (km_okd cX9_tellRing) = true := by decide +kernel
set_option maxRecDepth 100000 in
theorem km_d144_1 : ((km_c144.drop 30).take 30).all (km_okd cX9_tellRing) = true := by decide +kernel
set_option maxRecDepth 100000 in
theorem km_d144_2 : ((km_c144.drop 60).take 30).all (km_okd cX9_tellRing) = true := by decide +kernel
theorem km_d144 : km_okc km_q144 = true := km_dall (km_dstep km_d144_0 (km_dstep km_d144_1 (km_dlast (by decide +kernel) km_d144_2)))
set_option maxRecDepth 100000 in
theorem km_d145_0 : ((km_c145.drop 0).take 30).all (km_okd cX9_unlikeAt) = true := by decide +kernel
theorem km_d145 : km_okc km_q145 = true := km_dall (km_dlast (by decide +kernel) km_d145_0)
set_option maxRecDepth 100000 in
theorem km_d146_0 : ((km_c146.drop 0).take 30).all (km_okd cX9_meets) = true := by decide +kernel
theorem km_d146 : km_okc km_q146 = true := km_dall (km_dlast (by decide +kernel) km_d146_0)
set_option maxRecDepth 100000 in
theorem km_d147_0 : ((km_c147.drop 0).take 30).all (km_okd cX9_means) = true := by decide +kernel
set_option maxRecDepth 100000 in
theorem km_d147_1 : ((km_c147.drop 30).take 30).all (km_okd cX9_means) = true := by decide +kernel
theorem km_d147 : km_okc km_q147 = true := km_dall (km_dstep km_d147_0 (km_dlast (by decide +kernel) km_d147_1))
set_option maxRecDepth 100000 in
theorem km_d148_0 : ((km_c148.drop 0).take 30).all (km_okd cX9_meansRings) = true := by decide +kernel
set_option maxRecDepth 100000 in
theorem km_d148_1 : ((km_c148.drop 30).take 30).all (km_okd cX9_meansRings) = true := by decide +kernel
set_option maxRecDepth 100000 in
theorem km_d148_2 : ((km_c148.drop 60).take 30).all (km_okd cX9_meansRings) = true := by decide +kernel
set_option maxRecDepth 100000 in
theorem km_d148_3 : ((km_c148.drop 90).take 30).all (km_okd cX9_meansRings) = true := by decide +kernel
set_option maxRecDepth 100000 in
theorem km_d148_4 : ((km_c148.drop 120).take 30).all (km_okd cX9_meansRings) = true := by decide +kernel
set_option maxRecDepth 100000 in
theorem km_d148_5 : ((km_c148.drop 150).take 30).all (km_okd cX9_meansRings) = true := by decide +kernel
theorem km_d148 : km_okc km_q148 = true := km_dall (km_dstep km_d148_0 (km_dstep km_d148_1 (km_dstep km_d148_2 (km_dstep km_d148_3 (km_dstep km_d148_4 (km_dlast (by decide +kernel) km_d148_5))))))
set_option maxRecDepth 100000 in
theorem km_d149_0 : ((km_c149.drop 0).take 30).all (km_okd cX9_adds) = true := by decide +kernel
theorem km_d149 : km_okc km_q149 = true := km_dall (km_dlast (by decide +kernel) km_d149_0)
set_option maxRecDepth 100000 in
theorem km_d150_0 : ((km_c150.drop 0).take 30).all (km_okd cX9_lacks) = true := by decide +kernel
theorem km_d150 : km_okc km_q150 = true := km_dall (km_dlast (by decide +kernel) km_d150_0)
set_option maxRecDepth 100000 in
theorem km_d151_0 : ((km_c151.drop 0).take 30).all (km_okd cX9_meansBraid) = true := by decide +kernel
set_option maxRecDepth 100000 in
theorem km_d151_1 : ((km_c151.drop 30).take 30).all (km_okd cX9_meansBraid) = true := by decide +kernel
set_option maxRecDepth 100000 in
theorem km_d151_2 : ((km_c151.drop 60).take 30).all (km_okd cX9_meansBraid) = true := by decide +kernel
set_option maxRecDepth 100000 in
theorem km_d151_3 : ((km_c151.drop 90).take 30).all (km_okd cX9_meansBraid) = true := by decide +kernel
set_option maxRecDepth 100000 in
theorem km_d151_4 : ((km_c151.drop 120).take 30).all (km_okd cX9_meansBraid) = true := by decide +kernel
theorem km_d151 : km_okc km_q151 = true := km_dall (km_dstep km_d151_0 (km_dstep km_d151_1 (km_dstep km_d151_2 (km_dstep km_d151_3 (km_dlast (by decide +kernel) km_d151_4)))))
set_option maxRecDepth 100000 in
theorem km_d152_0 : ((km_c152.drop 0).take 30).all (km_okd cX9_goesDown) = true := by decide +kernel
set_option maxRecDepth 100000 in
theorem km_d152_1 : ((km_c152.drop 30).take 30).all (km_okd cX9_goesDown) = true := by decide +kernel
set_option maxRecDepth 100000 in
theorem km_d152_2 : ((km_c152.drop 60).take 30).all (km_okd cX9_goesDown) = true := by decide +kernel
theorem km_d152 : km_okc km_q152 = true := km_dall (km_dstep km_d152_0 (km_dstep km_d152_1 (km_dlast (by decide +kernel) km_d152_2)))
set_option maxRecDepth 100000 in
theorem km_d153_0 : ((km_c153.drop 0).take 30).all (km_okd cX9_in) = true := by decide +kernel
theorem km_d153 : km_okc km_q153 = true := km_dall (km_dlast (by decide +kernel) km_d153_0)
set_option maxRecDepth 100000 in
theorem km_d154_0 : ((km_c154.drop 0).take 30).all (km_okd cX9_has) = true := by decide +kernel
theorem km_d154 : km_okc km_q154 = true := km_dall (km_dlast (by decide +kernel) km_d154_0)
set_option maxRecDepth 100000 in
theorem km_d155_0 : ((km_c155.drop 0).take 30).all (km_okd cX9_bitsOf) = true := by decide +kernel
theorem km_d155 : km_okc km_q155 = true := km_dall (km_dlast (by decide +kernel) km_d155_0)
set_option maxRecDepth 100000 in
theorem km_d156_0 : ((km_c156.drop 0).take 30).all (km_okd cX9_copies) = true := by decide +kernel
theorem km_d156 : km_okc km_q156 = true := km_dall (km_dlast (by decide +kernel) km_d156_0)
set_option maxRecDepth 100000 in
theorem km_d157_0 : ((km_c157.drop 0).take 30).all (km_okd cX9_laysEdges) = true := by decide +kernel
set_option maxRecDepth 100000 in
theorem km_d157_1 : ((km_c157.drop 30).take 30).all (km_okd cX9_laysEdges) = true := by decide +kernel
set_option maxRecDepth 100000 in
theorem km_d157_2 : ((km_c157.drop 60).take 30).all (km_okd cX9_laysEdges) = true := by decide +kernel
set_option maxRecDepth 100000 in
theorem km_d157_3 : ((km_c157.drop 90).take 30).all (km_okd cX9_laysEdges) = true := by decide +kernel
set_option maxRecDepth 100000 in
theorem km_d157_4 : ((km_c157.drop 120).take 30).all (km_okd cX9_laysEdges) = true := by decide +kernel
theorem km_d157 : km_okc km_q157 = true := km_dall (km_dstep km_d157_0 (km_dstep km_d157_1 (km_dstep km_d157_2 (km_dstep km_d157_3 (km_dlast (by decide +kernel) km_d157_4)))))
set_option maxRecDepth 100000 in
theorem km_d158_0 : ((km_c158.drop 0).take 30).all (km_okd cX9_endIn) = true := by decide +kernel
theorem km_d158 : km_okc km_q158 = true := km_dall (km_dlast (by decide +kernel) km_d158_0)
set_option maxRecDepth 100000 in
theorem km_d159_0 : ((km_c159.drop 0).take 30).all (km_okd cX9_turnsTo) = true := by decide +kernel
set_option maxRecDepth 100000 in
theorem km_d159_1 : ((km_c159.drop 30).take 30).all (km_okd cX9_turnsTo) = true := by decide +kernel
set_option maxRecDepth 100000 in
theorem km_d159_2 : ((km_c159.drop 60).take 30).all (km_okd cX9_turnsTo) = true := by decide +kernel
theorem km_d159 : km_okc km_q159 = true := km_dall (km_dstep km_d159_0 (km_dstep km_d159_1 (km_dlast (by decide +kernel) km_d159_2)))
set_option maxRecDepth 100000 in
theorem km_d160_0 : ((km_c160.drop 0).take 30).all (km_okd cX9_crossingBehind) = true := by decide +kernel
theorem km_d160 : km_okc km_q160 = true := km_dall (km_dlast (by decide +kernel) km_d160_0)
set_option maxRecDepth 100000 in
theorem km_d161_0 : ((km_c161.drop 0).take 30).all (km_okd cX9_laysFaces) = true := by decide +kernel
set_option maxRecDepth 100000 in
theorem km_d161_1 : ((km_c161.drop 30).take 30).all (km_okd cX9_laysFaces) = true := by decide +kernel
set_option maxRecDepth 100000 in
theorem km_d161_2 : ((km_c161.drop 60).take 30).all (km_okd cX9_laysFaces) = true := by decide +kernel
theorem km_d161 : km_okc km_q161 = true := km_dall (km_dstep km_d161_0 (km_dstep km_d161_1 (km_dlast (by decide +kernel) km_d161_2)))
set_option maxRecDepth 100000 in
theorem km_d162_0 : ((km_c162.drop 0).take 30).all (km_okd cX9_partsOf) = true := by decide +kernel
set_option maxRecDepth 100000 in
theorem km_d162_1 : ((km_c162.drop 30).take 30).all (km_okd cX9_partsOf) = true := by decide +kernel
theorem km_d162 : km_okc km_q162 = true := km_dall (km_dstep km_d162_0 (km_dlast (by decide +kernel) km_d162_1))
set_option maxRecDepth 100000 in
theorem km_d163_0 : ((km_c163.drop 0).take 30).all (km_okd cX9_joins) = true := by decide +kernel
set_option maxRecDepth 100000 in
theorem km_d163_1 : ((km_c163.drop 30).take 30).all (km_okd cX9_joins) = true := by decide +kernel
theorem km_d163 : km_okc km_q163 = true := km_dall (km_dstep km_d163_0 (km_dlast (by decide +kernel) km_d163_1))
set_option maxRecDepth 100000 in
theorem km_d164_0 : ((km_c164.drop 0).take 30).all (km_okd cX9_canBeDrawn) = true := by decide +kernel
theorem km_d164 : km_okc km_q164 = true := km_dall (km_dlast (by decide +kernel) km_d164_0)
set_option maxRecDepth 100000 in
theorem km_d165_0 : ((km_c165.drop 0).take 30).all (km_okd cX9_oversOf) = true := by decide +kernel
theorem km_d165 : km_okc km_q165 = true := km_dall (km_dlast (by decide +kernel) km_d165_0)
set_option maxRecDepth 100000 in
theorem km_d166_0 : ((km_c166.drop 0).take 30).all (km_okd cX9_kindOf) = true := by decide +kernel
set_option maxRecDepth 100000 in
theorem km_d166_1 : ((km_c166.drop 30).take 30).all (km_okd cX9_kindOf) = true := by decide +kernel
set_option maxRecDepth 100000 in
theorem km_d166_2 : ((km_c166.drop 60).take 30).all (km_okd cX9_kindOf) = true := by decide +kernel
set_option maxRecDepth 100000 in
theorem km_d166_3 : ((km_c166.drop 90).take 30).all (km_okd cX9_kindOf) = true := by decide +kernel
theorem km_d166 : km_okc km_q166 = true := km_dall (km_dstep km_d166_0 (km_dstep km_d166_1 (km_dstep km_d166_2 (km_dlast (by decide +kernel) km_d166_3))))
set_option maxRecDepth 100000 in
theorem km_d167_0 : ((km_c167.drop 0).take 30).all (km_okd cX9_kindMany) = true := by decide +kernel
theorem km_d167 : km_okc km_q167 = true := km_dall (km_dlast (by decide +kernel) km_d167_0)
set_option maxRecDepth 100000 in
theorem km_d168_0 : ((km_c168.drop 0).take 30).all (km_okd cX9_firstOf) = true := by decide +kernel
theorem km_d168 : km_okc km_q168 = true := km_dall (km_dlast (by decide +kernel) km_d168_0)
end
section
set_option maxRecDepth 100000 in
theorem km_d169_0 : ((km_c169.drop 0).take 30).all (km_okd cX9_dropsOut) = true := by decide +kernel
set_option maxRecDepth 100000 in
theorem km_d169_1 : ((km_c169.drop 30).take 30).all (km_okd cX9_dropsOut) = true := by decide +kernel
set_option maxRecDepth 100000 in
theorem km_d169_2 : ((km_c169.drop 60).take 30).all (km_okd cX9_dropsOut) = true := by decide +kernel
set_option maxRecDepth 100000 in
theorem km_d169_3 : ((km_c169.drop 90).take 30).all (km_okd cX9_dropsOut) = true := by decide +kernel
theorem km_d169 : km_okc km_q169 = true := km_dall (km_dstep km_d169_0 (km_dstep km_d169_1 (km_dstep km_d169_2 (km_dlast (by decide +kernel) km_d169_3))))
set_option maxRecDepth 100000 in
theorem km_d170_0 : ((km_c170.drop 0).take 30).all (km_okd cX9_goesOut) = true := by decide +kernel
set_option maxRecDepth 100000 in
theorem km_d170_1 : ((km_c170.drop 30).take 30).all (km_okd cX9_goesOut) = true := by decide +kernel
theorem km_d170 : km_okc km_q170 = true := km_dall (km_dstep km_d170_0 (km_dlast (by decide +kernel) km_d170_1))
set_option maxRecDepth 100000 in
theorem km_d171_0 : ((km_c171.drop 0).take 30).all (km_okd cX9_loosens) = true := by decide +kernel
set_option maxRecDepth 100000 in
theorem km_d171_1 : ((km_c171.drop 30).take 30).all (km_okd cX9_loosens) = true := by decide +kernel
theorem km_d171 : km_okc km_q171 = true := km_dall (km_dstep km_d171_0 (km_dlast (by decide +kernel) km_d171_1))
set_option maxRecDepth 100000 in
theorem km_d172_0 : ((km_c172.drop 0).take 30).all (km_okd cX9_whereOf) = true := by decide +kernel
theorem km_d172 : km_okc km_q172 = true := km_dall (km_dlast (by decide +kernel) km_d172_0)
set_option maxRecDepth 100000 in
theorem km_d173_0 : ((km_c173.drop 0).take 30).all (km_okd cX9_slides) = true := by decide +kernel
set_option maxRecDepth 100000 in
theorem km_d173_1 : ((km_c173.drop 30).take 30).all (km_okd cX9_slides) = true := by decide +kernel
theorem km_d173 : km_okc km_q173 = true := km_dall (km_dstep km_d173_0 (km_dlast (by decide +kernel) km_d173_1))
set_option maxRecDepth 100000 in
theorem km_d174_0 : ((km_c174.drop 0).take 30).all (km_okd cX9_exchanges) = true := by decide +kernel
theorem km_d174 : km_okc km_q174 = true := km_dall (km_dlast (by decide +kernel) km_d174_0)
set_option maxRecDepth 100000 in
theorem km_d175_0 : ((km_c175.drop 0).take 30).all (km_okd cX9_switchesAt) = true := by decide +kernel
set_option maxRecDepth 100000 in
theorem km_d175_1 : ((km_c175.drop 30).take 30).all (km_okd cX9_switchesAt) = true := by decide +kernel
theorem km_d175 : km_okc km_q175 = true := km_dall (km_dstep km_d175_0 (km_dlast (by decide +kernel) km_d175_1))
set_option maxRecDepth 100000 in
theorem km_d176_0 : ((km_c176.drop 0).take 30).all (km_okd cX9_marks) = true := by decide +kernel
set_option maxRecDepth 100000 in
theorem km_d176_1 : ((km_c176.drop 30).take 30).all (km_okd cX9_marks) = true := by decide +kernel
theorem km_d176 : km_okc km_q176 = true := km_dall (km_dstep km_d176_0 (km_dlast (by decide +kernel) km_d176_1))
set_option maxRecDepth 100000 in
theorem km_d177_0 : ((km_c177.drop 0).take 30).all (km_okd cX9_undo) = true := by decide +kernel
set_option maxRecDepth 100000 in
theorem km_d177_1 : ((km_c177.drop 30).take 30).all (km_okd cX9_undo) = true := by decide +kernel
theorem km_d177 : km_okc km_q177 = true := km_dall (km_dstep km_d177_0 (km_dlast (by decide +kernel) km_d177_1))
set_option maxRecDepth 100000 in
theorem km_d178_0 : ((km_c178.drop 0).take 30).all (km_okd cX9_hold) = true := by decide +kernel
set_option maxRecDepth 100000 in
theorem km_d178_1 : ((km_c178.drop 30).take 30).all (km_okd cX9_hold) = true := by decide +kernel
theorem km_d178 : km_okc km_q178 = true := km_dall (km_dstep km_d178_0 (km_dlast (by decide +kernel) km_d178_1))
set_option maxRecDepth 100000 in
theorem km_d179_0 : ((km_c179.drop 0).take 30).all (km_okd cX9_hasHeld) = true := by decide +kernel
set_option maxRecDepth 100000 in
theorem km_d179_1 : ((km_c179.drop 30).take 30).all (km_okd cX9_hasHeld) = true := by decide +kernel
theorem km_d179 : km_okc km_q179 = true := km_dall (km_dstep km_d179_0 (km_dlast (by decide +kernel) km_d179_1))
set_option maxRecDepth 100000 in
theorem km_d180_0 : ((km_c180.drop 0).take 30).all (km_okd cX9_restore) = true := by decide +kernel
theorem km_d180 : km_okc km_q180 = true := km_dall (km_dlast (by decide +kernel) km_d180_0)
set_option maxRecDepth 100000 in
theorem km_d181_0 : ((km_c181.drop 0).take 30).all (km_okd cX9_out) = true := by decide +kernel
set_option maxRecDepth 100000 in
theorem km_d181_1 : ((km_c181.drop 30).take 30).all (km_okd cX9_out) = true := by decide +kernel
theorem km_d181 : km_okc km_q181 = true := km_dall (km_dstep km_d181_0 (km_dlast (by decide +kernel) km_d181_1))
set_option maxRecDepth 100000 in
theorem km_d182_0 : ((km_c182.drop 0).take 30).all (km_okd cX9_slide) = true := by decide +kernel
theorem km_d182 : km_okc km_q182 = true := km_dall (km_dlast (by decide +kernel) km_d182_0)
set_option maxRecDepth 100000 in
theorem km_d183_0 : ((km_c183.drop 0).take 30).all (km_okd cX9_kink) = true := by decide +kernel
set_option maxRecDepth 100000 in
theorem km_d183_1 : ((km_c183.drop 30).take 30).all (km_okd cX9_kink) = true := by decide +kernel
set_option maxRecDepth 100000 in
theorem km_d183_2 : ((km_c183.drop 60).take 30).all (km_okd cX9_kink) = true := by decide +kernel
set_option maxRecDepth 100000 in
theorem km_d183_3 : ((km_c183.drop 90).take 30).all (km_okd cX9_kink) = true := by decide +kernel
set_option maxRecDepth 100000 in
theorem km_d183_4 : ((km_c183.drop 120).take 30).all (km_okd cX9_kink) = true := by decide +kernel
theorem km_d183 : km_okc km_q183 = true := km_dall (km_dstep km_d183_0 (km_dstep km_d183_1 (km_dstep km_d183_2 (km_dstep km_d183_3 (km_dlast (by decide +kernel) km_d183_4)))))
set_option maxRecDepth 100000 in
theorem km_d184_0 : ((km_c184.drop 0).take 30).all (km_okd cX9_loosen) = true := by decide +kernel
theorem km_d184 : km_okc km_q184 = true := km_dall (km_dlast (by decide +kernel) km_d184_0)
set_option maxRecDepth 100000 in
theorem km_d185_0 : ((km_c185.drop 0).take 30).all (km_okd cX9_mirror) = true := by decide +kernel
theorem km_d185 : km_okc km_q185 = true := km_dall (km_dlast (by decide +kernel) km_d185_0)
set_option maxRecDepth 100000 in
theorem km_d186_0 : ((km_c186.drop 0).take 30).all (km_okd cX9_round) = true := by decide +kernel
set_option maxRecDepth 100000 in
theorem km_d186_1 : ((km_c186.drop 30).take 30).all (km_okd cX9_round) = true := by decide +kernel
set_option maxRecDepth 100000 in
theorem km_d186_2 : ((km_c186.drop 60).take 30).all (km_okd cX9_round) = true := by decide +kernel
set_option maxRecDepth 100000 in
theorem km_d186_3 : ((km_c186.drop 90).take 30).all (km_okd cX9_round) = true := by decide +kernel
theorem km_d186 : km_okc km_q186 = true := km_dall (km_dstep km_d186_0 (km_dstep km_d186_1 (km_dstep km_d186_2 (km_dlast (by decide +kernel) km_d186_3))))
set_option maxRecDepth 100000 in
theorem km_d187_0 : ((km_c187.drop 0).take 30).all (km_okd cX9_switches) = true := by decide +kernel
theorem km_d187 : km_okc km_q187 = true := km_dall (km_dlast (by decide +kernel) km_d187_0)
set_option maxRecDepth 100000 in
theorem km_d188_0 : ((km_c188.drop 0).take 30).all (km_okd cX9_sum) = true := by decide +kernel
set_option maxRecDepth 100000 in
theorem km_d188_1 : ((km_c188.drop 30).take 30).all (km_okd cX9_sum) = true := by decide +kernel
set_option maxRecDepth 100000 in
theorem km_d188_2 : ((km_c188.drop 60).take 30).all (km_okd cX9_sum) = true := by decide +kernel
set_option maxRecDepth 100000 in
theorem km_d188_3 : ((km_c188.drop 90).take 30).all (km_okd cX9_sum) = true := by decide +kernel
set_option maxRecDepth 100000 in
theorem km_d188_4 : ((km_c188.drop 120).take 30).all (km_okd cX9_sum) = true := by decide +kernel
set_option maxRecDepth 100000 in
theorem km_d188_5 : ((km_c188.drop 150).take 30).all (km_okd cX9_sum) = true := by decide +kernel
theorem km_d188 : km_okc km_q188 = true := km_dall (km_dstep km_d188_0 (km_dstep km_d188_1 (km_dstep km_d188_2 (km_dstep km_d188_3 (km_dstep km_d188_4 (km_dlast (by decide +kernel) km_d188_5))))))
set_option maxRecDepth 100000 in
theorem km_d189_0 : ((km_c189.drop 0).take 30).all (km_okd cX9_ring) = true := by decide +kernel
set_option maxRecDepth 100000 in
theorem km_d189_1 : ((km_c189.drop 30).take 30).all (km_okd cX9_ring) = true := by decide +kernel
set_option maxRecDepth 100000 in
theorem km_d189_2 : ((km_c189.drop 60).take 30).all (km_okd cX9_ring) = true := by decide +kernel
theorem km_d189 : km_okc km_q189 = true := km_dall (km_dstep km_d189_0 (km_dstep km_d189_1 (km_dlast (by decide +kernel) km_d189_2)))
set_option maxRecDepth 100000 in
theorem km_d190_0 : ((km_c190.drop 0).take 30).all (km_okd cX9_passAt) = true := by decide +kernel
theorem km_d190 : km_okc km_q190 = true := km_dall (km_dlast (by decide +kernel) km_d190_0)
set_option maxRecDepth 100000 in
theorem km_d191_0 : ((km_c191.drop 0).take 30).all (km_okd cX9_crossing) = true := by decide +kernel
set_option maxRecDepth 100000 in
theorem km_d191_1 : ((km_c191.drop 30).take 30).all (km_okd cX9_crossing) = true := by decide +kernel
set_option maxRecDepth 100000 in
theorem km_d191_2 : ((km_c191.drop 60).take 30).all (km_okd cX9_crossing) = true := by decide +kernel
theorem km_d191 : km_okc km_q191 = true := km_dall (km_dstep km_d191_0 (km_dstep km_d191_1 (km_dlast (by decide +kernel) km_d191_2)))
set_option maxRecDepth 100000 in
theorem km_d192_0 : ((km_c192.drop 0).take 30).all (km_okd cX9_face) = true := by decide +kernel
set_option maxRecDepth 100000 in
theorem km_d192_1 : ((km_c192.drop 30).take 30).all (km_okd cX9_face) = true := by decide +kernel
set_option maxRecDepth 100000 in
theorem km_d192_2 : ((km_c192.drop 60).take 30).all (km_okd cX9_face) = true := by decide +kernel
theorem km_d192 : km_okc km_q192 = true := km_dall (km_dstep km_d192_0 (km_dstep km_d192_1 (km_dlast (by decide +kernel) km_d192_2)))
set_option maxRecDepth 100000 in
theorem km_d193_0 : ((km_c193.drop 0).take 30).all (km_okd cX9_looseMany) = true := by decide +kernel
theorem km_d193 : km_okc km_q193 = true := km_dall (km_dlast (by decide +kernel) km_d193_0)
set_option maxRecDepth 100000 in
theorem km_d194_0 : ((km_c194.drop 0).take 30).all (km_okd cX9_loopsOf) = true := by decide +kernel
set_option maxRecDepth 100000 in
theorem km_d194_1 : ((km_c194.drop 30).take 30).all (km_okd cX9_loopsOf) = true := by decide +kernel
set_option maxRecDepth 100000 in
theorem km_d194_2 : ((km_c194.drop 60).take 30).all (km_okd cX9_loopsOf) = true := by decide +kernel
theorem km_d194 : km_okc km_q194 = true := km_dall (km_dstep km_d194_0 (km_dstep km_d194_1 (km_dlast (by decide +kernel) km_d194_2)))
set_option maxRecDepth 100000 in
theorem km_d195_0 : ((km_c195.drop 0).take 30).all (km_okd cX9_loops) = true := by decide +kernel
theorem km_d195 : km_okc km_q195 = true := km_dall (km_dlast (by decide +kernel) km_d195_0)
set_option maxRecDepth 100000 in
theorem km_d196_0 : ((km_c196.drop 0).take 30).all (km_okd cX9_laysBracket) = true := by decide +kernel
set_option maxRecDepth 100000 in
theorem km_d196_1 : ((km_c196.drop 30).take 30).all (km_okd cX9_laysBracket) = true := by decide +kernel
set_option maxRecDepth 100000 in
theorem km_d196_2 : ((km_c196.drop 60).take 30).all (km_okd cX9_laysBracket) = true := by decide +kernel
theorem km_d196 : km_okc km_q196 = true := km_dall (km_dstep km_d196_0 (km_dstep km_d196_1 (km_dlast (by decide +kernel) km_d196_2)))
set_option maxRecDepth 100000 in
theorem km_d197_0 : ((km_c197.drop 0).take 30).all (km_okd cX9_timesLoop) = true := by decide +kernel
set_option maxRecDepth 100000 in
theorem km_d197_1 : ((km_c197.drop 30).take 30).all (km_okd cX9_timesLoop) = true := by decide +kernel
theorem km_d197 : km_okc km_q197 = true := km_dall (km_dstep km_d197_0 (km_dlast (by decide +kernel) km_d197_1))
set_option maxRecDepth 100000 in
theorem km_d198_0 : ((km_c198.drop 0).take 30).all (km_okd cX9_writhe) = true := by decide +kernel
theorem km_d198 : km_okc km_q198 = true := km_dall (km_dlast (by decide +kernel) km_d198_0)
set_option maxRecDepth 100000 in
theorem km_d199_0 : ((km_c199.drop 0).take 30).all (km_okd cX9_knottedAt) = true := by decide +kernel
set_option maxRecDepth 100000 in
theorem km_d199_1 : ((km_c199.drop 30).take 30).all (km_okd cX9_knottedAt) = true := by decide +kernel
theorem km_d199 : km_okc km_q199 = true := km_dall (km_dstep km_d199_0 (km_dlast (by decide +kernel) km_d199_1))
set_option maxRecDepth 100000 in
theorem km_d200_0 : ((km_c200.drop 0).take 30).all (km_okd cX9_coefficient) = true := by decide +kernel
theorem km_d200 : km_okc km_q200 = true := km_dall (km_dlast (by decide +kernel) km_d200_0)
set_option maxRecDepth 100000 in
theorem km_d201_0 : ((km_c201.drop 0).take 30).all (km_okd cX9_span) = true := by decide +kernel
set_option maxRecDepth 100000 in
theorem km_d201_1 : ((km_c201.drop 30).take 30).all (km_okd cX9_span) = true := by decide +kernel
theorem km_d201 : km_okc km_q201 = true := km_dall (km_dstep km_d201_0 (km_dlast (by decide +kernel) km_d201_1))
set_option maxRecDepth 100000 in
theorem km_d202_0 : ((km_c202.drop 0).take 30).all (km_okd cX9_winding) = true := by decide +kernel
set_option maxRecDepth 100000 in
theorem km_d202_1 : ((km_c202.drop 30).take 30).all (km_okd cX9_winding) = true := by decide +kernel
set_option maxRecDepth 100000 in
theorem km_d202_2 : ((km_c202.drop 60).take 30).all (km_okd cX9_winding) = true := by decide +kernel
theorem km_d202 : km_okc km_q202 = true := km_dall (km_dstep km_d202_0 (km_dstep km_d202_1 (km_dlast (by decide +kernel) km_d202_2)))
set_option maxRecDepth 100000 in
theorem km_d203_0 : ((km_c203.drop 0).take 30).all (km_okd cX9_laysArcs) = true := by decide +kernel
set_option maxRecDepth 100000 in
theorem km_d203_1 : ((km_c203.drop 30).take 30).all (km_okd cX9_laysArcs) = true := by decide +kernel
set_option maxRecDepth 100000 in
theorem km_d203_2 : ((km_c203.drop 60).take 30).all (km_okd cX9_laysArcs) = true := by decide +kernel
set_option maxRecDepth 100000 in
theorem km_d203_3 : ((km_c203.drop 90).take 30).all (km_okd cX9_laysArcs) = true := by decide +kernel
theorem km_d203 : km_okc km_q203 = true := km_dall (km_dstep km_d203_0 (km_dstep km_d203_1 (km_dstep km_d203_2 (km_dlast (by decide +kernel) km_d203_3))))
set_option maxRecDepth 100000 in
theorem km_d204_0 : ((km_c204.drop 0).take 30).all (km_okd cX9_laysRows) = true := by decide +kernel
set_option maxRecDepth 100000 in
theorem km_d204_1 : ((km_c204.drop 30).take 30).all (km_okd cX9_laysRows) = true := by decide +kernel
set_option maxRecDepth 100000 in
theorem km_d204_2 : ((km_c204.drop 60).take 30).all (km_okd cX9_laysRows) = true := by decide +kernel
theorem km_d204 : km_okc km_q204 = true := km_dall (km_dstep km_d204_0 (km_dstep km_d204_1 (km_dlast (by decide +kernel) km_d204_2)))
set_option maxRecDepth 100000 in
theorem km_d205_0 : ((km_c205.drop 0).take 30).all (km_okd cX9_colourings) = true := by decide +kernel
set_option maxRecDepth 100000 in
theorem km_d205_1 : ((km_c205.drop 30).take 30).all (km_okd cX9_colourings) = true := by decide +kernel
set_option maxRecDepth 100000 in
theorem km_d205_2 : ((km_c205.drop 60).take 30).all (km_okd cX9_colourings) = true := by decide +kernel
set_option maxRecDepth 100000 in
theorem km_d205_3 : ((km_c205.drop 90).take 30).all (km_okd cX9_colourings) = true := by decide +kernel
theorem km_d205 : km_okc km_q205 = true := km_dall (km_dstep km_d205_0 (km_dstep km_d205_1 (km_dstep km_d205_2 (km_dlast (by decide +kernel) km_d205_3))))
set_option maxRecDepth 100000 in
theorem km_d206_0 : ((km_c206.drop 0).take 30).all (km_okd cX9_rest) = true := by decide +kernel
theorem km_d206 : km_okc km_q206 = true := km_dall (km_dlast (by decide +kernel) km_d206_0)
set_option maxRecDepth 100000 in
theorem km_d207_0 : ((km_c207.drop 0).take 30).all (km_okd cX9_exchangesRows) = true := by decide +kernel
set_option maxRecDepth 100000 in
theorem km_d207_1 : ((km_c207.drop 30).take 30).all (km_okd cX9_exchangesRows) = true := by decide +kernel
theorem km_d207 : km_okc km_q207 = true := km_dall (km_dstep km_d207_0 (km_dlast (by decide +kernel) km_d207_1))
set_option maxRecDepth 100000 in
theorem km_d208_0 : ((km_c208.drop 0).take 30).all (km_okd cX9_clears) = true := by decide +kernel
set_option maxRecDepth 100000 in
theorem km_d208_1 : ((km_c208.drop 30).take 30).all (km_okd cX9_clears) = true := by decide +kernel
set_option maxRecDepth 100000 in
theorem km_d208_2 : ((km_c208.drop 60).take 30).all (km_okd cX9_clears) = true := by decide +kernel
theorem km_d208 : km_okc km_q208 = true := km_dall (km_dstep km_d208_0 (km_dstep km_d208_1 (km_dlast (by decide +kernel) km_d208_2)))
set_option maxRecDepth 100000 in
theorem km_d209_0 : ((km_c209.drop 0).take 30).all (km_okd cX9_determinant) = true := by decide +kernel
set_option maxRecDepth 100000 in
theorem km_d209_1 : ((km_c209.drop 30).take 30).all (km_okd cX9_determinant) = true := by decide +kernel
set_option maxRecDepth 100000 in
theorem km_d209_2 : ((km_c209.drop 60).take 30).all (km_okd cX9_determinant) = true := by decide +kernel
set_option maxRecDepth 100000 in
theorem km_d209_3 : ((km_c209.drop 90).take 30).all (km_okd cX9_determinant) = true := by decide +kernel
set_option maxRecDepth 100000 in
theorem km_d209_4 : ((km_c209.drop 120).take 30).all (km_okd cX9_determinant) = true := by decide +kernel
set_option maxRecDepth 100000 in
theorem km_d209_5 : ((km_c209.drop 150).take 30).all (km_okd cX9_determinant) = true := by decide +kernel
theorem km_d209 : km_okc km_q209 = true := km_dall (km_dstep km_d209_0 (km_dstep km_d209_1 (km_dstep km_d209_2 (km_dstep km_d209_3 (km_dstep km_d209_4 (km_dlast (by decide +kernel) km_d209_5))))))
set_option maxRecDepth 100000 in
theorem km_d210_0 : ((km_c210.drop 0).take 30).all (km_okd cX9_fewestSwitches) = true := by decide +kernel
set_option maxRecDepth 100000 in
theorem km_d210_1 : ((km_c210.drop 30).take 30).all (km_okd cX9_fewestSwitches) = true := by decide +kernel
set_option maxRecDepth 100000 in
theorem km_d210_2 : ((km_c210.drop 60).take 30).all (km_okd cX9_fewestSwitches) = true := by decide +kernel
theorem km_d210 : km_okc km_q210 = true := km_dall (km_dstep km_d210_0 (km_dstep km_d210_1 (km_dlast (by decide +kernel) km_d210_2)))
set_option maxRecDepth 100000 in
theorem km_d211_0 : ((km_c211.drop 0).take 30).all (km_okd cX9_freed) = true := by decide +kernel
theorem km_d211 : km_okc km_q211 = true := km_dall (km_dlast (by decide +kernel) km_d211_0)
set_option maxRecDepth 100000 in
theorem km_d212_0 : ((km_c212.drop 0).take 30).all (km_okd cX9_isLooser) = true := by decide +kernel
set_option maxRecDepth 100000 in
theorem km_d212_1 : ((km_c212.drop 30).take 30).all (km_okd cX9_isLooser) = true := by decide +kernel
theorem km_d212 : km_okc km_q212 = true := km_dall (km_dstep km_d212_0 (km_dlast (by decide +kernel) km_d212_1))
set_option maxRecDepth 100000 in
theorem km_d213_0 : ((km_c213.drop 0).take 30).all (km_okd cX9_looser) = true := by decide +kernel
set_option maxRecDepth 100000 in
theorem km_d213_1 : ((km_c213.drop 30).take 30).all (km_okd cX9_looser) = true := by decide +kernel
set_option maxRecDepth 100000 in
theorem km_d213_2 : ((km_c213.drop 60).take 30).all (km_okd cX9_looser) = true := by decide +kernel
set_option maxRecDepth 100000 in
theorem km_d213_3 : ((km_c213.drop 90).take 30).all (km_okd cX9_looser) = true := by decide +kernel
set_option maxRecDepth 100000 in
theorem km_d213_4 : ((km_c213.drop 120).take 30).all (km_okd cX9_looser) = true := by decide +kernel
theorem km_d213 : km_okc km_q213 = true := km_dall (km_dstep km_d213_0 (km_dstep km_d213_1 (km_dstep km_d213_2 (km_dstep km_d213_3 (km_dlast (by decide +kernel) km_d213_4)))))
set_option maxRecDepth 100000 in
theorem km_d214_0 : ((km_c214.drop 0).take 30).all (km_okd cX9_areRowsAlike) = true := by decide +kernel
set_option maxRecDepth 100000 in
theorem km_d214_1 : ((km_c214.drop 30).take 30).all (km_okd cX9_areRowsAlike) = true := by decide +kernel
set_option maxRecDepth 100000 in
theorem km_d214_2 : ((km_c214.drop 60).take 30).all (km_okd cX9_areRowsAlike) = true := by decide +kernel
set_option maxRecDepth 100000 in
theorem km_d214_3 : ((km_c214.drop 90).take 30).all (km_okd cX9_areRowsAlike) = true := by decide +kernel
theorem km_d214 : km_okc km_q214 = true := km_dall (km_dstep km_d214_0 (km_dstep km_d214_1 (km_dstep km_d214_2 (km_dlast (by decide +kernel) km_d214_3))))
set_option maxRecDepth 100000 in
theorem km_d215_0 : ((km_c215.drop 0).take 30).all (km_okd cX9_alike) = true := by decide +kernel
set_option maxRecDepth 100000 in
theorem km_d215_1 : ((km_c215.drop 30).take 30).all (km_okd cX9_alike) = true := by decide +kernel
set_option maxRecDepth 100000 in
theorem km_d215_2 : ((km_c215.drop 60).take 30).all (km_okd cX9_alike) = true := by decide +kernel
theorem km_d215 : km_okc km_q215 = true := km_dall (km_dstep km_d215_0 (km_dstep km_d215_1 (km_dlast (by decide +kernel) km_d215_2)))
set_option maxRecDepth 100000 in
theorem km_d216_0 : ((km_c216.drop 0).take 30).all (km_okd cX9_takeTurns) = true := by decide +kernel
set_option maxRecDepth 100000 in
theorem km_d216_1 : ((km_c216.drop 30).take 30).all (km_okd cX9_takeTurns) = true := by decide +kernel
theorem km_d216 : km_okc km_q216 = true := km_dall (km_dstep km_d216_0 (km_dlast (by decide +kernel) km_d216_1))
set_option maxRecDepth 100000 in
theorem km_d217_0 : ((km_c217.drop 0).take 30).all (km_okd cX9_count) = true := by decide +kernel
set_option maxRecDepth 100000 in
theorem km_d217_1 : ((km_c217.drop 30).take 30).all (km_okd cX9_count) = true := by decide +kernel
set_option maxRecDepth 100000 in
theorem km_d217_2 : ((km_c217.drop 60).take 30).all (km_okd cX9_count) = true := by decide +kernel
set_option maxRecDepth 100000 in
theorem km_d217_3 : ((km_c217.drop 90).take 30).all (km_okd cX9_count) = true := by decide +kernel
theorem km_d217 : km_okc km_q217 = true := km_dall (km_dstep km_d217_0 (km_dstep km_d217_1 (km_dstep km_d217_2 (km_dlast (by decide +kernel) km_d217_3))))
set_option maxRecDepth 100000 in
theorem km_d218_0 : ((km_c218.drop 0).take 30).all (km_okd cJ6_bitCount_0f7a4) = true := by decide +kernel
set_option maxRecDepth 100000 in
theorem km_d218_1 : ((km_c218.drop 30).take 30).all (km_okd cJ6_bitCount_0f7a4) = true := by decide +kernel
theorem km_d218 : km_okc km_q218 = true := km_dall (km_dstep km_d218_0 (km_dlast (by decide +kernel) km_d218_1))
set_option maxRecDepth 100000 in
theorem km_d219_0 : ((km_c219.drop 0).take 30).all (km_okd cJ9_floorMod_f86c9) = true := by decide +kernel
theorem km_d219 : km_okc km_q219 = true := km_dall (km_dlast (by decide +kernel) km_d219_0)
set_option maxRecDepth 100000 in
theorem km_d220_0 : ((km_c220.drop 0).take 30).all (km_okd cJ9_abs_067f4) = true := by decide +kernel
theorem km_d220 : km_okc km_q220 = true := km_dall (km_dlast (by decide +kernel) km_d220_0)
set_option maxRecDepth 100000 in
theorem km_d221_0 : ((km_c221.drop 0).take 30).all (km_okd cJ9_max_7cf53) = true := by decide +kernel
theorem km_d221 : km_okc km_q221 = true := km_dall (km_dlast (by decide +kernel) km_d221_0)
set_option maxRecDepth 100000 in
theorem km_d222_0 : ((km_c222.drop 0).take 30).all (km_okd cJ9_min_7cf53) = true := by decide +kernel
theorem km_d222 : km_okc km_q222 = true := km_dall (km_dlast (by decide +kernel) km_d222_0)
set_option maxRecDepth 100000 in
theorem km_d223_0 : ((km_c223.drop 0).take 30).all (km_okd cL_law) = true := by decide +kernel
set_option maxRecDepth 100000 in
theorem km_d223_1 : ((km_c223.drop 30).take 30).all (km_okd cL_law) = true := by decide +kernel
set_option maxRecDepth 100000 in
theorem km_d223_2 : ((km_c223.drop 60).take 30).all (km_okd cL_law) = true := by decide +kernel
set_option maxRecDepth 100000 in
theorem km_d223_3 : ((km_c223.drop 90).take 30).all (km_okd cL_law) = true := by decide +kernel
set_option maxRecDepth 100000 in
theorem km_d223_4 : ((km_c223.drop 120).take 30).all (km_okd cL_law) = true := by decide +kernel
set_option maxRecDepth 100000 in
theorem km_d223_5 : ((km_c223.drop 150).take 30).all (km_okd cL_law) = true := by decide +kernel
set_option maxRecDepth 100000 in
theorem km_d223_6 : ((km_c223.drop 180).take 30).all (km_okd cL_law) = true := by decide +kernel
set_option maxRecDepth 100000 in
theorem km_d223_7 : ((km_c223.drop 210).take 30).all (km_okd cL_law) = true := by decide +kernel
set_option maxRecDepth 100000 in
theorem km_d223_8 : ((km_c223.drop 240).take 30).all (km_okd cL_law) = true := by decide +kernel
set_option maxRecDepth 100000 in
theorem km_d223_9 : ((km_c223.drop 270).take 30).all (km_okd cL_law) = true := by decide +kernel
set_option maxRecDepth 100000 in
theorem km_d223_10 : ((km_c223.drop 300).take 30).all (km_okd cL_law) = true := by decide +kernel
set_option maxRecDepth 100000 in
theorem km_d223_11 : ((km_c223.drop 330).take 30).all (km_okd cL_law) = true := by decide +kernel
set_option maxRecDepth 100000 in
theorem km_d223_12 : ((km_c223.drop 360).take 30).all (km_okd cL_law) = true := by decide +kernel
set_option maxRecDepth 100000 in
theorem km_d223_13 : ((km_c223.drop 390).take 30).all (km_okd cL_law) = true := by decide +kernel
set_option maxRecDepth 100000 in
theorem km_d223_14 : ((km_c223.drop 420).take 30).all (km_okd cL_law) = true := by decide +kernel
set_option maxRecDepth 100000 in
theorem km_d223_15 : ((km_c223.drop 450).take 30).all (km_okd cL_law) = true := by decide +kernel
set_option maxRecDepth 100000 in
theorem km_d223_16 : ((km_c223.drop 480).take 30).all (km_okd cL_law) = true := by decide +kernel
set_option maxRecDepth 100000 in
theorem km_d223_17 : ((km_c223.drop 510).take 30).all (km_okd cL_law) = true := by decide +kernel
set_option maxRecDepth 100000 in
theorem km_d223_18 : ((km_c223.drop 540).take 30).all (km_okd cL_law) = true := by decide +kernel
theorem km_d223 : km_okc km_q223 = true := km_dall (km_dstep km_d223_0 (km_dstep km_d223_1 (km_dstep km_d223_2 (km_dstep km_d223_3 (km_dstep km_d223_4 (km_dstep km_d223_5 (km_dstep km_d223_6 (km_dstep km_d223_7 (km_dstep km_d223_8 (km_dstep km_d223_9 (km_dstep km_d223_10 (km_dstep km_d223_11 (km_dstep km_d223_12 (km_dstep km_d223_13 (km_dstep km_d223_14 (km_dstep km_d223_15 (km_dstep km_d223_16 (km_dstep km_d223_17 (km_dlast (by decide +kernel) km_d223_18)))))))))))))))))))
end
section

end
section
def km_W5 : List (Nat × Nat × Nat × Nat × Nat) := [(0, 15, 16, 0, 322), (3, 9, 5, 0, 359), (6, 9, 5, 0, 379), (6, 17, 2, 0, 380), (8, 7, 7, 0, 120), (8, 16, 4, 0, 151), (8, 23, 5, 0, 216), (8, 30, 2, 0, 258), (8, 37, 0, 0, 316), (8, 44, 1, 0, 337), (8, 54, 3, 0, 353), (8, 75, 6, 0, 373), (12, 7, 8, 0, 112), (12, 10, 9, 0, 1000)]
def km_okF2 (e : Nat × Nat × Nat × Nat × Nat) : Bool := decide ((km_X e.2.2.1 e.2.2.2.1).1 = km_R e.2.2.1)
set_option maxRecDepth 100000 in
theorem km_F2_ok : km_F.all km_okF2 = true := by decide +kernel
def km_Lp : List (Nat × Nat × Nat) := [(0, 0, 329), (0, 1, 331), (0, 2, 333), (1, 0, 346), (1, 1, 348), (1, 2, 350), (2, 0, 293), (2, 1, 295), (2, 2, 297), (2, 3, 299), (2, 4, 301), (2, 5, 303), (2, 6, 305), (2, 7, 307), (2, 8, 309), (2, 9, 311), (2, 10, 313), (3, 0, 366), (3, 1, 368), (3, 2, 370), (4, 0, 177), (4, 1, 179), (4, 2, 181), (4, 3, 183), (4, 4, 185), (4, 5, 187), (4, 6, 189), (4, 7, 191), (4, 8, 193), (4, 9, 195), (4, 10, 197), (4, 11, 199), (4, 12, 201), (4, 13, 203), (4, 14, 205), (4, 15, 207), (4, 16, 209), (4, 17, 211), (5, 0, 247), (5, 1, 249), (5, 2, 251), (5, 3, 253), (5, 4, 255), (6, 0, 386), (6, 1, 388), (7, 0, 137), (7, 1, 139), (7, 2, 141), (7, 3, 143), (7, 4, 145), (7, 5, 147), (8, 0, 408), (8, 1, 410), (8, 2, 412), (8, 3, 414), (8, 4, 416), (8, 5, 418), (8, 6, 420), (8, 7, 422), (8, 8, 424), (8, 9, 426), (8, 10, 428), (8, 11, 430), (8, 12, 432), (8, 13, 434), (8, 14, 436), (8, 15, 438), (8, 16, 440), (9, 0, 1064), (9, 1, 1066), (9, 2, 1068), (9, 3, 1070), (9, 4, 1072), (9, 5, 1074), (9, 6, 1076), (9, 7, 1078), (9, 8, 1080), (9, 9, 1082), (9, 10, 1084), (9, 11, 1086), (9, 12, 1088), (9, 13, 1090), (9, 14, 1092), (9, 15, 1094), (9, 16, 1096), (9, 17, 1098), (9, 18, 1100), (9, 19, 1102), (9, 20, 1104), (9, 21, 1106), (9, 22, 1108), (9, 23, 1110), (9, 24, 1112), (9, 25, 1114), (9, 26, 1116), (9, 27, 1118), (9, 28, 1120), (9, 29, 1122), (9, 30, 1124), (9, 31, 1126), (9, 32, 1128), (9, 33, 1130), (9, 34, 1132), (9, 35, 1134), (9, 36, 1136), (9, 37, 1138), (9, 38, 1140), (9, 39, 1142), (9, 40, 1144), (9, 41, 1146), (9, 42, 1148), (9, 43, 1150), (9, 44, 1152), (9, 45, 1154), (9, 46, 1156), (9, 47, 1158), (9, 48, 1160), (9, 49, 1162), (9, 50, 1164), (9, 51, 1166)]
def km_okL (e : Nat × Nat × Nat) : Bool := decide (lw_tbl[e.2.2]? = some (u_lay (km_R e.1) (km_X e.1) e.2.1)) && goodWord (u_lay (km_R e.1) (km_X e.1) e.2.1)
set_option maxRecDepth 100000 in
set_option maxHeartbeats 4000000 in
theorem km_L_ok : km_Lp.all km_okL = true := by decide +kernel
set_option maxRecDepth 100000 in
theorem km_L_all : (List.range 10).all (fun k => (List.range (km_N k)).all (fun j => km_Lp.any (fun e => Nat.beq e.1 k && Nat.beq e.2.1 j))) = true := by decide +kernel
end
section
def km_G : List Cond := lw_tbl.filter goodWord
theorem km_inG {w : Cond} {i : Nat} (h : lw_tbl[i]? = some w) (hg : goodWord w = true) : w ∈ km_G := List.mem_filter.mpr ⟨List.mem_of_getElem? h, hg⟩
def km_Nw : List Cond := [.methodLinkNest RX8 9 yX7_init RX8, .methodLinkNest RX8 18 yX4_init RX8, .methodLinkNest RX8 25 yX5_init RX8, .methodLinkNest RX8 32 yX2_init RX8, .methodLinkNest RX8 39 yX0_init RX8, .methodLinkNest RX8 46 yX1_init RX8, .methodLinkNest RX3 17 yX5_init RX8, .methodLinkNest RX6 23 yX5_init RX8, .methodLinkNest RX6 24 yX2_init RX8]
def km_Mp : List (Nat × Nat × Nat × Nat) := [(320, 100, 319, 9999), (687, 100, 685, 686), (692, 100, 691, 24), (696, 100, 695, 25), (895, 100, 894, 32), (974, 100, 972, 973), (978, 100, 977, 39), (907, 100, 906, 34), (911, 100, 910, 35), (891, 100, 889, 890), (903, 100, 902, 33), (915, 100, 914, 36), (341, 101, 340, 9999), (854, 101, 852, 853), (862, 101, 861, 30), (869, 101, 868, 31), (877, 101, 875, 876), (873, 101, 871, 872), (955, 101, 953, 954), (985, 101, 983, 984), (262, 99, 261, 9999), (609, 99, 607, 608), (613, 99, 612, 17), (617, 99, 616, 18), (633, 99, 632, 19), (637, 99, 636, 20), (641, 99, 640, 21), (645, 99, 643, 644), (649, 99, 647, 648), (825, 99, 823, 824), (990, 99, 988, 989), (761, 99, 759, 760), (663, 99, 661, 662), (667, 99, 666, 22), (659, 99, 657, 658), (838, 99, 836, 837), (357, 102, 356, 9999), (671, 102, 669, 670), (712, 102, 710, 711), (811, 102, 809, 810), (155, 97, 154, 9999), (462, 97, 460, 461), (555, 97, 554, 5), (466, 97, 465, 0), (558, 97, 557, 9999), (562, 97, 561, 6), (566, 97, 565, 7), (570, 97, 569, 8), (574, 97, 573, 9), (578, 97, 577, 10), (597, 97, 596, 14), (601, 97, 600, 15), (605, 97, 604, 16), (585, 97, 584, 11), (589, 97, 588, 12), (593, 97, 592, 13), (220, 98, 219, 9999), (675, 98, 673, 674), (951, 98, 949, 950), (621, 98, 619, 620), (771, 98, 769, 770), (625, 98, 623, 624), (629, 98, 627, 628), (858, 98, 856, 857), (842, 98, 840, 841), (994, 98, 992, 993), (775, 98, 773, 774), (783, 98, 781, 782), (734, 98, 732, 733), (738, 98, 737, 27), (747, 98, 745, 746), (721, 98, 719, 720), (725, 98, 724, 9999), (756, 98, 754, 755), (799, 98, 797, 798), (803, 98, 801, 802), (377, 103, 376, 9999), (936, 103, 934, 935), (940, 103, 939, 9999), (124, 96, 123, 9999), (450, 96, 448, 449), (470, 96, 468, 469), (474, 96, 472, 473), (488, 96, 487, 2), (493, 96, 492, 3), (551, 96, 550, 4), (478, 96, 477, 1), (481, 96, 480, 9999), (484, 96, 483, 9999), (547, 96, 546, 9999), (116, 95, 115, 9999), (446, 95, 444, 445), (454, 95, 452, 453), (458, 95, 456, 457), (700, 95, 698, 699), (704, 95, 702, 703), (730, 95, 728, 729), (742, 95, 740, 741), (752, 95, 750, 751), (767, 95, 765, 766), (779, 95, 777, 778), (787, 95, 785, 786), (791, 95, 789, 790), (807, 95, 805, 806), (815, 95, 813, 814), (820, 95, 818, 819), (829, 95, 827, 828), (834, 95, 832, 833), (846, 95, 844, 845), (882, 95, 880, 881), (886, 95, 884, 885), (919, 95, 917, 918), (932, 95, 930, 931), (947, 95, 945, 946), (960, 95, 958, 959), (964, 95, 962, 963), (968, 95, 966, 967), (682, 95, 681, 23), (795, 95, 794, 28), (999, 95, 998, 40), (708, 95, 707, 26), (850, 95, 849, 29), (923, 95, 922, 37), (928, 95, 927, 38), (1004, 104, 1003, 9999), (1172, 104, 1170, 1171), (1176, 104, 1175, 41), (1180, 104, 1178, 1179), (1192, 104, 1191, 43), (1202, 104, 1201, 9999), (1199, 104, 1198, 9999), (1011, 104, 1010, 9999), (1008, 104, 1007, 9999), (1196, 104, 1195, 44), (1188, 104, 1187, 42), (1206, 104, 1205, 45), (1210, 104, 1209, 46), (1222, 104, 1221, 49), (1253, 104, 1252, 56), (1218, 104, 1217, 48), (1226, 104, 1225, 50), (1184, 104, 1182, 1183), (1306, 104, 1304, 1305), (1214, 104, 1213, 47), (1230, 104, 1229, 51), (1238, 104, 1237, 53), (1234, 104, 1233, 52), (1242, 104, 1241, 54), (1267, 104, 1266, 58), (1263, 104, 1262, 9999), (1271, 104, 1270, 59), (1246, 104, 1245, 55), (1260, 104, 1259, 57), (1249, 104, 1248, 9999), (1256, 104, 1255, 9999), (1443, 104, 1442, 9999), (1302, 104, 1301, 9999), (1283, 104, 1282, 62), (1287, 104, 1286, 63), (1291, 104, 1290, 64), (1334, 104, 1333, 69), (1279, 104, 1278, 61), (1295, 104, 1294, 65), (1299, 104, 1298, 66), (1275, 104, 1274, 60), (1338, 104, 1337, 70), (1330, 104, 1329, 68), (1519, 104, 1518, 92), (1381, 104, 1380, 77), (1349, 104, 1348, 9999), (1346, 104, 1345, 72), (1377, 104, 1376, 76), (1365, 104, 1364, 75), (1357, 104, 1356, 73), (1361, 104, 1360, 74), (1388, 104, 1387, 9999), (1342, 104, 1341, 71), (1310, 104, 1308, 1309), (1314, 104, 1312, 1313), (1322, 104, 1321, 67), (1318, 104, 1316, 1317), (1326, 104, 1324, 1325), (1353, 104, 1351, 1352), (1369, 104, 1367, 1368), (1373, 104, 1371, 1372), (1385, 104, 1383, 1384), (1392, 104, 1390, 1391), (1396, 104, 1394, 1395), (1400, 104, 1398, 1399), (1404, 104, 1402, 1403), (1417, 104, 1416, 79), (1408, 104, 1406, 1407), (1421, 104, 1419, 1420), (1432, 104, 1431, 9999), (1429, 104, 1428, 80), (1425, 104, 1423, 1424), (1440, 104, 1439, 81), (1447, 104, 1446, 82), (1454, 104, 1453, 9999), (1451, 104, 1450, 83), (1436, 104, 1434, 1435), (1515, 104, 1514, 91), (1458, 104, 1456, 1457), (1413, 104, 1412, 78), (1467, 104, 1466, 84), (1462, 104, 1460, 1461), (1471, 104, 1470, 9999), (1475, 104, 1474, 85), (1479, 104, 1478, 86), (1511, 104, 1510, 90), (1487, 104, 1486, 87), (1483, 104, 1481, 1482), (1495, 104, 1494, 88), (1491, 104, 1489, 1490), (1503, 104, 1502, 89), (1499, 104, 1497, 1498), (1523, 104, 1522, 93), (1507, 104, 1505, 1506), (652, 110, 651, 9999), (899, 109, 898, 9999), (981, 109, 980, 9999), (581, 109, 580, 9999), (716, 109, 715, 9999)]
def km_gw (i : Nat) (w : Cond) : Bool := decide (lw_tbl[i]? = some w) && goodWord w
theorem km_gw_s {i : Nat} {w : Cond} (h : km_gw i w = true) : w ∈ km_G := by
  unfold km_gw at h
  rw [Bool.and_eq_true] at h
  exact km_inG (of_decide_eq_true h.1) h.2
def km_okM (x : km_Q × (Nat × Nat × Nat × Nat)) : Bool :=
  km_gw x.2.2.1 (.initialized x.1.1.cls) && (km_gw x.2.2.2.1 (cond x.1.2.2.2.2.2.2.1 (.static x.1.1) (.instanceMethod x.1.1)) &&
  ((Nat.beq x.2.2.2.2 9999 || km_gw x.2.2.2.2 (.selects x.1.1.cls x.1.1 x.1.1)) && (plainFor x.1.1 && (decide (x.1.1.cls ≠ "java/lang/invoke/MethodHandle" ∧ x.1.1.cls ≠ "java/lang/invoke/VarHandle") &&
  (decide ((parseMethodDescriptor x.1.1.desc).map (fun d => d.parameters.length) = some (x.1.2.2.2.2.2.1 - cond x.1.2.2.2.2.2.2.1 0 1)) && (decide (km_R x.1.2.2.2.2.1 = x.1.1.cls) && (Nat.ble x.1.2.2.1 40 && Nat.ble (cond x.1.2.2.2.2.2.2.1 0 1) x.1.2.2.2.2.2.1)))))))
set_option maxRecDepth 100000 in
theorem km_M0 : ((((km_T.take 223).zip km_Mp).drop 0).take 16).all km_okM = true := by decide +kernel
set_option maxRecDepth 100000 in
theorem km_M16 : ((((km_T.take 223).zip km_Mp).drop 16).take 16).all km_okM = true := by decide +kernel
set_option maxRecDepth 100000 in
theorem km_M32 : ((((km_T.take 223).zip km_Mp).drop 32).take 16).all km_okM = true := by decide +kernel
set_option maxRecDepth 100000 in
theorem km_M48 : ((((km_T.take 223).zip km_Mp).drop 48).take 16).all km_okM = true := by decide +kernel
set_option maxRecDepth 100000 in
theorem km_M64 : ((((km_T.take 223).zip km_Mp).drop 64).take 16).all km_okM = true := by decide +kernel
set_option maxRecDepth 100000 in
theorem km_M80 : ((((km_T.take 223).zip km_Mp).drop 80).take 16).all km_okM = true := by decide +kernel
set_option maxRecDepth 100000 in
theorem km_M96 : ((((km_T.take 223).zip km_Mp).drop 96).take 16).all km_okM = true := by decide +kernel
set_option maxRecDepth 100000 in
theorem km_M112 : ((((km_T.take 223).zip km_Mp).drop 112).take 16).all km_okM = true := by decide +kernel
set_option maxRecDepth 100000 in
theorem km_M128 : ((((km_T.take 223).zip km_Mp).drop 128).take 16).all km_okM = true := by decide +kernel
set_option maxRecDepth 100000 in
theorem km_M144 : ((((km_T.take 223).zip km_Mp).drop 144).take 16).all km_okM = true := by decide +kernel
set_option maxRecDepth 100000 in
theorem km_M160 : ((((km_T.take 223).zip km_Mp).drop 160).take 16).all km_okM = true := by decide +kernel
set_option maxRecDepth 100000 in
theorem km_M176 : ((((km_T.take 223).zip km_Mp).drop 176).take 16).all km_okM = true := by decide +kernel
set_option maxRecDepth 100000 in
theorem km_M192 : ((((km_T.take 223).zip km_Mp).drop 192).take 16).all km_okM = true := by decide +kernel
set_option maxRecDepth 100000 in
theorem km_M208 : ((((km_T.take 223).zip km_Mp).drop 208).take 16).all km_okM = true := by decide +kernel
theorem km_dlast2 {α : Type} {l : List α} {p : α → Bool} {a n : Nat} (h : Nat.ble l.length (a + n) = true) (h1 : ((l.drop a).take n).all p = true) : (l.drop a).all p = true := by
  have h2 : (l.drop a).take n = l.drop a := List.take_of_length_le (by rw [List.length_drop]; have := Nat.le_of_ble_eq_true h; omega)
  rw [h2] at h1
  exact h1
theorem km_dstep2 {α : Type} {l : List α} {p : α → Bool} {a n : Nat} (h1 : ((l.drop a).take n).all p = true) (h2 : (l.drop (a + n)).all p = true) : (l.drop a).all p = true := by
  rw [← List.take_append_drop n (l.drop a), List.all_append, h1, List.drop_drop, h2]
  rfl
set_option maxRecDepth 100000 in
theorem km_M_ok : ((km_T.take 223).zip km_Mp).all km_okM = true := km_dstep2 km_M0 (km_dstep2 km_M16 (km_dstep2 km_M32 (km_dstep2 km_M48 (km_dstep2 km_M64 (km_dstep2 km_M80 (km_dstep2 km_M96 (km_dstep2 km_M112 (km_dstep2 km_M128 (km_dstep2 km_M144 (km_dstep2 km_M160 (km_dstep2 km_M176 (km_dstep2 km_M192 (km_dlast2 (by decide +kernel) km_M208)))))))))))))
def km_cw (q : km_Q) : Prop := Cond.code q.1 q.2.1 q.2.2.1 q.2.2.2.1 ∈ lw_tbl
theorem km_t0 {w : Cond} (h : w ∈ tables_1) : w ∈ lw_tbl := List.mem_append_right _ h
theorem km_t1 {w : Cond} (h : w ∈ tables_1_1) : w ∈ lw_tbl := km_t0 (List.mem_append_left _ h)
theorem km_t2 {w : Cond} (h : w ∈ tables_1_2) : w ∈ lw_tbl := km_t0 (List.mem_append_right _ (List.mem_append_left _ h))
theorem km_t3 {w : Cond} (h : w ∈ tables_1_3) : w ∈ lw_tbl := km_t0 (List.mem_append_right _ (List.mem_append_right _ (List.mem_append_left _ h)))
theorem km_t4 {w : Cond} (h : w ∈ tables_1_4) : w ∈ lw_tbl := km_t0 (List.mem_append_right _ (List.mem_append_right _ (List.mem_append_right _ (List.mem_append_left _ h))))
theorem km_t5 {w : Cond} (h : w ∈ tables_1_5) : w ∈ lw_tbl := km_t0 (List.mem_append_right _ (List.mem_append_right _ (List.mem_append_right _ (List.mem_append_right _ (List.mem_append_left _ h)))))
theorem km_t6 {w : Cond} (h : w ∈ tables_1_6) : w ∈ lw_tbl := km_t0 (List.mem_append_right _ (List.mem_append_right _ (List.mem_append_right _ (List.mem_append_right _ (List.mem_append_right _ (h))))))
set_option maxRecDepth 100000 in
theorem km_cw0 : km_cw km_q0 := km_t1 (List.mem_of_getElem? (i := 226) rfl)
set_option maxRecDepth 100000 in
theorem km_cw1 : km_cw km_q1 := km_t3 (List.mem_of_getElem? (i := 113) rfl)
set_option maxRecDepth 100000 in
theorem km_cw2 : km_cw km_q2 := km_t3 (List.mem_of_getElem? (i := 118) rfl)
set_option maxRecDepth 100000 in
theorem km_cw3 : km_cw km_q3 := km_t3 (List.mem_of_getElem? (i := 122) rfl)
set_option maxRecDepth 100000 in
theorem km_cw4 : km_cw km_q4 := km_t4 (List.mem_of_getElem? (i := 81) rfl)
set_option maxRecDepth 100000 in
theorem km_cw5 : km_cw km_q5 := km_t4 (List.mem_of_getElem? (i := 160) rfl)
set_option maxRecDepth 100000 in
theorem km_cw6 : km_cw km_q6 := km_t4 (List.mem_of_getElem? (i := 164) rfl)
set_option maxRecDepth 100000 in
theorem km_cw7 : km_cw km_q7 := km_t4 (List.mem_of_getElem? (i := 93) rfl)
set_option maxRecDepth 100000 in
theorem km_cw8 : km_cw km_q8 := km_t4 (List.mem_of_getElem? (i := 97) rfl)
set_option maxRecDepth 100000 in
theorem km_cw9 : km_cw km_q9 := km_t4 (List.mem_of_getElem? (i := 77) rfl)
set_option maxRecDepth 100000 in
theorem km_cw10 : km_cw km_q10 := km_t4 (List.mem_of_getElem? (i := 89) rfl)
set_option maxRecDepth 100000 in
theorem km_cw11 : km_cw km_q11 := km_t4 (List.mem_of_getElem? (i := 101) rfl)
set_option maxRecDepth 100000 in
theorem km_cw12 : km_cw km_q12 := km_t2 (List.mem_of_getElem? (i := 7) rfl)
set_option maxRecDepth 100000 in
theorem km_cw13 : km_cw km_q13 := km_t4 (List.mem_of_getElem? (i := 40) rfl)
set_option maxRecDepth 100000 in
theorem km_cw14 : km_cw km_q14 := km_t4 (List.mem_of_getElem? (i := 48) rfl)
set_option maxRecDepth 100000 in
theorem km_cw15 : km_cw km_q15 := km_t4 (List.mem_of_getElem? (i := 55) rfl)
set_option maxRecDepth 100000 in
theorem km_cw16 : km_cw km_q16 := km_t4 (List.mem_of_getElem? (i := 63) rfl)
set_option maxRecDepth 100000 in
theorem km_cw17 : km_cw km_q17 := km_t4 (List.mem_of_getElem? (i := 59) rfl)
set_option maxRecDepth 100000 in
theorem km_cw18 : km_cw km_q18 := km_t4 (List.mem_of_getElem? (i := 141) rfl)
set_option maxRecDepth 100000 in
theorem km_cw19 : km_cw km_q19 := km_t4 (List.mem_of_getElem? (i := 171) rfl)
set_option maxRecDepth 100000 in
theorem km_cw20 : km_cw km_q20 := km_t1 (List.mem_of_getElem? (i := 168) rfl)
set_option maxRecDepth 100000 in
theorem km_cw21 : km_cw km_q21 := km_t3 (List.mem_of_getElem? (i := 35) rfl)
set_option maxRecDepth 100000 in
theorem km_cw22 : km_cw km_q22 := km_t3 (List.mem_of_getElem? (i := 39) rfl)
set_option maxRecDepth 100000 in
theorem km_cw23 : km_cw km_q23 := km_t3 (List.mem_of_getElem? (i := 43) rfl)
set_option maxRecDepth 100000 in
theorem km_cw24 : km_cw km_q24 := km_t3 (List.mem_of_getElem? (i := 59) rfl)
set_option maxRecDepth 100000 in
theorem km_cw25 : km_cw km_q25 := km_t3 (List.mem_of_getElem? (i := 63) rfl)
set_option maxRecDepth 100000 in
theorem km_cw26 : km_cw km_q26 := km_t3 (List.mem_of_getElem? (i := 67) rfl)
set_option maxRecDepth 100000 in
theorem km_cw27 : km_cw km_q27 := km_t3 (List.mem_of_getElem? (i := 71) rfl)
set_option maxRecDepth 100000 in
theorem km_cw28 : km_cw km_q28 := km_t3 (List.mem_of_getElem? (i := 75) rfl)
set_option maxRecDepth 100000 in
theorem km_cw29 : km_cw km_q29 := km_t4 (List.mem_of_getElem? (i := 11) rfl)
set_option maxRecDepth 100000 in
theorem km_cw30 : km_cw km_q30 := km_t4 (List.mem_of_getElem? (i := 176) rfl)
set_option maxRecDepth 100000 in
theorem km_cw31 : km_cw km_q31 := km_t3 (List.mem_of_getElem? (i := 187) rfl)
set_option maxRecDepth 100000 in
theorem km_cw32 : km_cw km_q32 := km_t3 (List.mem_of_getElem? (i := 89) rfl)
set_option maxRecDepth 100000 in
theorem km_cw33 : km_cw km_q33 := km_t3 (List.mem_of_getElem? (i := 93) rfl)
set_option maxRecDepth 100000 in
theorem km_cw34 : km_cw km_q34 := km_t3 (List.mem_of_getElem? (i := 85) rfl)
set_option maxRecDepth 100000 in
theorem km_cw35 : km_cw km_q35 := km_t4 (List.mem_of_getElem? (i := 24) rfl)
set_option maxRecDepth 100000 in
theorem km_cw36 : km_cw km_q36 := km_t2 (List.mem_of_getElem? (i := 23) rfl)
set_option maxRecDepth 100000 in
theorem km_cw37 : km_cw km_q37 := km_t3 (List.mem_of_getElem? (i := 97) rfl)
set_option maxRecDepth 100000 in
theorem km_cw38 : km_cw km_q38 := km_t3 (List.mem_of_getElem? (i := 138) rfl)
set_option maxRecDepth 100000 in
theorem km_cw39 : km_cw km_q39 := km_t3 (List.mem_of_getElem? (i := 237) rfl)
set_option maxRecDepth 100000 in
theorem km_cw40 : km_cw km_q40 := km_t1 (List.mem_of_getElem? (i := 61) rfl)
set_option maxRecDepth 100000 in
theorem km_cw41 : km_cw km_q41 := km_t2 (List.mem_of_getElem? (i := 128) rfl)
set_option maxRecDepth 100000 in
theorem km_cw42 : km_cw km_q42 := km_t2 (List.mem_of_getElem? (i := 221) rfl)
set_option maxRecDepth 100000 in
theorem km_cw43 : km_cw km_q43 := km_t2 (List.mem_of_getElem? (i := 132) rfl)
set_option maxRecDepth 100000 in
theorem km_cw44 : km_cw km_q44 := km_t2 (List.mem_of_getElem? (i := 224) rfl)
set_option maxRecDepth 100000 in
theorem km_cw45 : km_cw km_q45 := km_t2 (List.mem_of_getElem? (i := 228) rfl)
set_option maxRecDepth 100000 in
theorem km_cw46 : km_cw km_q46 := km_t2 (List.mem_of_getElem? (i := 232) rfl)
set_option maxRecDepth 100000 in
theorem km_cw47 : km_cw km_q47 := km_t2 (List.mem_of_getElem? (i := 236) rfl)
set_option maxRecDepth 100000 in
theorem km_cw48 : km_cw km_q48 := km_t3 (List.mem_of_getElem? (i := 0) rfl)
set_option maxRecDepth 100000 in
theorem km_cw49 : km_cw km_q49 := km_t3 (List.mem_of_getElem? (i := 4) rfl)
set_option maxRecDepth 100000 in
theorem km_cw50 : km_cw km_q50 := km_t3 (List.mem_of_getElem? (i := 23) rfl)
set_option maxRecDepth 100000 in
theorem km_cw51 : km_cw km_q51 := km_t3 (List.mem_of_getElem? (i := 27) rfl)
set_option maxRecDepth 100000 in
theorem km_cw52 : km_cw km_q52 := km_t3 (List.mem_of_getElem? (i := 31) rfl)
set_option maxRecDepth 100000 in
theorem km_cw53 : km_cw km_q53 := km_t3 (List.mem_of_getElem? (i := 11) rfl)
set_option maxRecDepth 100000 in
theorem km_cw54 : km_cw km_q54 := km_t3 (List.mem_of_getElem? (i := 15) rfl)
set_option maxRecDepth 100000 in
theorem km_cw55 : km_cw km_q55 := km_t3 (List.mem_of_getElem? (i := 19) rfl)
set_option maxRecDepth 100000 in
theorem km_cw56 : km_cw km_q56 := km_t1 (List.mem_of_getElem? (i := 126) rfl)
set_option maxRecDepth 100000 in
theorem km_cw57 : km_cw km_q57 := km_t3 (List.mem_of_getElem? (i := 101) rfl)
set_option maxRecDepth 100000 in
theorem km_cw58 : km_cw km_q58 := km_t4 (List.mem_of_getElem? (i := 137) rfl)
set_option maxRecDepth 100000 in
theorem km_cw59 : km_cw km_q59 := km_t3 (List.mem_of_getElem? (i := 47) rfl)
set_option maxRecDepth 100000 in
theorem km_cw60 : km_cw km_q60 := km_t3 (List.mem_of_getElem? (i := 197) rfl)
set_option maxRecDepth 100000 in
theorem km_cw61 : km_cw km_q61 := km_t3 (List.mem_of_getElem? (i := 51) rfl)
set_option maxRecDepth 100000 in
theorem km_cw62 : km_cw km_q62 := km_t3 (List.mem_of_getElem? (i := 55) rfl)
set_option maxRecDepth 100000 in
theorem km_cw63 : km_cw km_q63 := km_t4 (List.mem_of_getElem? (i := 44) rfl)
set_option maxRecDepth 100000 in
theorem km_cw64 : km_cw km_q64 := km_t4 (List.mem_of_getElem? (i := 28) rfl)
set_option maxRecDepth 100000 in
theorem km_cw65 : km_cw km_q65 := km_t4 (List.mem_of_getElem? (i := 180) rfl)
set_option maxRecDepth 100000 in
theorem km_cw66 : km_cw km_q66 := km_t3 (List.mem_of_getElem? (i := 201) rfl)
set_option maxRecDepth 100000 in
theorem km_cw67 : km_cw km_q67 := km_t3 (List.mem_of_getElem? (i := 209) rfl)
set_option maxRecDepth 100000 in
theorem km_cw68 : km_cw km_q68 := km_t3 (List.mem_of_getElem? (i := 160) rfl)
set_option maxRecDepth 100000 in
theorem km_cw69 : km_cw km_q69 := km_t3 (List.mem_of_getElem? (i := 164) rfl)
set_option maxRecDepth 100000 in
theorem km_cw70 : km_cw km_q70 := km_t3 (List.mem_of_getElem? (i := 173) rfl)
set_option maxRecDepth 100000 in
theorem km_cw71 : km_cw km_q71 := km_t3 (List.mem_of_getElem? (i := 147) rfl)
set_option maxRecDepth 100000 in
theorem km_cw72 : km_cw km_q72 := km_t3 (List.mem_of_getElem? (i := 151) rfl)
set_option maxRecDepth 100000 in
theorem km_cw73 : km_cw km_q73 := km_t3 (List.mem_of_getElem? (i := 182) rfl)
set_option maxRecDepth 100000 in
theorem km_cw74 : km_cw km_q74 := km_t3 (List.mem_of_getElem? (i := 225) rfl)
set_option maxRecDepth 100000 in
theorem km_cw75 : km_cw km_q75 := km_t3 (List.mem_of_getElem? (i := 229) rfl)
set_option maxRecDepth 100000 in
theorem km_cw76 : km_cw km_q76 := km_t2 (List.mem_of_getElem? (i := 43) rfl)
set_option maxRecDepth 100000 in
theorem km_cw77 : km_cw km_q77 := km_t4 (List.mem_of_getElem? (i := 122) rfl)
set_option maxRecDepth 100000 in
theorem km_cw78 : km_cw km_q78 := km_t4 (List.mem_of_getElem? (i := 126) rfl)
set_option maxRecDepth 100000 in
theorem km_cw79 : km_cw km_q79 := km_t1 (List.mem_of_getElem? (i := 30) rfl)
set_option maxRecDepth 100000 in
theorem km_cw80 : km_cw km_q80 := km_t2 (List.mem_of_getElem? (i := 116) rfl)
set_option maxRecDepth 100000 in
theorem km_cw81 : km_cw km_q81 := km_t2 (List.mem_of_getElem? (i := 136) rfl)
set_option maxRecDepth 100000 in
theorem km_cw82 : km_cw km_q82 := km_t2 (List.mem_of_getElem? (i := 140) rfl)
set_option maxRecDepth 100000 in
theorem km_cw83 : km_cw km_q83 := km_t2 (List.mem_of_getElem? (i := 154) rfl)
set_option maxRecDepth 100000 in
theorem km_cw84 : km_cw km_q84 := km_t2 (List.mem_of_getElem? (i := 159) rfl)
set_option maxRecDepth 100000 in
theorem km_cw85 : km_cw km_q85 := km_t2 (List.mem_of_getElem? (i := 217) rfl)
set_option maxRecDepth 100000 in
theorem km_cw86 : km_cw km_q86 := km_t2 (List.mem_of_getElem? (i := 144) rfl)
set_option maxRecDepth 100000 in
theorem km_cw87 : km_cw km_q87 := km_t2 (List.mem_of_getElem? (i := 147) rfl)
set_option maxRecDepth 100000 in
theorem km_cw88 : km_cw km_q88 := km_t2 (List.mem_of_getElem? (i := 150) rfl)
set_option maxRecDepth 100000 in
theorem km_cw89 : km_cw km_q89 := km_t2 (List.mem_of_getElem? (i := 213) rfl)
set_option maxRecDepth 100000 in
theorem km_cw90 : km_cw km_q90 := km_t1 (List.mem_of_getElem? (i := 22) rfl)
set_option maxRecDepth 100000 in
theorem km_cw91 : km_cw km_q91 := km_t2 (List.mem_of_getElem? (i := 112) rfl)
set_option maxRecDepth 100000 in
theorem km_cw92 : km_cw km_q92 := km_t2 (List.mem_of_getElem? (i := 120) rfl)
set_option maxRecDepth 100000 in
theorem km_cw93 : km_cw km_q93 := km_t2 (List.mem_of_getElem? (i := 124) rfl)
set_option maxRecDepth 100000 in
theorem km_cw94 : km_cw km_q94 := km_t3 (List.mem_of_getElem? (i := 126) rfl)
set_option maxRecDepth 100000 in
theorem km_cw95 : km_cw km_q95 := km_t3 (List.mem_of_getElem? (i := 130) rfl)
set_option maxRecDepth 100000 in
theorem km_cw96 : km_cw km_q96 := km_t3 (List.mem_of_getElem? (i := 156) rfl)
set_option maxRecDepth 100000 in
theorem km_cw97 : km_cw km_q97 := km_t3 (List.mem_of_getElem? (i := 168) rfl)
set_option maxRecDepth 100000 in
theorem km_cw98 : km_cw km_q98 := km_t3 (List.mem_of_getElem? (i := 178) rfl)
set_option maxRecDepth 100000 in
theorem km_cw99 : km_cw km_q99 := km_t3 (List.mem_of_getElem? (i := 193) rfl)
set_option maxRecDepth 100000 in
theorem km_cw100 : km_cw km_q100 := km_t3 (List.mem_of_getElem? (i := 205) rfl)
set_option maxRecDepth 100000 in
theorem km_cw101 : km_cw km_q101 := km_t3 (List.mem_of_getElem? (i := 213) rfl)
set_option maxRecDepth 100000 in
theorem km_cw102 : km_cw km_q102 := km_t3 (List.mem_of_getElem? (i := 217) rfl)
set_option maxRecDepth 100000 in
theorem km_cw103 : km_cw km_q103 := km_t3 (List.mem_of_getElem? (i := 233) rfl)
set_option maxRecDepth 100000 in
theorem km_cw104 : km_cw km_q104 := km_t4 (List.mem_of_getElem? (i := 1) rfl)
set_option maxRecDepth 100000 in
theorem km_cw105 : km_cw km_q105 := km_t4 (List.mem_of_getElem? (i := 6) rfl)
set_option maxRecDepth 100000 in
theorem km_cw106 : km_cw km_q106 := km_t4 (List.mem_of_getElem? (i := 15) rfl)
set_option maxRecDepth 100000 in
theorem km_cw107 : km_cw km_q107 := km_t4 (List.mem_of_getElem? (i := 20) rfl)
set_option maxRecDepth 100000 in
theorem km_cw108 : km_cw km_q108 := km_t4 (List.mem_of_getElem? (i := 32) rfl)
set_option maxRecDepth 100000 in
theorem km_cw109 : km_cw km_q109 := km_t4 (List.mem_of_getElem? (i := 68) rfl)
set_option maxRecDepth 100000 in
theorem km_cw110 : km_cw km_q110 := km_t4 (List.mem_of_getElem? (i := 72) rfl)
set_option maxRecDepth 100000 in
theorem km_cw111 : km_cw km_q111 := km_t4 (List.mem_of_getElem? (i := 105) rfl)
set_option maxRecDepth 100000 in
theorem km_cw112 : km_cw km_q112 := km_t4 (List.mem_of_getElem? (i := 118) rfl)
set_option maxRecDepth 100000 in
theorem km_cw113 : km_cw km_q113 := km_t4 (List.mem_of_getElem? (i := 133) rfl)
set_option maxRecDepth 100000 in
theorem km_cw114 : km_cw km_q114 := km_t4 (List.mem_of_getElem? (i := 146) rfl)
set_option maxRecDepth 100000 in
theorem km_cw115 : km_cw km_q115 := km_t4 (List.mem_of_getElem? (i := 150) rfl)
set_option maxRecDepth 100000 in
theorem km_cw116 : km_cw km_q116 := km_t4 (List.mem_of_getElem? (i := 154) rfl)
set_option maxRecDepth 100000 in
theorem km_cw117 : km_cw km_q117 := km_t3 (List.mem_of_getElem? (i := 108) rfl)
set_option maxRecDepth 100000 in
theorem km_cw118 : km_cw km_q118 := km_t3 (List.mem_of_getElem? (i := 221) rfl)
set_option maxRecDepth 100000 in
theorem km_cw119 : km_cw km_q119 := km_t4 (List.mem_of_getElem? (i := 185) rfl)
set_option maxRecDepth 100000 in
theorem km_cw120 : km_cw km_q120 := km_t3 (List.mem_of_getElem? (i := 134) rfl)
set_option maxRecDepth 100000 in
theorem km_cw121 : km_cw km_q121 := km_t4 (List.mem_of_getElem? (i := 36) rfl)
set_option maxRecDepth 100000 in
theorem km_cw122 : km_cw km_q122 := km_t4 (List.mem_of_getElem? (i := 109) rfl)
set_option maxRecDepth 100000 in
theorem km_cw123 : km_cw km_q123 := km_t4 (List.mem_of_getElem? (i := 114) rfl)
set_option maxRecDepth 100000 in
theorem km_cw124 : km_cw km_q124 := km_t4 (List.mem_of_getElem? (i := 190) rfl)
set_option maxRecDepth 100000 in
theorem km_cw125 : km_cw km_q125 := km_t5 (List.mem_of_getElem? (i := 118) rfl)
set_option maxRecDepth 100000 in
theorem km_cw126 : km_cw km_q126 := km_t5 (List.mem_of_getElem? (i := 122) rfl)
set_option maxRecDepth 100000 in
theorem km_cw127 : km_cw km_q127 := km_t5 (List.mem_of_getElem? (i := 126) rfl)
set_option maxRecDepth 100000 in
theorem km_cw128 : km_cw km_q128 := km_t5 (List.mem_of_getElem? (i := 138) rfl)
set_option maxRecDepth 100000 in
theorem km_cw129 : km_cw km_q129 := km_t5 (List.mem_of_getElem? (i := 148) rfl)
set_option maxRecDepth 100000 in
theorem km_cw130 : km_cw km_q130 := km_t5 (List.mem_of_getElem? (i := 145) rfl)
set_option maxRecDepth 100000 in
theorem km_cw131 : km_cw km_q131 := km_t4 (List.mem_of_getElem? (i := 197) rfl)
set_option maxRecDepth 100000 in
theorem km_cw132 : km_cw km_q132 := km_t4 (List.mem_of_getElem? (i := 194) rfl)
set_option maxRecDepth 100000 in
theorem km_cw133 : km_cw km_q133 := km_t5 (List.mem_of_getElem? (i := 142) rfl)
set_option maxRecDepth 100000 in
theorem km_cw134 : km_cw km_q134 := km_t5 (List.mem_of_getElem? (i := 134) rfl)
set_option maxRecDepth 100000 in
theorem km_cw135 : km_cw km_q135 := km_t5 (List.mem_of_getElem? (i := 152) rfl)
set_option maxRecDepth 100000 in
theorem km_cw136 : km_cw km_q136 := km_t5 (List.mem_of_getElem? (i := 156) rfl)
set_option maxRecDepth 100000 in
theorem km_cw137 : km_cw km_q137 := km_t5 (List.mem_of_getElem? (i := 168) rfl)
set_option maxRecDepth 100000 in
theorem km_cw138 : km_cw km_q138 := km_t5 (List.mem_of_getElem? (i := 199) rfl)
set_option maxRecDepth 100000 in
theorem km_cw139 : km_cw km_q139 := km_t5 (List.mem_of_getElem? (i := 164) rfl)
set_option maxRecDepth 100000 in
theorem km_cw140 : km_cw km_q140 := km_t5 (List.mem_of_getElem? (i := 172) rfl)
set_option maxRecDepth 100000 in
theorem km_cw141 : km_cw km_q141 := km_t5 (List.mem_of_getElem? (i := 130) rfl)
set_option maxRecDepth 100000 in
theorem km_cw142 : km_cw km_q142 := km_t6 (List.mem_of_getElem? (i := 12) rfl)
set_option maxRecDepth 100000 in
theorem km_cw143 : km_cw km_q143 := km_t5 (List.mem_of_getElem? (i := 160) rfl)
set_option maxRecDepth 100000 in
theorem km_cw144 : km_cw km_q144 := km_t5 (List.mem_of_getElem? (i := 176) rfl)
set_option maxRecDepth 100000 in
theorem km_cw145 : km_cw km_q145 := km_t5 (List.mem_of_getElem? (i := 184) rfl)
set_option maxRecDepth 100000 in
theorem km_cw146 : km_cw km_q146 := km_t5 (List.mem_of_getElem? (i := 180) rfl)
set_option maxRecDepth 100000 in
theorem km_cw147 : km_cw km_q147 := km_t5 (List.mem_of_getElem? (i := 188) rfl)
set_option maxRecDepth 100000 in
theorem km_cw148 : km_cw km_q148 := km_t5 (List.mem_of_getElem? (i := 213) rfl)
set_option maxRecDepth 100000 in
theorem km_cw149 : km_cw km_q149 := km_t5 (List.mem_of_getElem? (i := 209) rfl)
set_option maxRecDepth 100000 in
theorem km_cw150 : km_cw km_q150 := km_t5 (List.mem_of_getElem? (i := 217) rfl)
set_option maxRecDepth 100000 in
theorem km_cw151 : km_cw km_q151 := km_t5 (List.mem_of_getElem? (i := 192) rfl)
set_option maxRecDepth 100000 in
theorem km_cw152 : km_cw km_q152 := km_t5 (List.mem_of_getElem? (i := 206) rfl)
set_option maxRecDepth 100000 in
theorem km_cw153 : km_cw km_q153 := km_t5 (List.mem_of_getElem? (i := 195) rfl)
set_option maxRecDepth 100000 in
theorem km_cw154 : km_cw km_q154 := km_t5 (List.mem_of_getElem? (i := 202) rfl)
set_option maxRecDepth 100000 in
theorem km_cw155 : km_cw km_q155 := km_t6 (List.mem_of_getElem? (i := 149) rfl)
set_option maxRecDepth 100000 in
theorem km_cw156 : km_cw km_q156 := km_t6 (List.mem_of_getElem? (i := 8) rfl)
set_option maxRecDepth 100000 in
theorem km_cw157 : km_cw km_q157 := km_t5 (List.mem_of_getElem? (i := 229) rfl)
set_option maxRecDepth 100000 in
theorem km_cw158 : km_cw km_q158 := km_t5 (List.mem_of_getElem? (i := 233) rfl)
set_option maxRecDepth 100000 in
theorem km_cw159 : km_cw km_q159 := km_t5 (List.mem_of_getElem? (i := 237) rfl)
set_option maxRecDepth 100000 in
theorem km_cw160 : km_cw km_q160 := km_t6 (List.mem_of_getElem? (i := 40) rfl)
set_option maxRecDepth 100000 in
theorem km_cw161 : km_cw km_q161 := km_t5 (List.mem_of_getElem? (i := 225) rfl)
set_option maxRecDepth 100000 in
theorem km_cw162 : km_cw km_q162 := km_t6 (List.mem_of_getElem? (i := 1) rfl)
set_option maxRecDepth 100000 in
theorem km_cw163 : km_cw km_q163 := km_t6 (List.mem_of_getElem? (i := 5) rfl)
set_option maxRecDepth 100000 in
theorem km_cw164 : km_cw km_q164 := km_t5 (List.mem_of_getElem? (i := 221) rfl)
set_option maxRecDepth 100000 in
theorem km_cw165 : km_cw km_q165 := km_t6 (List.mem_of_getElem? (i := 44) rfl)
set_option maxRecDepth 100000 in
theorem km_cw166 : km_cw km_q166 := km_t6 (List.mem_of_getElem? (i := 36) rfl)
set_option maxRecDepth 100000 in
theorem km_cw167 : km_cw km_q167 := km_t6 (List.mem_of_getElem? (i := 225) rfl)
set_option maxRecDepth 100000 in
theorem km_cw168 : km_cw km_q168 := km_t6 (List.mem_of_getElem? (i := 87) rfl)
set_option maxRecDepth 100000 in
theorem km_cw169 : km_cw km_q169 := km_t6 (List.mem_of_getElem? (i := 55) rfl)
set_option maxRecDepth 100000 in
theorem km_cw170 : km_cw km_q170 := km_t6 (List.mem_of_getElem? (i := 52) rfl)
set_option maxRecDepth 100000 in
theorem km_cw171 : km_cw km_q171 := km_t6 (List.mem_of_getElem? (i := 83) rfl)
set_option maxRecDepth 100000 in
theorem km_cw172 : km_cw km_q172 := km_t6 (List.mem_of_getElem? (i := 71) rfl)
set_option maxRecDepth 100000 in
theorem km_cw173 : km_cw km_q173 := km_t6 (List.mem_of_getElem? (i := 63) rfl)
set_option maxRecDepth 100000 in
theorem km_cw174 : km_cw km_q174 := km_t6 (List.mem_of_getElem? (i := 67) rfl)
set_option maxRecDepth 100000 in
theorem km_cw175 : km_cw km_q175 := km_t6 (List.mem_of_getElem? (i := 94) rfl)
set_option maxRecDepth 100000 in
theorem km_cw176 : km_cw km_q176 := km_t6 (List.mem_of_getElem? (i := 48) rfl)
set_option maxRecDepth 100000 in
theorem km_cw177 : km_cw km_q177 := km_t6 (List.mem_of_getElem? (i := 16) rfl)
set_option maxRecDepth 100000 in
theorem km_cw178 : km_cw km_q178 := km_t6 (List.mem_of_getElem? (i := 20) rfl)
set_option maxRecDepth 100000 in
theorem km_cw179 : km_cw km_q179 := km_t6 (List.mem_of_getElem? (i := 28) rfl)
set_option maxRecDepth 100000 in
theorem km_cw180 : km_cw km_q180 := km_t6 (List.mem_of_getElem? (i := 24) rfl)
set_option maxRecDepth 100000 in
theorem km_cw181 : km_cw km_q181 := km_t6 (List.mem_of_getElem? (i := 32) rfl)
set_option maxRecDepth 100000 in
theorem km_cw182 : km_cw km_q182 := km_t6 (List.mem_of_getElem? (i := 59) rfl)
set_option maxRecDepth 100000 in
theorem km_cw183 : km_cw km_q183 := km_t6 (List.mem_of_getElem? (i := 75) rfl)
set_option maxRecDepth 100000 in
theorem km_cw184 : km_cw km_q184 := km_t6 (List.mem_of_getElem? (i := 79) rfl)
set_option maxRecDepth 100000 in
theorem km_cw185 : km_cw km_q185 := km_t6 (List.mem_of_getElem? (i := 91) rfl)
set_option maxRecDepth 100000 in
theorem km_cw186 : km_cw km_q186 := km_t6 (List.mem_of_getElem? (i := 98) rfl)
set_option maxRecDepth 100000 in
theorem km_cw187 : km_cw km_q187 := km_t6 (List.mem_of_getElem? (i := 102) rfl)
set_option maxRecDepth 100000 in
theorem km_cw188 : km_cw km_q188 := km_t6 (List.mem_of_getElem? (i := 106) rfl)
set_option maxRecDepth 100000 in
theorem km_cw189 : km_cw km_q189 := km_t6 (List.mem_of_getElem? (i := 110) rfl)
set_option maxRecDepth 100000 in
theorem km_cw190 : km_cw km_q190 := km_t6 (List.mem_of_getElem? (i := 123) rfl)
set_option maxRecDepth 100000 in
theorem km_cw191 : km_cw km_q191 := km_t6 (List.mem_of_getElem? (i := 114) rfl)
set_option maxRecDepth 100000 in
theorem km_cw192 : km_cw km_q192 := km_t6 (List.mem_of_getElem? (i := 127) rfl)
set_option maxRecDepth 100000 in
theorem km_cw193 : km_cw km_q193 := km_t6 (List.mem_of_getElem? (i := 138) rfl)
set_option maxRecDepth 100000 in
theorem km_cw194 : km_cw km_q194 := km_t6 (List.mem_of_getElem? (i := 135) rfl)
set_option maxRecDepth 100000 in
theorem km_cw195 : km_cw km_q195 := km_t6 (List.mem_of_getElem? (i := 131) rfl)
set_option maxRecDepth 100000 in
theorem km_cw196 : km_cw km_q196 := km_t6 (List.mem_of_getElem? (i := 146) rfl)
set_option maxRecDepth 100000 in
theorem km_cw197 : km_cw km_q197 := km_t6 (List.mem_of_getElem? (i := 153) rfl)
set_option maxRecDepth 100000 in
theorem km_cw198 : km_cw km_q198 := km_t6 (List.mem_of_getElem? (i := 160) rfl)
set_option maxRecDepth 100000 in
theorem km_cw199 : km_cw km_q199 := km_t6 (List.mem_of_getElem? (i := 157) rfl)
set_option maxRecDepth 100000 in
theorem km_cw200 : km_cw km_q200 := km_t6 (List.mem_of_getElem? (i := 142) rfl)
set_option maxRecDepth 100000 in
theorem km_cw201 : km_cw km_q201 := km_t6 (List.mem_of_getElem? (i := 221) rfl)
set_option maxRecDepth 100000 in
theorem km_cw202 : km_cw km_q202 := km_t6 (List.mem_of_getElem? (i := 164) rfl)
set_option maxRecDepth 100000 in
theorem km_cw203 : km_cw km_q203 := km_t6 (List.mem_of_getElem? (i := 119) rfl)
set_option maxRecDepth 100000 in
theorem km_cw204 : km_cw km_q204 := km_t6 (List.mem_of_getElem? (i := 173) rfl)
set_option maxRecDepth 100000 in
theorem km_cw205 : km_cw km_q205 := km_t6 (List.mem_of_getElem? (i := 168) rfl)
set_option maxRecDepth 100000 in
theorem km_cw206 : km_cw km_q206 := km_t6 (List.mem_of_getElem? (i := 177) rfl)
set_option maxRecDepth 100000 in
theorem km_cw207 : km_cw km_q207 := km_t6 (List.mem_of_getElem? (i := 181) rfl)
set_option maxRecDepth 100000 in
theorem km_cw208 : km_cw km_q208 := km_t6 (List.mem_of_getElem? (i := 185) rfl)
set_option maxRecDepth 100000 in
theorem km_cw209 : km_cw km_q209 := km_t6 (List.mem_of_getElem? (i := 217) rfl)
set_option maxRecDepth 100000 in
theorem km_cw210 : km_cw km_q210 := km_t6 (List.mem_of_getElem? (i := 193) rfl)
set_option maxRecDepth 100000 in
theorem km_cw211 : km_cw km_q211 := km_t6 (List.mem_of_getElem? (i := 189) rfl)
set_option maxRecDepth 100000 in
theorem km_cw212 : km_cw km_q212 := km_t6 (List.mem_of_getElem? (i := 201) rfl)
set_option maxRecDepth 100000 in
theorem km_cw213 : km_cw km_q213 := km_t6 (List.mem_of_getElem? (i := 197) rfl)
set_option maxRecDepth 100000 in
theorem km_cw214 : km_cw km_q214 := km_t6 (List.mem_of_getElem? (i := 209) rfl)
set_option maxRecDepth 100000 in
theorem km_cw215 : km_cw km_q215 := km_t6 (List.mem_of_getElem? (i := 205) rfl)
set_option maxRecDepth 100000 in
theorem km_cw216 : km_cw km_q216 := km_t6 (List.mem_of_getElem? (i := 229) rfl)
set_option maxRecDepth 100000 in
theorem km_cw217 : km_cw km_q217 := km_t6 (List.mem_of_getElem? (i := 213) rfl)
set_option maxRecDepth 100000 in
theorem km_cw218 : km_cw km_q218 := km_t3 (List.mem_of_getElem? (i := 78) rfl)
set_option maxRecDepth 100000 in
theorem km_cw219 : km_cw km_q219 := km_t4 (List.mem_of_getElem? (i := 85) rfl)
set_option maxRecDepth 100000 in
theorem km_cw220 : km_cw km_q220 := km_t4 (List.mem_of_getElem? (i := 167) rfl)
set_option maxRecDepth 100000 in
theorem km_cw221 : km_cw km_q221 := km_t3 (List.mem_of_getElem? (i := 7) rfl)
set_option maxRecDepth 100000 in
theorem km_cw222 : km_cw km_q222 := km_t3 (List.mem_of_getElem? (i := 142) rfl)
theorem km_cwl0 : ∀ x ∈ [km_q0, km_q1, km_q2, km_q3, km_q4, km_q5, km_q6, km_q7, km_q8, km_q9, km_q10, km_q11, km_q12, km_q13, km_q14, km_q15], km_cw x := List.forall_mem_cons.mpr ⟨km_cw0, List.forall_mem_cons.mpr ⟨km_cw1, List.forall_mem_cons.mpr ⟨km_cw2, List.forall_mem_cons.mpr ⟨km_cw3, List.forall_mem_cons.mpr ⟨km_cw4, List.forall_mem_cons.mpr ⟨km_cw5, List.forall_mem_cons.mpr ⟨km_cw6, List.forall_mem_cons.mpr ⟨km_cw7, List.forall_mem_cons.mpr ⟨km_cw8, List.forall_mem_cons.mpr ⟨km_cw9, List.forall_mem_cons.mpr ⟨km_cw10, List.forall_mem_cons.mpr ⟨km_cw11, List.forall_mem_cons.mpr ⟨km_cw12, List.forall_mem_cons.mpr ⟨km_cw13, List.forall_mem_cons.mpr ⟨km_cw14, List.forall_mem_cons.mpr ⟨km_cw15, fun _ h => absurd h List.not_mem_nil⟩⟩⟩⟩⟩⟩⟩⟩⟩⟩⟩⟩⟩⟩⟩⟩
theorem km_cwl16 : ∀ x ∈ [km_q16, km_q17, km_q18, km_q19, km_q20, km_q21, km_q22, km_q23, km_q24, km_q25, km_q26, km_q27, km_q28, km_q29, km_q30, km_q31], km_cw x := List.forall_mem_cons.mpr ⟨km_cw16, List.forall_mem_cons.mpr ⟨km_cw17, List.forall_mem_cons.mpr ⟨km_cw18, List.forall_mem_cons.mpr ⟨km_cw19, List.forall_mem_cons.mpr ⟨km_cw20, List.forall_mem_cons.mpr ⟨km_cw21, List.forall_mem_cons.mpr ⟨km_cw22, List.forall_mem_cons.mpr ⟨km_cw23, List.forall_mem_cons.mpr ⟨km_cw24, List.forall_mem_cons.mpr ⟨km_cw25, List.forall_mem_cons.mpr ⟨km_cw26, List.forall_mem_cons.mpr ⟨km_cw27, List.forall_mem_cons.mpr ⟨km_cw28, List.forall_mem_cons.mpr ⟨km_cw29, List.forall_mem_cons.mpr ⟨km_cw30, List.forall_mem_cons.mpr ⟨km_cw31, fun _ h => absurd h List.not_mem_nil⟩⟩⟩⟩⟩⟩⟩⟩⟩⟩⟩⟩⟩⟩⟩⟩
theorem km_cwl32 : ∀ x ∈ [km_q32, km_q33, km_q34, km_q35, km_q36, km_q37, km_q38, km_q39, km_q40, km_q41, km_q42, km_q43, km_q44, km_q45, km_q46, km_q47], km_cw x := List.forall_mem_cons.mpr ⟨km_cw32, List.forall_mem_cons.mpr ⟨km_cw33, List.forall_mem_cons.mpr ⟨km_cw34, List.forall_mem_cons.mpr ⟨km_cw35, List.forall_mem_cons.mpr ⟨km_cw36, List.forall_mem_cons.mpr ⟨km_cw37, List.forall_mem_cons.mpr ⟨km_cw38, List.forall_mem_cons.mpr ⟨km_cw39, List.forall_mem_cons.mpr ⟨km_cw40, List.forall_mem_cons.mpr ⟨km_cw41, List.forall_mem_cons.mpr ⟨km_cw42, List.forall_mem_cons.mpr ⟨km_cw43, List.forall_mem_cons.mpr ⟨km_cw44, List.forall_mem_cons.mpr ⟨km_cw45, List.forall_mem_cons.mpr ⟨km_cw46, List.forall_mem_cons.mpr ⟨km_cw47, fun _ h => absurd h List.not_mem_nil⟩⟩⟩⟩⟩⟩⟩⟩⟩⟩⟩⟩⟩⟩⟩⟩
theorem km_cwl48 : ∀ x ∈ [km_q48, km_q49, km_q50, km_q51, km_q52, km_q53, km_q54, km_q55, km_q56, km_q57, km_q58, km_q59, km_q60, km_q61, km_q62, km_q63], km_cw x := List.forall_mem_cons.mpr ⟨km_cw48, List.forall_mem_cons.mpr ⟨km_cw49, List.forall_mem_cons.mpr ⟨km_cw50, List.forall_mem_cons.mpr ⟨km_cw51, List.forall_mem_cons.mpr ⟨km_cw52, List.forall_mem_cons.mpr ⟨km_cw53, List.forall_mem_cons.mpr ⟨km_cw54, List.forall_mem_cons.mpr ⟨km_cw55, List.forall_mem_cons.mpr ⟨km_cw56, List.forall_mem_cons.mpr ⟨km_cw57, List.forall_mem_cons.mpr ⟨km_cw58, List.forall_mem_cons.mpr ⟨km_cw59, List.forall_mem_cons.mpr ⟨km_cw60, List.forall_mem_cons.mpr ⟨km_cw61, List.forall_mem_cons.mpr ⟨km_cw62, List.forall_mem_cons.mpr ⟨km_cw63, fun _ h => absurd h List.not_mem_nil⟩⟩⟩⟩⟩⟩⟩⟩⟩⟩⟩⟩⟩⟩⟩⟩
theorem km_cwl64 : ∀ x ∈ [km_q64, km_q65, km_q66, km_q67, km_q68, km_q69, km_q70, km_q71, km_q72, km_q73, km_q74, km_q75, km_q76, km_q77, km_q78, km_q79], km_cw x := List.forall_mem_cons.mpr ⟨km_cw64, List.forall_mem_cons.mpr ⟨km_cw65, List.forall_mem_cons.mpr ⟨km_cw66, List.forall_mem_cons.mpr ⟨km_cw67, List.forall_mem_cons.mpr ⟨km_cw68, List.forall_mem_cons.mpr ⟨km_cw69, List.forall_mem_cons.mpr ⟨km_cw70, List.forall_mem_cons.mpr ⟨km_cw71, List.forall_mem_cons.mpr ⟨km_cw72, List.forall_mem_cons.mpr ⟨km_cw73, List.forall_mem_cons.mpr ⟨km_cw74, List.forall_mem_cons.mpr ⟨km_cw75, List.forall_mem_cons.mpr ⟨km_cw76, List.forall_mem_cons.mpr ⟨km_cw77, List.forall_mem_cons.mpr ⟨km_cw78, List.forall_mem_cons.mpr ⟨km_cw79, fun _ h => absurd h List.not_mem_nil⟩⟩⟩⟩⟩⟩⟩⟩⟩⟩⟩⟩⟩⟩⟩⟩
theorem km_cwl80 : ∀ x ∈ [km_q80, km_q81, km_q82, km_q83, km_q84, km_q85, km_q86, km_q87, km_q88, km_q89, km_q90, km_q91, km_q92, km_q93, km_q94, km_q95], km_cw x := List.forall_mem_cons.mpr ⟨km_cw80, List.forall_mem_cons.mpr ⟨km_cw81, List.forall_mem_cons.mpr ⟨km_cw82, List.forall_mem_cons.mpr ⟨km_cw83, List.forall_mem_cons.mpr ⟨km_cw84, List.forall_mem_cons.mpr ⟨km_cw85, List.forall_mem_cons.mpr ⟨km_cw86, List.forall_mem_cons.mpr ⟨km_cw87, List.forall_mem_cons.mpr ⟨km_cw88, List.forall_mem_cons.mpr ⟨km_cw89, List.forall_mem_cons.mpr ⟨km_cw90, List.forall_mem_cons.mpr ⟨km_cw91, List.forall_mem_cons.mpr ⟨km_cw92, List.forall_mem_cons.mpr ⟨km_cw93, List.forall_mem_cons.mpr ⟨km_cw94, List.forall_mem_cons.mpr ⟨km_cw95, fun _ h => absurd h List.not_mem_nil⟩⟩⟩⟩⟩⟩⟩⟩⟩⟩⟩⟩⟩⟩⟩⟩
theorem km_cwl96 : ∀ x ∈ [km_q96, km_q97, km_q98, km_q99, km_q100, km_q101, km_q102, km_q103, km_q104, km_q105, km_q106, km_q107, km_q108, km_q109, km_q110, km_q111], km_cw x := List.forall_mem_cons.mpr ⟨km_cw96, List.forall_mem_cons.mpr ⟨km_cw97, List.forall_mem_cons.mpr ⟨km_cw98, List.forall_mem_cons.mpr ⟨km_cw99, List.forall_mem_cons.mpr ⟨km_cw100, List.forall_mem_cons.mpr ⟨km_cw101, List.forall_mem_cons.mpr ⟨km_cw102, List.forall_mem_cons.mpr ⟨km_cw103, List.forall_mem_cons.mpr ⟨km_cw104, List.forall_mem_cons.mpr ⟨km_cw105, List.forall_mem_cons.mpr ⟨km_cw106, List.forall_mem_cons.mpr ⟨km_cw107, List.forall_mem_cons.mpr ⟨km_cw108, List.forall_mem_cons.mpr ⟨km_cw109, List.forall_mem_cons.mpr ⟨km_cw110, List.forall_mem_cons.mpr ⟨km_cw111, fun _ h => absurd h List.not_mem_nil⟩⟩⟩⟩⟩⟩⟩⟩⟩⟩⟩⟩⟩⟩⟩⟩
theorem km_cwl112 : ∀ x ∈ [km_q112, km_q113, km_q114, km_q115, km_q116, km_q117, km_q118, km_q119, km_q120, km_q121, km_q122, km_q123, km_q124, km_q125, km_q126, km_q127], km_cw x := List.forall_mem_cons.mpr ⟨km_cw112, List.forall_mem_cons.mpr ⟨km_cw113, List.forall_mem_cons.mpr ⟨km_cw114, List.forall_mem_cons.mpr ⟨km_cw115, List.forall_mem_cons.mpr ⟨km_cw116, List.forall_mem_cons.mpr ⟨km_cw117, List.forall_mem_cons.mpr ⟨km_cw118, List.forall_mem_cons.mpr ⟨km_cw119, List.forall_mem_cons.mpr ⟨km_cw120, List.forall_mem_cons.mpr ⟨km_cw121, List.forall_mem_cons.mpr ⟨km_cw122, List.forall_mem_cons.mpr ⟨km_cw123, List.forall_mem_cons.mpr ⟨km_cw124, List.forall_mem_cons.mpr ⟨km_cw125, List.forall_mem_cons.mpr ⟨km_cw126, List.forall_mem_cons.mpr ⟨km_cw127, fun _ h => absurd h List.not_mem_nil⟩⟩⟩⟩⟩⟩⟩⟩⟩⟩⟩⟩⟩⟩⟩⟩
theorem km_cwl128 : ∀ x ∈ [km_q128, km_q129, km_q130, km_q131, km_q132, km_q133, km_q134, km_q135, km_q136, km_q137, km_q138, km_q139, km_q140, km_q141, km_q142, km_q143], km_cw x := List.forall_mem_cons.mpr ⟨km_cw128, List.forall_mem_cons.mpr ⟨km_cw129, List.forall_mem_cons.mpr ⟨km_cw130, List.forall_mem_cons.mpr ⟨km_cw131, List.forall_mem_cons.mpr ⟨km_cw132, List.forall_mem_cons.mpr ⟨km_cw133, List.forall_mem_cons.mpr ⟨km_cw134, List.forall_mem_cons.mpr ⟨km_cw135, List.forall_mem_cons.mpr ⟨km_cw136, List.forall_mem_cons.mpr ⟨km_cw137, List.forall_mem_cons.mpr ⟨km_cw138, List.forall_mem_cons.mpr ⟨km_cw139, List.forall_mem_cons.mpr ⟨km_cw140, List.forall_mem_cons.mpr ⟨km_cw141, List.forall_mem_cons.mpr ⟨km_cw142, List.forall_mem_cons.mpr ⟨km_cw143, fun _ h => absurd h List.not_mem_nil⟩⟩⟩⟩⟩⟩⟩⟩⟩⟩⟩⟩⟩⟩⟩⟩
theorem km_cwl144 : ∀ x ∈ [km_q144, km_q145, km_q146, km_q147, km_q148, km_q149, km_q150, km_q151, km_q152, km_q153, km_q154, km_q155, km_q156, km_q157, km_q158, km_q159], km_cw x := List.forall_mem_cons.mpr ⟨km_cw144, List.forall_mem_cons.mpr ⟨km_cw145, List.forall_mem_cons.mpr ⟨km_cw146, List.forall_mem_cons.mpr ⟨km_cw147, List.forall_mem_cons.mpr ⟨km_cw148, List.forall_mem_cons.mpr ⟨km_cw149, List.forall_mem_cons.mpr ⟨km_cw150, List.forall_mem_cons.mpr ⟨km_cw151, List.forall_mem_cons.mpr ⟨km_cw152, List.forall_mem_cons.mpr ⟨km_cw153, List.forall_mem_cons.mpr ⟨km_cw154, List.forall_mem_cons.mpr ⟨km_cw155, List.forall_mem_cons.mpr ⟨km_cw156, List.forall_mem_cons.mpr ⟨km_cw157, List.forall_mem_cons.mpr ⟨km_cw158, List.forall_mem_cons.mpr ⟨km_cw159, fun _ h => absurd h List.not_mem_nil⟩⟩⟩⟩⟩⟩⟩⟩⟩⟩⟩⟩⟩⟩⟩⟩
theorem km_cwl160 : ∀ x ∈ [km_q160, km_q161, km_q162, km_q163, km_q164, km_q165, km_q166, km_q167, km_q168, km_q169, km_q170, km_q171, km_q172, km_q173, km_q174, km_q175], km_cw x := List.forall_mem_cons.mpr ⟨km_cw160, List.forall_mem_cons.mpr ⟨km_cw161, List.forall_mem_cons.mpr ⟨km_cw162, List.forall_mem_cons.mpr ⟨km_cw163, List.forall_mem_cons.mpr ⟨km_cw164, List.forall_mem_cons.mpr ⟨km_cw165, List.forall_mem_cons.mpr ⟨km_cw166, List.forall_mem_cons.mpr ⟨km_cw167, List.forall_mem_cons.mpr ⟨km_cw168, List.forall_mem_cons.mpr ⟨km_cw169, List.forall_mem_cons.mpr ⟨km_cw170, List.forall_mem_cons.mpr ⟨km_cw171, List.forall_mem_cons.mpr ⟨km_cw172, List.forall_mem_cons.mpr ⟨km_cw173, List.forall_mem_cons.mpr ⟨km_cw174, List.forall_mem_cons.mpr ⟨km_cw175, fun _ h => absurd h List.not_mem_nil⟩⟩⟩⟩⟩⟩⟩⟩⟩⟩⟩⟩⟩⟩⟩⟩
theorem km_cwl176 : ∀ x ∈ [km_q176, km_q177, km_q178, km_q179, km_q180, km_q181, km_q182, km_q183, km_q184, km_q185, km_q186, km_q187, km_q188, km_q189, km_q190, km_q191], km_cw x := List.forall_mem_cons.mpr ⟨km_cw176, List.forall_mem_cons.mpr ⟨km_cw177, List.forall_mem_cons.mpr ⟨km_cw178, List.forall_mem_cons.mpr ⟨km_cw179, List.forall_mem_cons.mpr ⟨km_cw180, List.forall_mem_cons.mpr ⟨km_cw181, List.forall_mem_cons.mpr ⟨km_cw182, List.forall_mem_cons.mpr ⟨km_cw183, List.forall_mem_cons.mpr ⟨km_cw184, List.forall_mem_cons.mpr ⟨km_cw185, List.forall_mem_cons.mpr ⟨km_cw186, List.forall_mem_cons.mpr ⟨km_cw187, List.forall_mem_cons.mpr ⟨km_cw188, List.forall_mem_cons.mpr ⟨km_cw189, List.forall_mem_cons.mpr ⟨km_cw190, List.forall_mem_cons.mpr ⟨km_cw191, fun _ h => absurd h List.not_mem_nil⟩⟩⟩⟩⟩⟩⟩⟩⟩⟩⟩⟩⟩⟩⟩⟩
theorem km_cwl192 : ∀ x ∈ [km_q192, km_q193, km_q194, km_q195, km_q196, km_q197, km_q198, km_q199, km_q200, km_q201, km_q202, km_q203, km_q204, km_q205, km_q206, km_q207], km_cw x := List.forall_mem_cons.mpr ⟨km_cw192, List.forall_mem_cons.mpr ⟨km_cw193, List.forall_mem_cons.mpr ⟨km_cw194, List.forall_mem_cons.mpr ⟨km_cw195, List.forall_mem_cons.mpr ⟨km_cw196, List.forall_mem_cons.mpr ⟨km_cw197, List.forall_mem_cons.mpr ⟨km_cw198, List.forall_mem_cons.mpr ⟨km_cw199, List.forall_mem_cons.mpr ⟨km_cw200, List.forall_mem_cons.mpr ⟨km_cw201, List.forall_mem_cons.mpr ⟨km_cw202, List.forall_mem_cons.mpr ⟨km_cw203, List.forall_mem_cons.mpr ⟨km_cw204, List.forall_mem_cons.mpr ⟨km_cw205, List.forall_mem_cons.mpr ⟨km_cw206, List.forall_mem_cons.mpr ⟨km_cw207, fun _ h => absurd h List.not_mem_nil⟩⟩⟩⟩⟩⟩⟩⟩⟩⟩⟩⟩⟩⟩⟩⟩
theorem km_cwl208 : ∀ x ∈ [km_q208, km_q209, km_q210, km_q211, km_q212, km_q213, km_q214, km_q215, km_q216, km_q217, km_q218, km_q219, km_q220, km_q221, km_q222], km_cw x := List.forall_mem_cons.mpr ⟨km_cw208, List.forall_mem_cons.mpr ⟨km_cw209, List.forall_mem_cons.mpr ⟨km_cw210, List.forall_mem_cons.mpr ⟨km_cw211, List.forall_mem_cons.mpr ⟨km_cw212, List.forall_mem_cons.mpr ⟨km_cw213, List.forall_mem_cons.mpr ⟨km_cw214, List.forall_mem_cons.mpr ⟨km_cw215, List.forall_mem_cons.mpr ⟨km_cw216, List.forall_mem_cons.mpr ⟨km_cw217, List.forall_mem_cons.mpr ⟨km_cw218, List.forall_mem_cons.mpr ⟨km_cw219, List.forall_mem_cons.mpr ⟨km_cw220, List.forall_mem_cons.mpr ⟨km_cw221, List.forall_mem_cons.mpr ⟨km_cw222, fun _ h => absurd h List.not_mem_nil⟩⟩⟩⟩⟩⟩⟩⟩⟩⟩⟩⟩⟩⟩⟩
def km_cwL : List km_Q := [km_q0, km_q1, km_q2, km_q3, km_q4, km_q5, km_q6, km_q7, km_q8, km_q9, km_q10, km_q11, km_q12, km_q13, km_q14, km_q15] ++ ([km_q16, km_q17, km_q18, km_q19, km_q20, km_q21, km_q22, km_q23, km_q24, km_q25, km_q26, km_q27, km_q28, km_q29, km_q30, km_q31] ++ ([km_q32, km_q33, km_q34, km_q35, km_q36, km_q37, km_q38, km_q39, km_q40, km_q41, km_q42, km_q43, km_q44, km_q45, km_q46, km_q47] ++ ([km_q48, km_q49, km_q50, km_q51, km_q52, km_q53, km_q54, km_q55, km_q56, km_q57, km_q58, km_q59, km_q60, km_q61, km_q62, km_q63] ++ ([km_q64, km_q65, km_q66, km_q67, km_q68, km_q69, km_q70, km_q71, km_q72, km_q73, km_q74, km_q75, km_q76, km_q77, km_q78, km_q79] ++ ([km_q80, km_q81, km_q82, km_q83, km_q84, km_q85, km_q86, km_q87, km_q88, km_q89, km_q90, km_q91, km_q92, km_q93, km_q94, km_q95] ++ ([km_q96, km_q97, km_q98, km_q99, km_q100, km_q101, km_q102, km_q103, km_q104, km_q105, km_q106, km_q107, km_q108, km_q109, km_q110, km_q111] ++ ([km_q112, km_q113, km_q114, km_q115, km_q116, km_q117, km_q118, km_q119, km_q120, km_q121, km_q122, km_q123, km_q124, km_q125, km_q126, km_q127] ++ ([km_q128, km_q129, km_q130, km_q131, km_q132, km_q133, km_q134, km_q135, km_q136, km_q137, km_q138, km_q139, km_q140, km_q141, km_q142, km_q143] ++ ([km_q144, km_q145, km_q146, km_q147, km_q148, km_q149, km_q150, km_q151, km_q152, km_q153, km_q154, km_q155, km_q156, km_q157, km_q158, km_q159] ++ ([km_q160, km_q161, km_q162, km_q163, km_q164, km_q165, km_q166, km_q167, km_q168, km_q169, km_q170, km_q171, km_q172, km_q173, km_q174, km_q175] ++ ([km_q176, km_q177, km_q178, km_q179, km_q180, km_q181, km_q182, km_q183, km_q184, km_q185, km_q186, km_q187, km_q188, km_q189, km_q190, km_q191] ++ ([km_q192, km_q193, km_q194, km_q195, km_q196, km_q197, km_q198, km_q199, km_q200, km_q201, km_q202, km_q203, km_q204, km_q205, km_q206, km_q207] ++ ([km_q208, km_q209, km_q210, km_q211, km_q212, km_q213, km_q214, km_q215, km_q216, km_q217, km_q218, km_q219, km_q220, km_q221, km_q222])))))))))))))
theorem km_cwA : ∀ x ∈ km_cwL, km_cw x := List.forall_mem_append.mpr ⟨km_cwl0, List.forall_mem_append.mpr ⟨km_cwl16, List.forall_mem_append.mpr ⟨km_cwl32, List.forall_mem_append.mpr ⟨km_cwl48, List.forall_mem_append.mpr ⟨km_cwl64, List.forall_mem_append.mpr ⟨km_cwl80, List.forall_mem_append.mpr ⟨km_cwl96, List.forall_mem_append.mpr ⟨km_cwl112, List.forall_mem_append.mpr ⟨km_cwl128, List.forall_mem_append.mpr ⟨km_cwl144, List.forall_mem_append.mpr ⟨km_cwl160, List.forall_mem_append.mpr ⟨km_cwl176, List.forall_mem_append.mpr ⟨km_cwl192, km_cwl208⟩⟩⟩⟩⟩⟩⟩⟩⟩⟩⟩⟩⟩
set_option maxRecDepth 100000 in
theorem km_cwM : km_cwL = km_T.take 223 := rfl
set_option maxRecDepth 100000 in
theorem km_M_len : km_Mp.length = 223 ∧ km_T.length = 224 := by decide +kernel
theorem km_M_at {j : Nat} {q : km_Q} (hj : j < 223) (h : km_T[j]? = some q) : ∃ e, km_okM (q, e) = true := by
  have h1 : j < km_Mp.length := by rw [km_M_len.1]; exact hj
  have h2 : ((km_T.take 223).zip km_Mp)[j]? = some (q, km_Mp[j]) := by
    rw [List.getElem?_zip_eq_some]
    exact ⟨by rw [List.getElem?_take_of_lt hj]; exact h, List.getElem?_eq_getElem h1⟩
  exact ⟨_, List.all_eq_true.mp km_M_ok _ (List.mem_of_getElem? h2)⟩
theorem km_cw_at {j : Nat} {q : km_Q} (hj : j < 223) (h : km_T[j]? = some q) : Cond.code q.1 q.2.1 q.2.2.1 q.2.2.2.1 ∈ km_G := by
  have h2 : q ∈ km_cwL := by
    rw [km_cwM]
    exact List.mem_of_getElem? (i := j) (by rw [List.getElem?_take_of_lt hj]; exact h)
  exact List.mem_filter.mpr ⟨km_cwA q h2, rfl⟩
end
section
/-- the entries of the pools that name methods -/
def km_okI (e : Nat × Nat × Nat × Nat × Nat) : Bool :=
  match e.2.2.1 with
  | 4 => km_gw e.2.2.2.2 (.methodLink (km_R e.1) e.2.1 objectInit)
  | 5 => km_gw e.2.2.2.2 (.methodLink (km_R e.1) e.2.1 arraycopyName)
  | 6 => km_gw e.2.2.2.2 (.methodLink (km_R e.1) e.2.1 yJ0_length_8abf5)
  | 7 => km_gw e.2.2.2.2 (.methodLink (km_R e.1) e.2.1 yJ0_charAt_5068e)
  | k => match km_T[e.2.2.2.1]?, km_Mp[e.2.2.2.1]? with
    | some q, some x => Nat.blt e.2.2.2.1 223 && (cond (Nat.beq k 3) (km_Nw.any (fun w => decide (w = .methodLinkNest (km_R e.1) e.2.1 q.1 RX8))) (km_gw e.2.2.2.2 (.methodLink (km_R e.1) e.2.1 q.1)) &&
        match k with
        | 0 => q.2.2.2.2.2.2.1
        | 1 => !q.2.2.2.2.2.2.1 && (!(Nat.beq x.2.2.2 9999) && Nat.blt q.2.2.2.2.1 10)
        | _ => !q.2.2.2.2.2.2.1 && (decide (q.1.name = "<init>") && (decide (q.2.2.2.1 = none) && Nat.blt q.2.2.2.2.1 10)))
    | _, _ => false
set_option maxRecDepth 100000 in
theorem km_I0 : ((km_I.drop 0).take 30).all km_okI = true := by decide +kernel
set_option maxRecDepth 100000 in
theorem km_I30 : ((km_I.drop 30).take 30).all km_okI = true := by decide +kernel
set_option maxRecDepth 100000 in
theorem km_I60 : ((km_I.drop 60).take 30).all km_okI = true := by decide +kernel
set_option maxRecDepth 100000 in
theorem km_I90 : ((km_I.drop 90).take 30).all km_okI = true := by decide +kernel
set_option maxRecDepth 100000 in
theorem km_I120 : ((km_I.drop 120).take 30).all km_okI = true := by decide +kernel
set_option maxRecDepth 100000 in
theorem km_I150 : ((km_I.drop 150).take 30).all km_okI = true := by decide +kernel
set_option maxRecDepth 100000 in
theorem km_I180 : ((km_I.drop 180).take 30).all km_okI = true := by decide +kernel
set_option maxRecDepth 100000 in
theorem km_I210 : ((km_I.drop 210).take 30).all km_okI = true := by decide +kernel
set_option maxRecDepth 100000 in
theorem km_I240 : ((km_I.drop 240).take 30).all km_okI = true := by decide +kernel
set_option maxRecDepth 100000 in
theorem km_I_ok : km_I.all km_okI = true := km_dstep2 km_I0 (km_dstep2 km_I30 (km_dstep2 km_I60 (km_dstep2 km_I90 (km_dstep2 km_I120 (km_dstep2 km_I150 (km_dstep2 km_I180 (km_dstep2 km_I210 (km_dlast2 (by decide +kernel) km_I240))))))))
def km_Cp : List (Nat × Nat) := [(317, 100), (338, 101), (259, 99), (354, 102), (152, 97), (217, 98), (374, 103), (121, 96), (113, 95), (1001, 104)]
set_option maxRecDepth 100000 in
theorem km_C_ok : ((List.range 10).zip km_Cp).all (fun x => km_gw x.2.1 (.instantiable (km_R x.1) (km_N x.1)) && km_gw x.2.2 (.initialized (km_R x.1))) = true := by decide +kernel
theorem km_C_at {k : Nat} (hk : k < 10) : Cond.instantiable (km_R k) (km_N k) ∈ km_G ∧ Cond.initialized (km_R k) ∈ km_G := by
  have h1 : k < km_Cp.length := hk
  have h2 : ((List.range 10).zip km_Cp)[k]? = some (k, km_Cp[k]) := by
    rw [List.getElem?_zip_eq_some]
    exact ⟨by rw [List.getElem?_range hk], List.getElem?_eq_getElem h1⟩
  have h3 := List.all_eq_true.mp km_C_ok _ (List.mem_of_getElem? h2)
  rw [Bool.and_eq_true] at h3
  exact ⟨km_gw_s h3.1, km_gw_s h3.2⟩
def km_okW (e : Nat × Nat × Nat × Nat × Nat) : Bool := cond (Nat.blt e.2.2.1 10) (km_gw e.2.2.2.2 (.classLink (km_R e.1) e.2.1 (km_R e.2.2.1))) (Nat.beq e.2.2.1 16 && km_gw e.2.2.2.2 (.classLink (km_R e.1) e.2.1 "[[J"))
set_option maxRecDepth 100000 in
theorem km_W_ok : km_W5.all km_okW = true := by decide +kernel
theorem km_ac_byte : Cond.arrayClass .byte ∈ km_G := km_inG (i := 150) (by decide +kernel) rfl
theorem km_ac_int : Cond.arrayClass .int ∈ km_G := km_inG (i := 214) (by decide +kernel) rfl
theorem km_ac_long : Cond.arrayClass .long ∈ km_G := km_inG (i := 336) (by decide +kernel) rfl
theorem km_ac_boolean : Cond.arrayClass .boolean ∈ km_G := km_inG (i := 215) (by decide +kernel) rfl
theorem km_cp1 : Cond.native arraycopyName ∈ km_G := km_gw_s (i := 678) (by decide +kernel)
theorem km_cp2 : Cond.static arraycopyName ∈ km_G := km_gw_s (i := 677) (by decide +kernel)
theorem km_cp3 : Cond.initialized "java/lang/System" ∈ km_G := km_gw_s (i := 111) (by decide +kernel)
theorem km_oi1 : Cond.instanceMethod objectInit ∈ km_G := km_gw_s (i := 118) (by decide +kernel)
theorem km_oi2 : Cond.code objectInit ⟨#[0xb1]⟩ 1 none ∈ km_G := km_gw_s (i := 119) (by decide +kernel)
end
section
/-! AN INTERPRETER of the methods' bytecode over a plain memory, and (behind it) the proof that the machine follows it.
A cell: its kind (0 .. 9 a class's object, 10 .. 16 an array of byte, int, long, boolean, Drawing, Rows, long[]), how many places, what they hold. -/
abbrev km_C : Type := Nat × Nat × (Nat → Value)
abbrev km_M : Type := List km_C
abbrev km_L : Type := List (Option Value)
abbrev KI : Type := Jvm.ClassFile.Instr
def km_at : List (Nat × KI) → Nat → Option KI
  | [], _ => none
  | e :: t, pc => cond (Nat.beq e.1 pc) (some e.2) (km_at t pc)
theorem km_at_mem {l : List (Nat × KI)} {pc : Nat} {i : KI} (h : km_at l pc = some i) : (pc, i) ∈ l := by
  induction l with
  | nil => cases h
  | cons e t ih =>
    unfold km_at at h
    cases hb : Nat.beq e.1 pc with
    | false => rw [hb] at h; exact List.mem_cons_of_mem _ (ih h)
    | true =>
      rw [hb] at h
      have h1 : e.1 = pc := Nat.eq_of_beq_eq_true hb
      have h2 : e.2 = i := Option.some.inj h
      subst h1; subst h2
      exact List.mem_cons_self
def km_fF : List (Nat × Nat × Nat × Nat × Nat) → Nat → Nat → Option (Nat × Nat × Nat)
  | [], _, _ => none
  | e :: t, c, i => cond (Nat.beq e.1 c && Nat.beq e.2.1 i) (some e.2.2) (km_fF t c i)
theorem km_fF_mem {l : List (Nat × Nat × Nat × Nat × Nat)} {c i : Nat} {r : Nat × Nat × Nat} (h : km_fF l c i = some r) : (c, i, r) ∈ l := by
  induction l with
  | nil => cases h
  | cons e t ih =>
    unfold km_fF at h
    cases hb : (Nat.beq e.1 c && Nat.beq e.2.1 i) with
    | false => rw [hb] at h; exact List.mem_cons_of_mem _ (ih h)
    | true =>
      rw [hb] at h
      rw [Bool.and_eq_true] at hb
      have h1 : e.1 = c := Nat.eq_of_beq_eq_true hb.1
      have h3 : e.2.1 = i := Nat.eq_of_beq_eq_true hb.2
      have h2 : e.2.2 = r := Option.some.inj h
      subst h1; subst h2; subst h3
      exact List.mem_cons_self
def km_scr : Nat := 1000000
/-- constants of the pools: ints, longs, texts -/
def km_kc (c i : Nat) : Option Value :=
  match c with
  | 0 => cond (Nat.beq i 55) (some (.long 2)) none
  | 7 => cond (Nat.beq i 48) (some (.ref 1000001)) (cond (Nat.beq i 54) (some (.ref 1000002)) (cond (Nat.beq i 56) (some (.ref 1000003)) (cond (Nat.beq i 58) (some (.ref 1000004)) none)))
  | 8 => cond (Nat.beq i 185) (some (.int (-100000))) (cond (Nat.beq i 231) (some (.long (-1))) none)
  | 9 => cond (Nat.beq i 139) (some (.long 27)) (cond (Nat.beq i 327) (some (.int (-100000))) (cond (Nat.beq i 355) (some (.long 2)) (cond (Nat.beq i 357) (some (.long (-1))) none)))
  | 10 => cond (Nat.beq i 265) (some (.int 1431655765)) (cond (Nat.beq i 266) (some (.int 858993459)) (cond (Nat.beq i 267) (some (.int 252645135)) none))
  | _ => none
def km_i1 (f : Int32 → Value) : List Value → Option (List Value)
  | .int x :: r => some (f x :: r)
  | _ => none
def km_l1 (f : Int64 → Value) : List Value → Option (List Value)
  | .long x :: r => some (f x :: r)
  | _ => none
def km_ii (f : Int32 → Int32 → Option Value) : List Value → Option (List Value)
  | .int y :: .int x :: r => match f x y with | some v => some (v :: r) | none => none
  | _ => none
def km_ll (f : Int64 → Int64 → Option Value) : List Value → Option (List Value)
  | .long y :: .long x :: r => match f x y with | some v => some (v :: r) | none => none
  | _ => none
def km_li (f : Int64 → Int32 → Option Value) : List Value → Option (List Value)
  | .int y :: .long x :: r => match f x y with | some v => some (v :: r) | none => none
  | _ => none
theorem km_i1_s {f : Int32 → Value} {st st' : List Value} (h : km_i1 f st = some st') : ∃ x r, st = .int x :: r ∧ st' = f x :: r := by
  unfold km_i1 at h
  split at h
  · exact ⟨_, _, rfl, (Option.some.inj h).symm⟩
  · cases h
theorem km_l1_s {f : Int64 → Value} {st st' : List Value} (h : km_l1 f st = some st') : ∃ x r, st = .long x :: r ∧ st' = f x :: r := by
  unfold km_l1 at h
  split at h
  · exact ⟨_, _, rfl, (Option.some.inj h).symm⟩
  · cases h
theorem km_ii_s {f : Int32 → Int32 → Option Value} {st st' : List Value} (h : km_ii f st = some st') : ∃ x y v r, st = .int y :: .int x :: r ∧ f x y = some v ∧ st' = v :: r := by
  unfold km_ii at h
  split at h
  · split at h
    · exact ⟨_, _, _, _, rfl, by assumption, (Option.some.inj h).symm⟩
    · cases h
  · cases h
theorem km_ll_s {f : Int64 → Int64 → Option Value} {st st' : List Value} (h : km_ll f st = some st') : ∃ x y v r, st = .long y :: .long x :: r ∧ f x y = some v ∧ st' = v :: r := by
  unfold km_ll at h
  split at h
  · split at h
    · exact ⟨_, _, _, _, rfl, by assumption, (Option.some.inj h).symm⟩
    · cases h
  · cases h
theorem km_li_s {f : Int64 → Int32 → Option Value} {st st' : List Value} (h : km_li f st = some st') : ∃ x y v r, st = .int y :: .long x :: r ∧ f x y = some v ∧ st' = v :: r := by
  unfold km_li at h
  split at h
  · split at h
    · exact ⟨_, _, _, _, rfl, by assumption, (Option.some.inj h).symm⟩
    · cases h
  · cases h
def km_dup : List Value → Option (List Value)
  | v :: r => if v.category = 1 then some (v :: v :: r) else none
  | _ => none
def km_dup2 : List Value → Option (List Value)
  | v :: w :: r => if v.category = 1 ∧ w.category = 1 then some (v :: w :: v :: w :: r) else none
  | _ => none
def km_pop : List Value → Option (List Value)
  | v :: r => if v.category = 1 then some r else none
  | _ => none
def km_psh1 (st : List Value) : Option Value → Option (List Value)
  | some (.int x) => some (.int x :: st)
  | some (.ref x) => some (.ref x :: st)
  | _ => none
def km_psh3 (st : List Value) : Option Value → Option (List Value)
  | some (.int x) => some (.int x :: st)
  | _ => none
def km_psh2 (st : List Value) : Option Value → Option (List Value)
  | some (.long x) => some (.long x :: st)
  | _ => none
/-- what touches the stack alone -/
def km_pure (c : Nat) (ins : KI) (st : List Value) : Option (List Value) :=
  match ins with
  | .iconst n => some (.int (Int32.ofInt n) :: st)
  | .bipush n => some (.int (Int8.ofInt n).toInt32 :: st)
  | .sipush n => some (.int (Int16.ofInt n).toInt32 :: st)
  | .lconst n => some (.long (Int64.ofNat (n : Nat)) :: st)
  | .ldc i => km_psh1 st (km_kc c i)
  | .ldc_w i => km_psh3 st (km_kc c i)
  | .ldc2_w i => km_psh2 st (km_kc c i)
  | .iadd => km_ii (fun x y => some (.int (x + y))) st
  | .isub => km_ii (fun x y => some (.int (x - y))) st
  | .imul => km_ii (fun x y => some (.int (x * y))) st
  | .iand => km_ii (fun x y => some (.int (x &&& y))) st
  | .ior => km_ii (fun x y => some (.int (x ||| y))) st
  | .ixor => km_ii (fun x y => some (.int (x ^^^ y))) st
  | .idiv => km_ii (fun x y => if y = 0 then none else some (.int (x / y))) st
  | .irem => km_ii (fun x y => if y = 0 then none else some (.int (x - x / y * y))) st
  | .ishl => km_ii (fun x y => some (.int (x <<< (y &&& 31)))) st
  | .ishr => km_ii (fun x y => some (.int (x >>> (y &&& 31)))) st
  | .iushr => km_ii (fun x y => some (.int (x.toUInt32 >>> (y.toUInt32 &&& Int32.toUInt32 31)).toInt32)) st
  | .ineg => km_i1 (fun x => .int (-x)) st
  | .i2l => km_i1 (fun x => .long x.toInt64) st
  | .i2b => km_i1 (fun x => .int x.toInt8.toInt32) st
  | .l2i => km_l1 (fun x => .int x.toInt32) st
  | .lneg => km_l1 (fun x => .long (-x)) st
  | .ladd => km_ll (fun x y => some (.long (x + y))) st
  | .lsub => km_ll (fun x y => some (.long (x - y))) st
  | .lmul => km_ll (fun x y => some (.long (x * y))) st
  | .land => km_ll (fun x y => some (.long (x &&& y))) st
  | .lor => km_ll (fun x y => some (.long (x ||| y))) st
  | .lxor => km_ll (fun x y => some (.long (x ^^^ y))) st
  | .ldiv => km_ll (fun x y => if y = 0 then none else some (.long (x / y))) st
  | .lrem => km_ll (fun x y => if y = 0 then none else some (.long (x - x / y * y))) st
  | .lcmp => km_ll (fun x y => some (.int (lg_cmp x y))) st
  | .lshl => km_li (fun x y => some (.long (x <<< (y.toInt64 &&& 63)))) st
  | .lshr => km_li (fun x y => some (.long (x >>> (y.toInt64 &&& 63)))) st
  | .dup => km_dup st
  | .dup2 => km_dup2 st
  | .pop => km_pop st
  | _ => none
def km_tg (pc : Nat) (off : Int) : Option Nat := if 0 ≤ (pc : Int) + off then some ((pc : Int) + off).toNat else none
theorem km_tg_s {pc tgt : Nat} {off : Int} (h : km_tg pc off = some tgt) : (pc : Int) + off = (tgt : Int) := by
  unfold km_tg at h
  split at h
  · have := Option.some.inj h; omega
  · cases h
def km_cmp : Jvm.ClassFile.Cond → Int32 → Int32 → Bool
  | .eq, x, y => decide (x = y)
  | .ne, x, y => decide (¬ x = y)
  | .lt, x, y => decide (x < y)
  | .ge, x, y => decide (y ≤ x)
  | .gt, x, y => decide (y < x)
  | .le, x, y => decide (x ≤ y)
/-- where it goes on -/
def km_jmp (pc : Nat) (ins : KI) (st : List Value) : Option (Nat × List Value) :=
  match ins with
  | .goto off => match km_tg pc off with | some t => some (t, st) | none => none
  | .ifCond c off => match km_tg pc off, st with
    | some t, .int x :: r => some (cond (km_cmp c x 0) t (pc + 3), r)
    | _, _ => none
  | .if_icmp c off => match km_tg pc off, st with
    | some t, .int y :: .int x :: r => some (cond (km_cmp c x y) t (pc + 3), r)
    | _, _ => none
  | .tableswitch dflt lo hi offs => match st with
    | .int x :: r => if x.toInt < lo ∨ hi < x.toInt then (match km_tg pc dflt with | some t => some (t, r) | none => none)
      else (match offs[(x.toInt - lo).toNat]? with | some off => (match km_tg pc off with | some t => some (t, r) | none => none) | none => none)
    | _ => none
  | _ => none
/-- what stands ahead of i, without a long that reaches into i -/
def km_clrk (ls : km_L) (k : Nat) : km_L := match ls[k]? with
  | some (some w) => cond (Nat.beq w.category 2) (ls.set k none) ls
  | _ => ls
def km_clr (ls : km_L) : Nat → km_L
  | 0 => ls
  | k + 1 => km_clrk ls k
def km_st1 (ls : km_L) (i : Nat) (v : Value) : Option km_L := cond (Nat.blt i ls.length) (some ((km_clr ls i).set i (some v))) none
def km_st2 (ls : km_L) (i : Nat) (v : Value) : Option km_L := cond (Nat.blt (i + 1) ls.length) (some (((km_clr ls i).set i (some v)).set (i + 1) none)) none
theorem km_clr_len (ls : km_L) (i : Nat) : (km_clr ls i).length = ls.length := by
  cases i with
  | zero => rfl
  | succ k =>
    show (km_clrk ls k).length = _
    unfold km_clrk
    split
    · rename_i w hw
      cases Nat.beq w.category 2
      · rfl
      · show (ls.set k none).length = _
        exact List.length_set
    · rfl
theorem km_clr_s {ls : km_L} {i j : Nat} {w : Value} (h : (km_clr ls i)[j]? = some (some w)) : ls[j]? = some (some w) ∧ ¬ (j + 1 = i ∧ w.category = 2) := by
  cases i with
  | zero => exact ⟨h, fun z => by omega⟩
  | succ k =>
    have h1 : (km_clrk ls k)[j]? = some (some w) := h
    clear h
    unfold km_clrk at h1
    split at h1
    · rename_i v hv
      cases hb : Nat.beq v.category 2 with
      | true =>
        rw [hb] at h1
        have h2 : (ls.set k none)[j]? = some (some w) := h1
        by_cases hj : k = j
        · subst hj
          exfalso
          have hl : k < ls.length := (List.getElem?_eq_some_iff.mp hv).1
          rw [List.getElem?_set_self hl] at h2
          cases Option.some.inj h2
        · rw [List.getElem?_set_ne hj] at h2
          exact ⟨h2, fun z => hj (by omega)⟩
      | false =>
        rw [hb] at h1
        have h2 : ls[j]? = some (some w) := h1
        refine ⟨h2, fun z => ?_⟩
        have e : j = k := by omega
        subst e
        rw [hv] at h2
        obtain rfl := Option.some.inj (Option.some.inj h2)
        rw [z.2] at hb
        cases hb
    · rename_i hv
      refine ⟨h1, fun z => ?_⟩
      have e : j = k := by omega
      subst e
      exact hv _ h1
def km_ldI (ls : km_L) (i : Nat) (st : List Value) : Option (km_L × List Value) := match ls[i]? with
  | some (some (.int x)) => some (ls, .int x :: st)
  | _ => none
def km_ldJ (ls : km_L) (i : Nat) (st : List Value) : Option (km_L × List Value) := match ls[i]? with
  | some (some (.long x)) => some (ls, .long x :: st)
  | _ => none
def km_ldA (ls : km_L) (i : Nat) (st : List Value) : Option (km_L × List Value) := match ls[i]? with
  | some (some (.ref x)) => some (ls, .ref x :: st)
  | _ => none
def km_stI (ls : km_L) (i : Nat) (st : List Value) : Option (km_L × List Value) := match st with
  | .int x :: r => (match km_st1 ls i (.int x) with | some ls' => some (ls', r) | none => none)
  | _ => none
def km_stA (ls : km_L) (i : Nat) (st : List Value) : Option (km_L × List Value) := match st with
  | .ref x :: r => (match km_st1 ls i (.ref x) with | some ls' => some (ls', r) | none => none)
  | _ => none
def km_stJ (ls : km_L) (i : Nat) (st : List Value) : Option (km_L × List Value) := match st with
  | .long x :: r => (match km_st2 ls i (.long x) with | some ls' => some (ls', r) | none => none)
  | _ => none
/-- loads and stores of locals -/
def km_loc (ins : KI) (ls : km_L) (st : List Value) : Option (km_L × List Value) :=
  match ins with
  | .iload i => km_ldI ls i st
  | .iload_n i => km_ldI ls (i : Nat) st
  | .lload i => km_ldJ ls i st
  | .lload_n i => km_ldJ ls (i : Nat) st
  | .aload i => km_ldA ls i st
  | .aload_n i => km_ldA ls (i : Nat) st
  | .istore i => km_stI ls i st
  | .istore_n i => km_stI ls (i : Nat) st
  | .lstore i => km_stJ ls i st
  | .lstore_n i => km_stJ ls (i : Nat) st
  | .astore i => km_stA ls i st
  | .astore_n i => km_stA ls (i : Nat) st
  | .iinc i n => match ls[i]? with
    | some (some (.int x)) => (match km_st1 ls i (.int (x + Int32.ofInt n)) with | some ls' => some (ls', st) | none => none)
    | _ => none
  | _ => none
def km_rd (L : km_M) (a kd i : Nat) : Option Value := match L[a]? with
  | some q => cond (Nat.beq q.1 kd && Nat.blt i q.2.1) (some (q.2.2 i)) none
  | none => none
def km_wr (L : km_M) (a kd i : Nat) (v : Value) : Option km_M := match L[a]? with
  | some q => cond (Nat.beq q.1 kd && Nat.blt i q.2.1) (some (L.set a (q.1, q.2.1, updV q.2.2 i v))) none
  | none => none
def km_Ty : Nat → Nat → FieldType
  | 0 => tyX0 | 1 => tyX1 | 2 => tyX2 | 3 => tyX3 | 4 => tyX4 | 5 => tyX5 | 6 => tyX6 | 7 => tyX7 | 8 => tyX8 | _ => tyX9
/-- what a field of a type may take -/
def km_fit : FieldType → Value → Bool
  | .int, .int _ => true
  | .boolean, .int x => decide (x = 0 ∨ x = 1)
  | .array _, .ref _ => true
  | .object _, .ref _ => true
  | _, _ => false
def km_aty : Nat → FieldType
  | 10 => .byte | 11 => .int | 12 => .long | 13 => .boolean | 14 => .object RX2 | 15 => .object RX5 | _ => .array .long
def km_or {α : Type} (a b : Option α) : Option α := match a with
  | some x => some x
  | none => b
def km_ar (L : km_M) (a kd : Nat) (i : Int32) : Option Value := if i < 0 then none else km_rd L a kd i.toNatClampNeg
def km_aw (L : km_M) (a kd : Nat) (i : Int32) (v : Value) : Option km_M := if i < 0 then none else km_wr L a kd i.toNatClampNeg v
def km_kd (L : km_M) (a k : Nat) : Bool := match L[a]? with
  | some q => Nat.beq q.1 k
  | none => false
def km_new (L : km_M) (r : List Value) (k n : Nat) (v : Nat → Value) : Option (List Value × km_M) :=
  cond (Nat.blt (L.length + 100) km_scr) (some (.ref L.length :: r, L ++ [(k, n, v)])) none
def km_cpy (f g : Nat → Value) (sp dp n : Nat) : Nat → Value := fun k => if dp ≤ k ∧ k < dp + n then f (sp + (k - dp)) else g k
def km_isI : Value → Bool
  | .int _ => true
  | _ => false
/-- the four texts: their bytes -/
def km_tx : Nat → List Nat
  | 0 => [114, 105, 110, 103] | 1 => [98, 114, 97, 105, 100] | 2 => [111, 118, 101, 114] | _ => [117, 110, 100, 101, 114]
/-- what reads and writes the memory; c: the class whose pool it is, it: whether it is a constructor; xs, Lx: the script -/
def km_mem (xs : Nat → Int32) (Lx : Nat) (c : Nat) (it : Bool) (ins : KI) (st : List Value) (L : km_M) : Option (List Value × km_M) :=
  match ins with
  | .getfield i => match st, km_fF km_F c i with
    | .ref a :: r, some (k, j, _) => (match km_rd L a k j with | some v => some (v :: r, L) | none => none)
    | _, _ => none
  | .putfield i => match st, km_fF km_F c i with
    | v :: .ref a :: r, some (k, j, _) => cond (km_fit (km_Ty k j) v && (!(km_X k j).2.2.2 || (it && Nat.beq k c))) (match km_wr L a k j v with | some L' => some (r, L') | none => none) none
    | _, _ => none
  | .iaload => match st with
    | .int i :: .ref a :: r => cond (Nat.beq a km_scr) (if i < 0 ∨ Lx ≤ i.toNatClampNeg then none else some (.int (xs i.toNatClampNeg) :: r, L))
        (match km_ar L a 11 i with | some v => some (v :: r, L) | none => none)
    | _ => none
  | .baload => match st with
    | .int i :: .ref a :: r => (match km_or (km_ar L a 10 i) (km_ar L a 13 i) with | some v => some (v :: r, L) | none => none)
    | _ => none
  | .laload => match st with
    | .int i :: .ref a :: r => (match km_ar L a 12 i with | some v => some (v :: r, L) | none => none)
    | _ => none
  | .aaload => match st with
    | .int i :: .ref a :: r => (match km_or (km_ar L a 14 i) (km_or (km_ar L a 15 i) (km_ar L a 16 i)) with | some v => some (v :: r, L) | none => none)
    | _ => none
  | .iastore => match st with
    | .int x :: .int i :: .ref a :: r => (match km_aw L a 11 i (.int x) with | some L' => some (r, L') | none => none)
    | _ => none
  | .bastore => match st with
    | .int x :: .int i :: .ref a :: r => (match km_or (km_aw L a 10 i (.int x.toInt8.toInt32)) (km_aw L a 13 i (.int (x &&& 1))) with | some L' => some (r, L') | none => none)
    | _ => none
  | .lastore => match st with
    | .long x :: .int i :: .ref a :: r => (match km_aw L a 12 i (.long x) with | some L' => some (r, L') | none => none)
    | _ => none
  | .aastore => match st with
    | .ref x :: .int i :: .ref a :: r => (match km_or (cond (km_kd L x 2) (km_aw L a 14 i (.ref x)) none) (cond (km_kd L x 5) (km_aw L a 15 i (.ref x)) none) with | some L' => some (r, L') | none => none)
    | _ => none
  | .arraylength => match st with
    | .ref a :: r => cond (Nat.beq a km_scr) (some (.int (Int32.ofNat Lx) :: r, L)) (match L[a]? with | some q => cond (Nat.blt 9 q.1 && Nat.blt q.1 17) (some (.int (Int32.ofNat q.2.1) :: r, L)) none | none => none)
    | _ => none
  | .new i => match km_fF km_W5 c i with
    | some (k, _, _) => cond (Nat.blt k 10) (km_new L st k (km_N k) (fun j => defaultValue (km_Ty k j))) none
    | none => none
  | .newarray t => match st with
    | .int n :: r => if n < 0 ∨ 60000000 < n.toNatClampNeg then none else
      match t with
      | .byte => km_new L r 10 n.toNatClampNeg (fun _ => .int 0)
      | .int => km_new L r 11 n.toNatClampNeg (fun _ => .int 0)
      | .long => km_new L r 12 n.toNatClampNeg (fun _ => .long 0)
      | .boolean => km_new L r 13 n.toNatClampNeg (fun _ => .int 0)
      | _ => none
    | _ => none
  | .anewarray i => match st, km_fF km_W5 c i with
    | .int n :: r, some (k, _, _) => if n < 0 ∨ 60000000 < n.toNatClampNeg then none else
      cond (Nat.beq k 2) (km_new L r 14 n.toNatClampNeg (fun _ => .null)) (cond (Nat.beq k 5) (km_new L r 15 n.toNatClampNeg (fun _ => .null)) none)
    | _, _ => none
  | .multianewarray i d => match st, km_fF km_W5 c i with
    | .int y :: .int x :: r, some (k, _, _) => if x < 0 ∨ 60 < x.toNatClampNeg ∨ y < 0 ∨ 60000000 < y.toNatClampNeg then none else
      cond (Nat.beq d 2 && Nat.beq k 16 && Nat.blt (L.length + 100) km_scr) (some (.ref L.length :: r, (L ++ ([(16, x.toNatClampNeg, fun j => Value.ref (L.length + 1 + j))] : km_M)) ++ (List.replicate x.toNatClampNeg (12, y.toNatClampNeg, fun _ => Value.long 0) : km_M))) none
    | _, _ => none
  | .invokespecial i => match st, km_fF km_I c i with
    | .ref _ :: r, some (4, _, _) => cond (Nat.ble ((r.map fun v => v.category).sum) 8) (some (r, L)) none
    | _, _ => none
  | .invokestatic i => match st, km_fF km_I c i with
    | .int n :: .int dp :: .ref b :: .int sp :: .ref a :: r, some (5, _, _) =>
      (match L[a]?, L[b]? with
       | some f, some g => if Nat.beq f.1 11 = true ∧ Nat.beq g.1 11 = true ∧ ¬ sp < 0 ∧ ¬ dp < 0 ∧ ¬ n < 0 ∧ sp.toNatClampNeg + n.toNatClampNeg ≤ f.2.1 ∧ dp.toNatClampNeg + n.toNatClampNeg ≤ g.2.1 ∧ ((r.map fun v => v.category).sum ≤ 8) ∧ ((List.range n.toNatClampNeg).all (fun i => km_isI (f.2.2 (sp.toNatClampNeg + i))) = true)
           then some (r, L.set b (11, g.2.1, km_cpy f.2.2 g.2.2 sp.toNatClampNeg dp.toNatClampNeg n.toNatClampNeg)) else none
       | _, _ => none)
    | _, _ => none
  | .invokevirtual i => match st, km_fF km_I c i with
    | .ref a :: r, some (6, _, _) => cond (Nat.blt km_scr a && Nat.blt a 1000005 && Nat.ble ((r.map fun v => v.category).sum) 8) (some (.int (Int32.ofNat (km_tx (a - 1000001)).length) :: r, L)) none
    | .int x :: .ref a :: r, some (7, _, _) => cond (Nat.blt km_scr a && Nat.blt a 1000005 && Nat.ble ((r.map fun v => v.category).sum) 8)
        (if x < 0 then none else match (km_tx (a - 1000001))[x.toNatClampNeg]? with | some b => some (.int (Int32.ofNat b) :: r, L) | none => none) none
    | _, _ => none
  | _ => none
/-- a return: what it answers -/
def km_ret (rt : Option FieldType) (ins : KI) (st : List Value) : Option (Option Value) :=
  match ins with
  | .ireturn => match st, rt with
    | [.int v], some .int => some (some (.int v))
    | [.int v], some .boolean => cond (decide (v = 0 ∨ v = 1)) (some (some (.int v))) none
    | _, _ => none
  | .lreturn => match st, rt with
    | [.long v], some .long => some (some (.long v))
    | _, _ => none
  | .areturn => match st, rt with
    | [.ref a], some (.object _) => some (some (.ref a))
    | _, _ => none
  | .return_ => match st, rt with
    | [], none => some none
    | _, _ => none
  | _ => none
def km_po (m : Nat) : Nat := match km_T[m]? with
  | some q => q.2.2.2.2.1
  | none => 99
def km_na (m : Nat) : Nat := match km_T[m]? with
  | some q => q.2.2.2.2.2.1
  | none => 0
def km_lay : List Value → km_L
  | [] => []
  | v :: t => if v.category = 2 then some v :: none :: km_lay t else some v :: km_lay t
def km_ent (mx : Nat) (as : List Value) : km_L := km_lay as ++ List.replicate (mx - (km_lay as).length) none
/-- a call: which method, with what, what stays on the stack -/
def km_inv (c : Nat) (ins : KI) (st : List Value) (L : km_M) : Option (Nat × List Value × List Value) :=
  match ins with
  | .invokestatic i => match km_fF km_I c i with
    | some (0, j, _) => cond (Nat.ble (km_na j) st.length && Nat.ble (((st.drop (km_na j)).map fun v => v.category).sum) 8) (some (j, (st.take (km_na j)).reverse, st.drop (km_na j))) none
    | _ => none
  | .invokevirtual i => match km_fF km_I c i with
    | some (1, j, _) => (match (st.take (km_na j)).reverse with
      | .ref a :: _ => cond (Nat.ble (km_na j) st.length && Nat.ble (((st.drop (km_na j)).map fun v => v.category).sum) 8 && km_kd L a (km_po j)) (some (j, (st.take (km_na j)).reverse, st.drop (km_na j))) none
      | _ => none)
    | _ => none
  | .invokespecial i => match km_fF km_I c i with
    | some (k, j, _) => cond (Nat.beq k 2 || Nat.beq k 3) (match (st.take (km_na j)).reverse with
      | .ref a :: _ => cond (Nat.ble (km_na j) st.length && Nat.ble (((st.drop (km_na j)).map fun v => v.category).sum) 8 && km_kd L a (km_po j)) (some (j, (st.take (km_na j)).reverse, st.drop (km_na j))) none
      | _ => none) none
    | _ => none
  | _ => none
def km_init (m : Nat) : Bool := match km_T[m]? with
  | some q => q.1.name == "<init>"
  | none => false
/-- THE RUN: fuel, how deep calls may go yet, method, place, locals, stack, memory -/
def km_run (xs : Nat → Int32) (Lx : Nat) : Nat → Nat → Nat → Nat → km_L → List Value → km_M → Option (Option Value × km_M)
  | 0, _, _, _, _, _, _ => none
  | f + 1, d, m, pc, ls, st, L =>
    match km_T[m]? with
    | none => none
    | some q =>
    match km_at q.2.2.2.2.2.2.2 pc with
    | none => none
    | some ins =>
    match km_pure q.2.2.2.2.1 ins st with
    | some st' => km_run xs Lx f d m (pc + km_len ins) ls st' L
    | none =>
    match km_loc ins ls st with
    | some (ls', st') => km_run xs Lx f d m (pc + km_len ins) ls' st' L
    | none =>
    match km_jmp pc ins st with
    | some (pc', st') => km_run xs Lx f d m pc' ls st' L
    | none =>
    match km_mem xs Lx q.2.2.2.2.1 (km_init m) ins st L with
    | some (st', L') => km_run xs Lx f d m (pc + km_len ins) ls st' L'
    | none =>
    match km_ret q.2.2.2.1 ins st with
    | some r => some (r, L)
    | none =>
    match km_inv q.2.2.2.2.1 ins st L with
    | none => none
    | some (j, as, rest) =>
    match d with
    | 0 => none
    | d' + 1 =>
    match km_T[j]? with
    | none => none
    | some qj =>
    match cond (Nat.ble (km_lay as).length qj.2.2.1) (km_run xs Lx f d' j 0 (km_ent qj.2.2.1 as) [] L) none with
    | none => none
    | some (r, L') => km_run xs Lx f d m (pc + 3) ls (r.toList ++ rest) L'
end
section
theorem km_psh_s {c i : Nat} {st st' : List Value} (h : km_psh1 st (km_kc c i) = some st') : ∃ v, km_kc c i = some v ∧ (∀ x, v ≠ .long x) ∧ st' = v :: st := by
  unfold km_psh1 at h
  split at h
  · exact ⟨_, by assumption, fun x q => (by cases q), (Option.some.inj h).symm⟩
  · exact ⟨_, by assumption, fun x q => (by cases q), (Option.some.inj h).symm⟩
  · cases h
theorem km_psh_w_s {c i : Nat} {st st' : List Value} (h : km_psh3 st (km_kc c i) = some st') : ∃ v, km_kc c i = some v ∧ (∃ x, v = .int x) ∧ st' = v :: st := by
  unfold km_psh3 at h
  split at h
  · exact ⟨_, by assumption, ⟨_, rfl⟩, (Option.some.inj h).symm⟩
  · cases h
theorem km_psh2_w_s {c i : Nat} {st st' : List Value} (h : km_psh2 st (km_kc c i) = some st') : ∃ v, km_kc c i = some v ∧ (∃ x, v = .long x) ∧ st' = v :: st := by
  unfold km_psh2 at h
  split at h
  · exact ⟨_, by assumption, ⟨_, rfl⟩, (Option.some.inj h).symm⟩
  · cases h
theorem km_dup_s {st st' : List Value} (h : km_dup st = some st') : ∃ v r, st = v :: r ∧ v.category = 1 ∧ st' = v :: v :: r := by
  unfold km_dup at h
  split at h
  · split at h
    · exact ⟨_, _, rfl, by assumption, (Option.some.inj h).symm⟩
    · cases h
  · cases h
theorem km_pop_s {st st' : List Value} (h : km_pop st = some st') : ∃ v, st = v :: st' ∧ v.category = 1 := by
  unfold km_pop at h
  split at h
  · split at h
    · obtain rfl := Option.some.inj h
      exact ⟨_, rfl, by assumption⟩
    · cases h
  · cases h
theorem km_dup2_s {st st' : List Value} (h : km_dup2 st = some st') : ∃ v w r, st = v :: w :: r ∧ v.category = 1 ∧ w.category = 1 ∧ st' = v :: w :: v :: w :: r := by
  unfold km_dup2 at h
  split at h
  · split at h
    · rename_i hc
      exact ⟨_, _, _, rfl, hc.1, hc.2, (Option.some.inj h).symm⟩
    · cases h
  · cases h
def km_cv (ad : Nat → Nat) : Value → Value
  | .ref a => .ref (ad a)
  | v => v
theorem km_cv_cat (ad : Nat → Nat) (v : Value) : (km_cv ad v).category = v.category := by cases v <;> rfl
theorem km_cv_sum (ad : Nat → Nat) (r : List Value) : ((r.map (km_cv ad)).map fun v => v.category) = r.map fun v => v.category := by
  rw [List.map_map]
  exact List.map_congr_left fun v _ => km_cv_cat ad v
theorem km_cb {α : Type} {b : Bool} {x y : Option α} {v : α} (h : cond b x y = some v) : (b = true ∧ x = some v) ∨ (b = false ∧ y = some v) := by
  cases b
  · exact Or.inr ⟨rfl, h⟩
  · exact Or.inl ⟨rfl, h⟩
theorem km_beq {a b : Nat} (h : Nat.beq a b = true) : a = b := Nat.eq_of_beq_eq_true h
def km_si : Nat → Nat
  | 0 => 48 | 1 => 54 | 2 => 56 | _ => 58
def km_st : Nat → String
  | 0 => "ring" | 1 => "braid" | 2 => "over" | _ => "under"
def km_kcP (c i : Nat) (v : Value) : Prop := (∃ x, v = .int x ∧ Cond.constant (km_R c) i x ∈ km_G) ∨ (∃ x, v = .long x ∧ Cond.constantLong (km_R c) i x ∈ km_G) ∨ (∃ j, j < 4 ∧ c = 7 ∧ i = km_si j ∧ v = .ref (1000001 + j))
set_option maxRecDepth 100000 in
theorem km_kc_ok {c i : Nat} {v : Value} (h : km_kc c i = some v) : km_kcP c i v := by
  have w0_55 : km_kcP 0 55 (.long 2) := Or.inr (Or.inl ⟨_, rfl, km_inG (i := 896) (by decide +kernel) (by decide +kernel)⟩)
  have w8_185 : km_kcP 8 185 (.int (-100000)) := Or.inl ⟨_, rfl, km_inG (i := 821) (by decide +kernel) (by decide +kernel)⟩
  have w8_231 : km_kcP 8 231 (.long (-1)) := Or.inr (Or.inl ⟨_, rfl, km_inG (i := 887) (by decide +kernel) (by decide +kernel)⟩)
  have w9_139 : km_kcP 9 139 (.long 27) := Or.inr (Or.inl ⟨_, rfl, km_inG (i := 1012) (by decide +kernel) (by decide +kernel)⟩)
  have w9_327 : km_kcP 9 327 (.int (-100000)) := Or.inl ⟨_, rfl, km_inG (i := 1409) (by decide +kernel) (by decide +kernel)⟩
  have w9_355 : km_kcP 9 355 (.long 2) := Or.inr (Or.inl ⟨_, rfl, km_inG (i := 1468) (by decide +kernel) (by decide +kernel)⟩)
  have w9_357 : km_kcP 9 357 (.long (-1)) := Or.inr (Or.inl ⟨_, rfl, km_inG (i := 1463) (by decide +kernel) (by decide +kernel)⟩)
  have w10_265 : km_kcP 10 265 (.int 1431655765) := Or.inl ⟨_, rfl, km_inG (i := 653) (by decide +kernel) (by decide +kernel)⟩
  have w10_266 : km_kcP 10 266 (.int 858993459) := Or.inl ⟨_, rfl, km_inG (i := 654) (by decide +kernel) (by decide +kernel)⟩
  have w10_267 : km_kcP 10 267 (.int 252645135) := Or.inl ⟨_, rfl, km_inG (i := 655) (by decide +kernel) (by decide +kernel)⟩
  have w7_48 : km_kcP 7 48 (.ref 1000001) := Or.inr (Or.inr ⟨0, by decide, rfl, rfl, rfl⟩)
  have w7_54 : km_kcP 7 54 (.ref 1000002) := Or.inr (Or.inr ⟨1, by decide, rfl, rfl, rfl⟩)
  have w7_56 : km_kcP 7 56 (.ref 1000003) := Or.inr (Or.inr ⟨2, by decide, rfl, rfl, rfl⟩)
  have w7_58 : km_kcP 7 58 (.ref 1000004) := Or.inr (Or.inr ⟨3, by decide, rfl, rfl, rfl⟩)
  unfold km_kc at h
  split at h
  · rcases km_cb h with ⟨hb, h⟩ | ⟨-, h⟩
    · obtain rfl := km_beq hb; obtain rfl := Option.some.inj h; exact w0_55
    cases h
  · rcases km_cb h with ⟨hb, h⟩ | ⟨-, h⟩
    · obtain rfl := km_beq hb; obtain rfl := Option.some.inj h; exact w7_48
    rcases km_cb h with ⟨hb, h⟩ | ⟨-, h⟩
    · obtain rfl := km_beq hb; obtain rfl := Option.some.inj h; exact w7_54
    rcases km_cb h with ⟨hb, h⟩ | ⟨-, h⟩
    · obtain rfl := km_beq hb; obtain rfl := Option.some.inj h; exact w7_56
    rcases km_cb h with ⟨hb, h⟩ | ⟨-, h⟩
    · obtain rfl := km_beq hb; obtain rfl := Option.some.inj h; exact w7_58
    cases h
  · rcases km_cb h with ⟨hb, h⟩ | ⟨-, h⟩
    · obtain rfl := km_beq hb; obtain rfl := Option.some.inj h; exact w8_185
    rcases km_cb h with ⟨hb, h⟩ | ⟨-, h⟩
    · obtain rfl := km_beq hb; obtain rfl := Option.some.inj h; exact w8_231
    cases h
  · rcases km_cb h with ⟨hb, h⟩ | ⟨-, h⟩
    · obtain rfl := km_beq hb; obtain rfl := Option.some.inj h; exact w9_139
    rcases km_cb h with ⟨hb, h⟩ | ⟨-, h⟩
    · obtain rfl := km_beq hb; obtain rfl := Option.some.inj h; exact w9_327
    rcases km_cb h with ⟨hb, h⟩ | ⟨-, h⟩
    · obtain rfl := km_beq hb; obtain rfl := Option.some.inj h; exact w9_355
    rcases km_cb h with ⟨hb, h⟩ | ⟨-, h⟩
    · obtain rfl := km_beq hb; obtain rfl := Option.some.inj h; exact w9_357
    cases h
  · rcases km_cb h with ⟨hb, h⟩ | ⟨-, h⟩
    · obtain rfl := km_beq hb; obtain rfl := Option.some.inj h; exact w10_265
    rcases km_cb h with ⟨hb, h⟩ | ⟨-, h⟩
    · obtain rfl := km_beq hb; obtain rfl := Option.some.inj h; exact w10_266
    rcases km_cb h with ⟨hb, h⟩ | ⟨-, h⟩
    · obtain rfl := km_beq hb; obtain rfl := Option.some.inj h; exact w10_267
    cases h
  · cases h
/-! the machine follows: what touches the stack alone -/
section KM1
variable {p : Program} {l : Launch} {e : Env} {R : Room} {s : State} {m : MethodId} {args : Array Value} {below : List Frame} {meth : Method} {c : Code} {H : Heap} {locs : List Loc} {cells slots : Nat} {Q : State → Prop}
variable {cc : ByteArray} {pc : Nat} {LS : Array Slot} {ad : Nat → Nat} {po : Nat}
theorem km_kc_sim (hx : p.tables.exec = Jvm.exec) (hb : c.code = cc) (hown : s.vm.findClass (km_R po) = some m.cls) (hG : ∀ w ∈ km_G, w.before args s = true) (hZ : ∀ j, j < 4 → vk_R RX7 (km_si j) (km_st j) (ad (1000001 + j)) s)
    {i : Nat} {v : Value} {r : List Value} (h : km_kc po i = some v) {ins : KI} (hi : (ins = .ldc i ∧ ∀ x, v ≠ .long x) ∨ (ins = .ldc_w i ∧ ∃ x, v = .int x) ∨ (ins = .ldc2_w i ∧ ∃ x, v = .long x)) (hd : decode cc pc = .ok (ins, km_len ins))
    (k : W p l e R s m args below meth c H locs cells slots Q (F0 m (pc + km_len ins) LS (km_cv ad v :: r))) : W p l e R s m args below meth c H locs cells slots Q (F0 m pc LS r) := by
  rcases km_kc_ok h with ⟨x, rfl, hw⟩ | ⟨x, rfl, hw⟩ | ⟨j, hj, rfl, rfl, rfl⟩
  · rcases hi with ⟨rfl, -⟩ | ⟨rfl, -⟩ | ⟨rfl, y, hy⟩
    · exact lv_ldc hx hb hown (hG _ hw) hd k
    · exact lv_ldcw hx hb hown (hG _ hw) hd k
    · cases hy
  · rcases hi with ⟨rfl, h2⟩ | ⟨rfl, y, hy⟩ | ⟨rfl, -⟩
    · exact absurd rfl (h2 x)
    · cases hy
    · exact lv_ldc2 hx hb hown (hG _ hw) hd k
  · rcases hi with ⟨rfl, -⟩ | ⟨rfl, y, hy⟩ | ⟨rfl, y, hy⟩
    · exact va_ldcS hx hb hown (hZ j hj) hd k
    · cases hy
    · cases hy
set_option maxHeartbeats 4000000 in
theorem km_pure_sim (hx : p.tables.exec = Jvm.exec) (hb : c.code = cc) (hown : s.vm.findClass (km_R po) = some m.cls) (hG : ∀ w ∈ km_G, w.before args s = true) (hZ : ∀ j, j < 4 → vk_R RX7 (km_si j) (km_st j) (ad (1000001 + j)) s)
    {ins : KI} {st st' : List Value} (h : km_pure po ins st = some st') (hd : decode cc pc = .ok (ins, km_len ins))
    (k : W p l e R s m args below meth c H locs cells slots Q (F0 m (pc + km_len ins) LS (st'.map (km_cv ad)))) : W p l e R s m args below meth c H locs cells slots Q (F0 m pc LS (st.map (km_cv ad))) := by
  cases ins <;> simp only [km_pure, reduceCtorEq] at h
  case iconst n => obtain rfl := Option.some.inj h; exact lv_iconst hx hb hd rfl k
  case bipush n => obtain rfl := Option.some.inj h; exact lv_bipush hx hb hd rfl k
  case sipush n => obtain rfl := Option.some.inj h; exact lv_sipush hx hb hd rfl k
  case lconst n => obtain rfl := Option.some.inj h; exact lv_lconst hx hb hd rfl k
  case ldc i =>
    obtain ⟨v, h1, hv, rfl⟩ := km_psh_s h
    exact km_kc_sim hx hb hown hG hZ h1 (Or.inl ⟨rfl, hv⟩) hd k
  case ldc_w i =>
    obtain ⟨v, h1, hv, rfl⟩ := km_psh_w_s h
    exact km_kc_sim hx hb hown hG hZ h1 (Or.inr (Or.inl ⟨rfl, hv⟩)) hd k
  case ldc2_w i =>
    obtain ⟨v, h1, hv, rfl⟩ := km_psh2_w_s h
    exact km_kc_sim hx hb hown hG hZ h1 (Or.inr (Or.inr ⟨rfl, hv⟩)) hd k
  case iadd =>
    obtain ⟨x, y, v, r, rfl, hv, rfl⟩ := km_ii_s h
    obtain rfl := Option.some.inj hv
    exact lv_iadd hx hb hd k
  case isub =>
    obtain ⟨x, y, v, r, rfl, hv, rfl⟩ := km_ii_s h
    obtain rfl := Option.some.inj hv
    exact lv_isub hx hb hd k
  case imul =>
    obtain ⟨x, y, v, r, rfl, hv, rfl⟩ := km_ii_s h
    obtain rfl := Option.some.inj hv
    exact lv_imul hx hb hd k
  case iand =>
    obtain ⟨x, y, v, r, rfl, hv, rfl⟩ := km_ii_s h
    obtain rfl := Option.some.inj hv
    exact lv_iand hx hb hd k
  case ior =>
    obtain ⟨x, y, v, r, rfl, hv, rfl⟩ := km_ii_s h
    obtain rfl := Option.some.inj hv
    exact lv_ior hx hb hd k
  case ixor =>
    obtain ⟨x, y, v, r, rfl, hv, rfl⟩ := km_ii_s h
    obtain rfl := Option.some.inj hv
    exact lv_ixor hx hb hd k
  case ishl =>
    obtain ⟨x, y, v, r, rfl, hv, rfl⟩ := km_ii_s h
    obtain rfl := Option.some.inj hv
    exact lv_ishl hx hb hd k
  case ishr =>
    obtain ⟨x, y, v, r, rfl, hv, rfl⟩ := km_ii_s h
    obtain rfl := Option.some.inj hv
    exact lv_ishr hx hb hd k
  case ladd =>
    obtain ⟨x, y, v, r, rfl, hv, rfl⟩ := km_ll_s h
    obtain rfl := Option.some.inj hv
    exact lv_ladd hx hb hd k
  case lsub =>
    obtain ⟨x, y, v, r, rfl, hv, rfl⟩ := km_ll_s h
    obtain rfl := Option.some.inj hv
    exact lv_lsub hx hb hd k
  case lmul =>
    obtain ⟨x, y, v, r, rfl, hv, rfl⟩ := km_ll_s h
    obtain rfl := Option.some.inj hv
    exact lv_lmul hx hb hd k
  case land =>
    obtain ⟨x, y, v, r, rfl, hv, rfl⟩ := km_ll_s h
    obtain rfl := Option.some.inj hv
    exact lv_land hx hb hd k
  case lor =>
    obtain ⟨x, y, v, r, rfl, hv, rfl⟩ := km_ll_s h
    obtain rfl := Option.some.inj hv
    exact lv_lor hx hb hd k
  case lxor =>
    obtain ⟨x, y, v, r, rfl, hv, rfl⟩ := km_ll_s h
    obtain rfl := Option.some.inj hv
    exact lv_lxor hx hb hd k
  case idiv =>
    obtain ⟨x, y, v, r, rfl, hv, rfl⟩ := km_ii_s h
    by_cases h0 : y = 0
    · rw [if_pos h0] at hv; cases hv
    · rw [if_neg h0] at hv
      obtain rfl := Option.some.inj hv
      exact lv_idiv hx hb hd h0 k
  case irem =>
    obtain ⟨x, y, v, r, rfl, hv, rfl⟩ := km_ii_s h
    by_cases h0 : y = 0
    · rw [if_pos h0] at hv; cases hv
    · rw [if_neg h0] at hv
      obtain rfl := Option.some.inj hv
      exact lv_irem hx hb hd h0 k
  case ldiv =>
    obtain ⟨x, y, v, r, rfl, hv, rfl⟩ := km_ll_s h
    by_cases h0 : y = 0
    · rw [if_pos h0] at hv; cases hv
    · rw [if_neg h0] at hv
      obtain rfl := Option.some.inj hv
      exact lv_ldiv hx hb hd h0 k
  case lrem =>
    obtain ⟨x, y, v, r, rfl, hv, rfl⟩ := km_ll_s h
    by_cases h0 : y = 0
    · rw [if_pos h0] at hv; cases hv
    · rw [if_neg h0] at hv
      obtain rfl := Option.some.inj hv
      exact lv_lrem hx hb hd h0 k
  case iushr =>
    obtain ⟨x, y, v, r, rfl, hv, rfl⟩ := km_ii_s h
    obtain rfl := Option.some.inj hv
    exact lv_iushr hx hb hd rfl k
  case lcmp =>
    obtain ⟨x, y, v, r, rfl, hv, rfl⟩ := km_ll_s h
    obtain rfl := Option.some.inj hv
    exact W.lcmp hx hb hd k
  case lshl =>
    obtain ⟨x, y, v, r, rfl, hv, rfl⟩ := km_li_s h
    obtain rfl := Option.some.inj hv
    exact lv_lshl hx hb hd rfl k
  case lshr =>
    obtain ⟨x, y, v, r, rfl, hv, rfl⟩ := km_li_s h
    obtain rfl := Option.some.inj hv
    exact lv_lshr hx hb hd rfl k
  case i2l =>
    obtain ⟨x, r, rfl, rfl⟩ := km_i1_s h
    exact lv_i2l hx hb hd rfl k
  case i2b =>
    obtain ⟨x, r, rfl, rfl⟩ := km_i1_s h
    exact lv_i2b hx hb hd rfl k
  case l2i =>
    obtain ⟨x, r, rfl, rfl⟩ := km_l1_s h
    exact lv_l2i hx hb hd rfl k
  case ineg =>
    obtain ⟨x, r, rfl, rfl⟩ := km_i1_s h
    exact lv_ineg hx hb hd k
  case lneg =>
    obtain ⟨x, r, rfl, rfl⟩ := km_l1_s h
    exact lv_lneg hx hb hd k
  case dup =>
    obtain ⟨v, r, rfl, hc, rfl⟩ := km_dup_s h
    exact lv_dup hx hb hd (by rw [km_cv_cat]; exact hc) k
  case pop =>
    obtain ⟨v, rfl, hc⟩ := km_pop_s h
    exact lv_pop hx hb hd (by rw [km_cv_cat]; exact hc) k
  case dup2 =>
    obtain ⟨v, w, r, rfl, hc, hc2, rfl⟩ := km_dup2_s h
    exact lv_dup2_11 hx hb hd (by rw [km_cv_cat]; exact hc) (by rw [km_cv_cat]; exact hc2) k
end KM1
end
section
/-! the machine follows: locals -/
def km_LS (ad : Nat → Nat) (LS : Array Slot) (ls : km_L) : Prop := lv_has LS ls.length [] ∧ ∀ (i : Nat) (v : Value), ls[i]? = some (some v) → LS[i]? = some (.val (km_cv ad v))
def km_en (ad : Nat → Nat) (ls : km_L) : List (Nat × Value) := ls.zipIdx.filterMap fun q => q.1.map fun v => (q.2, km_cv ad v)
theorem km_en_mem {ad : Nat → Nat} {ls : km_L} {i : Nat} {v : Value} (h : ls[i]? = some (some v)) : (i, km_cv ad v) ∈ km_en ad ls := by
  unfold km_en
  exact List.mem_filterMap.mpr ⟨(some v, i), List.mem_zipIdx_iff_getElem?.mpr h, rfl⟩
theorem km_en_out {ad : Nat → Nat} {ls : km_L} {q : Nat × Value} (h : q ∈ km_en ad ls) : ∃ v, ls[q.1]? = some (some v) ∧ q.2 = km_cv ad v := by
  unfold km_en at h
  obtain ⟨⟨x, i⟩, h1, h2⟩ := List.mem_filterMap.mp h
  have h3 := List.mem_zipIdx_iff_getElem?.mp h1
  cases x with
  | none => cases h2
  | some v =>
    have h4 := Option.some.inj h2
    subst h4
    exact ⟨v, h3, rfl⟩
theorem km_LS.has {ad : Nat → Nat} {LS : Array Slot} {ls : km_L} (h : km_LS ad LS ls) : lv_has LS ls.length (km_en ad ls) := by
  refine ⟨h.1.1, h.1.2.1, fun q hq => ?_⟩
  obtain ⟨v, h1, h2⟩ := km_en_out hq
  rw [h2]
  exact h.2 _ _ h1
theorem km_LS.of {ad : Nat → Nat} {LS : Array Slot} {ls : km_L} {n : Nat} {l : List (Nat × Value)} (h : lv_has LS n l) (hn : ls.length = n) (hl : ∀ (i : Nat) (v : Value), ls[i]? = some (some v) → (i, km_cv ad v) ∈ l) : km_LS ad LS ls := by
  subst hn
  exact ⟨⟨h.1, h.2.1, fun q hq => by cases hq⟩, fun i v hv => h.2.2 _ (hl i v hv)⟩
theorem km_st1_s {ad : Nat → Nat} {LS : Array Slot} {ls ls' : km_L} {i : Nat} {v : Value} (h : km_st1 ls i v = some ls') : i < ls.length ∧ ∀ LS' : Array Slot, lv_has LS' ls.length ((i, km_cv ad v) :: (km_en ad ls).filter (fun q => !(q.1 == i) && !(q.1 + 1 == i && q.2.category == 2))) → km_LS ad LS' ls' := by
  unfold km_st1 at h
  rcases km_cb h with ⟨hb, h2⟩ | ⟨-, h2⟩
  · have hi : i < ls.length := Nat.le_of_ble_eq_true hb
    refine ⟨hi, fun LS' h' => ?_⟩
    obtain rfl := Option.some.inj h2
    refine km_LS.of h' (by rw [List.length_set, km_clr_len]) fun j w hw => ?_
    by_cases hj : i = j
    · subst hj
      rw [List.getElem?_set_self (by rw [km_clr_len]; exact hi)] at hw
      obtain rfl := Option.some.inj (Option.some.inj hw)
      exact List.mem_cons_self
    · rw [List.getElem?_set_ne hj] at hw
      obtain ⟨hw, h2⟩ := km_clr_s hw
      refine List.mem_cons_of_mem _ (List.mem_filter.mpr ⟨km_en_mem hw, ?_⟩)
      have h3 : ¬ j = i := fun q => hj q.symm
      simp only [km_cv_cat]
      by_cases h4 : j + 1 = i
      · have h5 : ¬ w.category = 2 := fun q => h2 ⟨h4, q⟩
        simp [h3, h5]
      · simp [h3, h4]
  · cases h2
theorem km_st2_s {ad : Nat → Nat} {LS : Array Slot} {ls ls' : km_L} {i : Nat} {v : Value} (h : km_st2 ls i v = some ls') : i + 1 < ls.length ∧ ∀ LS' : Array Slot, lv_has LS' ls.length ((i, km_cv ad v) :: (km_en ad ls).filter (fun q => !(q.1 == i) && (!(q.1 == i + 1) && !(q.1 + 1 == i && q.2.category == 2)))) → km_LS ad LS' ls' := by
  unfold km_st2 at h
  rcases km_cb h with ⟨hb, h2⟩ | ⟨-, h2⟩
  · have hi : i + 1 < ls.length := Nat.le_of_ble_eq_true hb
    refine ⟨hi, fun LS' h' => ?_⟩
    obtain rfl := Option.some.inj h2
    refine km_LS.of h' (by rw [List.length_set, List.length_set, km_clr_len]) fun j w hw => ?_
    by_cases hj1 : i + 1 = j
    · subst hj1
      rw [List.getElem?_set_self (by rw [List.length_set, km_clr_len]; exact hi)] at hw
      cases Option.some.inj hw
    · rw [List.getElem?_set_ne hj1] at hw
      by_cases hj : i = j
      · subst hj
        rw [List.getElem?_set_self (by rw [km_clr_len]; omega)] at hw
        obtain rfl := Option.some.inj (Option.some.inj hw)
        exact List.mem_cons_self
      · rw [List.getElem?_set_ne hj] at hw
        obtain ⟨hw, h2⟩ := km_clr_s hw
        refine List.mem_cons_of_mem _ (List.mem_filter.mpr ⟨km_en_mem hw, ?_⟩)
        have h3 : ¬ j = i := fun q => hj q.symm
        have h6 : ¬ j = i + 1 := fun q => hj1 q.symm
        simp only [km_cv_cat]
        by_cases h4 : j + 1 = i
        · have h5 : ¬ w.category = 2 := fun q => h2 ⟨h4, q⟩
          simp [h3, h5, h6]
        · simp [h3, h4, h6]
  · cases h2
theorem km_ldI_s {ls ls' : km_L} {i : Nat} {st st' : List Value} (h : km_ldI ls i st = some (ls', st')) : ls' = ls ∧ ∃ x, ls[i]? = some (some (.int x)) ∧ st' = .int x :: st := by
  unfold km_ldI at h
  split at h
  · cases h; exact ⟨rfl, _, by assumption, rfl⟩
  · cases h
theorem km_ldJ_s {ls ls' : km_L} {i : Nat} {st st' : List Value} (h : km_ldJ ls i st = some (ls', st')) : ls' = ls ∧ ∃ x, ls[i]? = some (some (.long x)) ∧ st' = .long x :: st := by
  unfold km_ldJ at h
  split at h
  · cases h; exact ⟨rfl, _, by assumption, rfl⟩
  · cases h
theorem km_ldA_s {ls ls' : km_L} {i : Nat} {st st' : List Value} (h : km_ldA ls i st = some (ls', st')) : ls' = ls ∧ ∃ x, ls[i]? = some (some (.ref x)) ∧ st' = .ref x :: st := by
  unfold km_ldA at h
  split at h
  · cases h; exact ⟨rfl, _, by assumption, rfl⟩
  · cases h
theorem km_stI_s {ls ls' : km_L} {i : Nat} {st st' : List Value} (h : km_stI ls i st = some (ls', st')) : ∃ x, st = .int x :: st' ∧ km_st1 ls i (.int x) = some ls' := by
  unfold km_stI at h
  split at h
  · split at h
    · cases h; exact ⟨_, rfl, by assumption⟩
    · cases h
  · cases h
theorem km_stA_s {ls ls' : km_L} {i : Nat} {st st' : List Value} (h : km_stA ls i st = some (ls', st')) : ∃ x, st = .ref x :: st' ∧ km_st1 ls i (.ref x) = some ls' := by
  unfold km_stA at h
  split at h
  · split at h
    · cases h; exact ⟨_, rfl, by assumption⟩
    · cases h
  · cases h
theorem km_stJ_s {ls ls' : km_L} {i : Nat} {st st' : List Value} (h : km_stJ ls i st = some (ls', st')) : ∃ x, st = .long x :: st' ∧ km_st2 ls i (.long x) = some ls' := by
  unfold km_stJ at h
  split at h
  · split at h
    · cases h; exact ⟨_, rfl, by assumption⟩
    · cases h
  · cases h
section KM2
variable {p : Program} {l : Launch} {e : Env} {R : Room} {s : State} {m : MethodId} {args : Array Value} {below : List Frame} {meth : Method} {c : Code} {H : Heap} {locs : List Loc} {cells slots : Nat} {Q : State → Prop}
variable {cc : ByteArray} {pc : Nat} {LS : Array Slot} {ad : Nat → Nat} {po : Nat}
set_option maxHeartbeats 4000000 in
theorem km_loc_sim (hx : p.tables.exec = Jvm.exec) (hb : c.code = cc) {ls ls' : km_L} (hL : km_LS ad LS ls)
    {ins : KI} {st st' : List Value} (h : km_loc ins ls st = some (ls', st')) (hd : decode cc pc = .ok (ins, km_len ins))
    (k : ∀ LS' : Array Slot, km_LS ad LS' ls' → W p l e R s m args below meth c H locs cells slots Q (F0 m (pc + km_len ins) LS' (st'.map (km_cv ad)))) : W p l e R s m args below meth c H locs cells slots Q (F0 m pc LS (st.map (km_cv ad))) := by
  cases ins <;> simp only [km_loc, reduceCtorEq] at h
  case iload i =>
    obtain ⟨rfl, x, h1, rfl⟩ := km_ldI_s h
    exact lv_iload hx hb hd (hL.2 _ _ h1) (k LS hL)
  case iload_n i =>
    obtain ⟨rfl, x, h1, rfl⟩ := km_ldI_s h
    exact lv_iload_n hx hb hd rfl (hL.2 _ _ h1) (k LS hL)
  case lload i =>
    obtain ⟨rfl, x, h1, rfl⟩ := km_ldJ_s h
    exact lv_lload hx hb hd (hL.2 _ _ h1) (k LS hL)
  case lload_n i =>
    obtain ⟨rfl, x, h1, rfl⟩ := km_ldJ_s h
    exact lv_lload_n hx hb hd rfl (hL.2 _ _ h1) (k LS hL)
  case aload i =>
    obtain ⟨rfl, x, h1, rfl⟩ := km_ldA_s h
    exact lv_aload hx hb hd (hL.2 _ _ h1) (k LS hL)
  case aload_n i =>
    obtain ⟨rfl, x, h1, rfl⟩ := km_ldA_s h
    exact lv_aload_n hx hb hd rfl (hL.2 _ _ h1) (k LS hL)
  case istore i =>
    obtain ⟨x, rfl, h1⟩ := km_stI_s h
    obtain ⟨hi, h2⟩ := km_st1_s (ad := ad) (LS := LS) h1
    exact lv_istore hx hb hd hL.has hi rfl (fun LS' h' => k LS' (h2 LS' h'))
  case istore_n i =>
    obtain ⟨x, rfl, h1⟩ := km_stI_s h
    obtain ⟨hi, h2⟩ := km_st1_s (ad := ad) (LS := LS) h1
    exact lv_istore_n hx hb hd rfl hL.has hi rfl (fun LS' h' => k LS' (h2 LS' h'))
  case astore i =>
    obtain ⟨x, rfl, h1⟩ := km_stA_s h
    obtain ⟨hi, h2⟩ := km_st1_s (ad := ad) (LS := LS) h1
    exact lv_astore hx hb hd hL.has hi rfl (fun LS' h' => k LS' (h2 LS' h'))
  case astore_n i =>
    obtain ⟨x, rfl, h1⟩ := km_stA_s h
    obtain ⟨hi, h2⟩ := km_st1_s (ad := ad) (LS := LS) h1
    exact lv_astore_n hx hb hd rfl hL.has hi rfl (fun LS' h' => k LS' (h2 LS' h'))
  case lstore i =>
    obtain ⟨x, rfl, h1⟩ := km_stJ_s h
    obtain ⟨hi, h2⟩ := km_st2_s (ad := ad) (LS := LS) h1
    exact lv_lstore hx hb hd hL.has hi rfl (fun LS' h' => k LS' (h2 LS' h'))
  case lstore_n i =>
    obtain ⟨x, rfl, h1⟩ := km_stJ_s h
    obtain ⟨hi, h2⟩ := km_st2_s (ad := ad) (LS := LS) h1
    exact lv_lstore_n hx hb hd rfl hL.has hi rfl (fun LS' h' => k LS' (h2 LS' h'))
  case iinc i n =>
    split at h
    · rename_i x h0
      split at h
      · rename_i ls2 h1
        cases h
        obtain ⟨hi, h2⟩ := km_st1_s (ad := ad) (LS := LS) h1
        obtain ⟨q, hq⟩ := List.getElem?_of_mem (km_en_mem (ad := ad) h0)
        exact lv_iinc hx hb hd hL.has hq rfl hi rfl (fun LS' h' => k LS' (h2 LS' h'))
      · cases h
    · cases h
theorem km_go {b : Bool} {t u : Nat} {st : List Value} (k : W p l e R s m args below meth c H locs cells slots Q (F0 m (cond b t u) LS st)) : (b = true → W p l e R s m args below meth c H locs cells slots Q (F0 m t LS st)) ∧ (b = false → W p l e R s m args below meth c H locs cells slots Q (F0 m u LS st)) := by
  cases b
  · exact ⟨fun h => (by cases h), fun _ => k⟩
  · exact ⟨fun _ => k, fun h => (by cases h)⟩
set_option maxHeartbeats 4000000 in
theorem km_jmp_sim (hx : p.tables.exec = Jvm.exec) (hb : c.code = cc)
    {ins : KI} {st st' : List Value} {pc' : Nat} (h : km_jmp pc ins st = some (pc', st')) {n : Nat} (hd : decode cc pc = .ok (ins, n)) (hn : n = km_len ins ∨ km_len ins = 0)
    (k : W p l e R s m args below meth c H locs cells slots Q (F0 m pc' LS (st'.map (km_cv ad)))) : W p l e R s m args below meth c H locs cells slots Q (F0 m pc LS (st.map (km_cv ad))) := by
  cases ins <;> simp only [km_jmp, reduceCtorEq] at h
  case goto off =>
    obtain rfl : n = 3 := hn.elim id (fun h => by cases h)
    split at h
    · rename_i t ht
      cases h
      exact lv_goto hx hb hd (km_tg_s ht) k
    · cases h
  case ifCond cd off =>
    obtain rfl : n = 3 := hn.elim id (fun h => by cases h)
    split at h
    · rename_i t x r ht
      cases h
      obtain ⟨k1, k2⟩ := km_go k
      cases cd
      case eq => exact lv_if_eq hx hb hd (km_tg_s ht) (fun z => k1 (decide_eq_true z)) (fun z => k2 (decide_eq_false z))
      case ne => exact lv_if_ne hx hb hd (km_tg_s ht) (fun z => k1 (decide_eq_true z)) (fun z => k2 (decide_eq_false (fun q => q z)))
      case lt => exact lv_if_lt hx hb hd (km_tg_s ht) (fun z => k1 (decide_eq_true z)) (fun z => k2 (decide_eq_false z))
      case ge => exact lv_if_ge hx hb hd (km_tg_s ht) (fun z => k1 (decide_eq_true z)) (fun z => k2 (decide_eq_false z))
      case gt => exact lv_if_gt hx hb hd (km_tg_s ht) (fun z => k1 (decide_eq_true z)) (fun z => k2 (decide_eq_false z))
      case le => exact lv_if_le hx hb hd (km_tg_s ht) (fun z => k1 (decide_eq_true z)) (fun z => k2 (decide_eq_false z))
    · cases h
  case if_icmp cd off =>
    obtain rfl : n = 3 := hn.elim id (fun h => by cases h)
    split at h
    · rename_i t y x r ht
      cases h
      obtain ⟨k1, k2⟩ := km_go k
      cases cd
      case eq => exact lv_icmp_eq hx hb hd (km_tg_s ht) (fun z => k1 (decide_eq_true z)) (fun z => k2 (decide_eq_false z))
      case ne => exact lv_icmp_ne hx hb hd (km_tg_s ht) (fun z => k1 (decide_eq_true z)) (fun z => k2 (decide_eq_false (fun q => q z)))
      case lt => exact lv_icmp_lt hx hb hd (km_tg_s ht) (fun z => k1 (decide_eq_true z)) (fun z => k2 (decide_eq_false z))
      case ge => exact lv_icmp_ge hx hb hd (km_tg_s ht) (fun z => k1 (decide_eq_true z)) (fun z => k2 (decide_eq_false z))
      case gt => exact lv_icmp_gt hx hb hd (km_tg_s ht) (fun z => k1 (decide_eq_true z)) (fun z => k2 (decide_eq_false z))
      case le => exact lv_icmp_le hx hb hd (km_tg_s ht) (fun z => k1 (decide_eq_true z)) (fun z => k2 (decide_eq_false z))
    · cases h
  case tableswitch dflt lo hi offs =>
    split at h
    · rename_i x r
      split at h
      · rename_i h1
        split at h
        · rename_i t ht
          cases h
          exact lv_tableOut hx hb hd h1 (km_tg_s ht) k
        · cases h
      · rename_i h1
        split at h
        · rename_i off ho
          split at h
          · rename_i t ht
            cases h
            exact lv_tableIn hx hb hd (fun z => h1 (Or.inl z)) (fun z => h1 (Or.inr z)) ho (km_tg_s ht) k
          · cases h
        · cases h
    · cases h
end KM2
end
section
/-! the machine follows: the memory -/
theorem km_uin {k : Nat} (hk : k < 10) : ∀ w ∈ u_ws (km_R k) (km_X k) (km_N k), w ∈ km_G := by
  intro w hw
  obtain ⟨j, hj, rfl⟩ := List.mem_map.mp hw
  have h1 := List.all_eq_true.mp km_L_all k (List.mem_range.mpr hk)
  have h2 := List.all_eq_true.mp h1 j hj
  obtain ⟨e, he, h3⟩ := List.any_eq_true.mp h2
  rw [Bool.and_eq_true] at h3
  have e1 := km_beq h3.1
  have e2 := km_beq h3.2
  have h4 := List.all_eq_true.mp km_L_ok e he
  unfold km_okL at h4
  rw [Bool.and_eq_true] at h4
  rw [e1, e2] at h4
  exact km_inG (of_decide_eq_true h4.1) h4.2
theorem km_fld {c i k j pl : Nat} (h : km_fF km_F c i = some (k, j, pl)) : k < 10 ∧ j < km_N k ∧ (km_X k j).1 = km_R k ∧ (Cond.fieldLink (km_R c) i (km_R k) (km_X k j).2.1 (km_X k j).2.2.1) ∈ km_G := by
  have hm := km_fF_mem h
  have h1 := List.all_eq_true.mp km_F_ok _ hm
  have h2 := List.all_eq_true.mp km_F2_ok _ hm
  unfold km_okF at h1
  unfold km_okF2 at h2
  simp only [Bool.and_eq_true] at h1
  exact ⟨Nat.le_of_ble_eq_true h1.2, Nat.le_of_ble_eq_true h1.1.2, of_decide_eq_true h2, km_inG (of_decide_eq_true h1.1.1.1) h1.1.1.2⟩
theorem km_tyok {k : Nat} (hk : k < 10) : ∀ j, j < km_N k → parseFieldDescriptor (km_X k j).2.2.1 = some (km_Ty k j) := by
  rcases k with _ | _ | _ | _ | _ | _ | _ | _ | _ | _ | k
  · exact tyX0_ok
  · exact tyX1_ok
  · exact tyX2_ok
  · exact tyX3_ok
  · exact tyX4_ok
  · exact tyX5_ok
  · exact tyX6_ok
  · exact tyX7_ok
  · exact tyX8_ok
  · exact tyX9_ok
  · omega
theorem km_nm {k : Nat} (hk : k < 10) : ∀ a, a < km_N k → ∀ b, b < km_N k → a ≠ b → (km_X k a).2.1 ≠ (km_X k b).2.1 := by
  rcases k with _ | _ | _ | _ | _ | _ | _ | _ | _ | _ | k
  · exact nmX0
  · exact nmX1
  · exact nmX2
  · exact nmX3
  · exact nmX4
  · exact nmX5
  · exact nmX6
  · exact nmX7
  · exact nmX8
  · exact nmX9
  · omega
theorem km_fit_s {ty : FieldType} {v : Value} (ad : Nat → Nat) (h : km_fit ty v = true) : narrow ty (km_cv ad v) = km_cv ad v ∧ fits ty (km_cv ad v) = true := by
  unfold km_fit at h
  split at h
  · exact ⟨rfl, rfl⟩
  · rcases of_decide_eq_true h with rfl | rfl
    · exact ⟨rfl, rfl⟩
    · exact ⟨rfl, rfl⟩
  · exact ⟨rfl, rfl⟩
  · exact ⟨rfl, rfl⟩
  · cases h
theorem km_apart {args : Array Value} {s : State} {k : Nat} (hk : k < 10) {cC : ClassId} {iS : Nat → Nat} (hG : ∀ w ∈ km_G, w.before args s = true) (hK : u_Kn s (km_R k) (km_X k) (km_N k) cC iS) : ∀ x y, x < km_N k → y < km_N k → x ≠ y → iS x ≠ iS y := by
  intro x y hx hy hne
  obtain ⟨hS, -⟩ := hK
  obtain ⟨_, _, _, fa, hia, ea⟩ := hS x hx
  obtain ⟨_, _, _, fb, hib, eb⟩ := hS y hy
  rw [← ea, ← eb]
  refine u_apart (u_lays hG (km_uin hk) hx) (u_lays hG (km_uin hk) hy) hia hib ?_
  rw [(State.fieldFound?_type hia (km_tyok hk x hx)).1, (State.fieldFound?_type hib (km_tyok hk y hy)).1]
  exact km_nm hk x hx y hy hne
section KM3
variable {p : Program} {l : Launch} {e : Env} {R : Room} {s : State} {m : MethodId} {args : Array Value} {below : List Frame} {meth : Method} {c : Code} {H : Heap} {locs : List Loc} {cells slots : Nat} {Q : State → Prop}
variable {cc : ByteArray} {pc : Nat} {LS : Array Slot} {po : Nat}
theorem km_get (hx : p.tables.exec = Jvm.exec) (hb : c.code = cc) (hown : s.vm.findClass (km_R po) = some m.cls) (hG : ∀ w ∈ km_G, w.before args s = true)
    {i k j pl : Nat} (hf : km_fF km_F po i = some (k, j, pl)) {cC : ClassId} {iS : Nat → Nat} (hK : u_Kn s (km_R k) (km_X k) (km_N k) cC iS) {a : Nat} {V : Nat → Value} (hcell : t_OB a cC (km_N k) iS H V) {rest : List Value}
    (hd : decode cc pc = .ok (.getfield i, 3)) (kk : W p l e R s m args below meth c H locs cells slots Q (F0 m (pc + 3) LS (V j :: rest))) : W p l e R s m args below meth c H locs cells slots Q (F0 m pc LS (.ref a :: rest)) := by
  obtain ⟨hk, hj, hdc, hw⟩ := km_fld hf
  obtain ⟨cell, q1, q2, q3, q4⟩ := hcell
  obtain ⟨hS, hfc, kC, hkC, hkind⟩ := hK
  obtain ⟨cf, kf, fi, f, hi, hsl⟩ := hS j hj
  refine W.getf hx hb hown (hG _ hw) (by rw [hdc] at hi; exact hi) (u_facts hfc hkC (u_lays hG (km_uin hk) hj) hi).1 q1 (by rw [q3]; exact fun h => by cases h) (v := V j) ?_ rfl rfl hd kk
  rw [hsl, q4 j hj]
theorem km_put (hx : p.tables.exec = Jvm.exec) (hb : c.code = cc) (hown : s.vm.findClass (km_R po) = some m.cls) (hG : ∀ w ∈ km_G, w.before args s = true)
    {i k j pl : Nat} (hf : km_fF km_F po i = some (k, j, pl)) {cC : ClassId} {iS : Nat → Nat} (hK : u_Kn s (km_R k) (km_X k) (km_N k) cC iS) {a : Nat} {V : Nat → Value} (hcell : t_OB a cC (km_N k) iS H V) {v : Value} {rest : List Value}
    (hfin : (km_X k j).2.2.2 = false ∨ (meth.name = "<init>" ∧ k = po)) (hn : narrow (km_Ty k j) v = v ∧ fits (km_Ty k j) v = true)
    (hd : decode cc pc = .ok (.putfield i, 3)) (kk : ∀ (H1 : Heap) (x : Nat), t_OB a cC (km_N k) iS H1 (updV V j v) → H1.size = H.size → (∀ q : Nat, q ≠ a → H1[q]? = H[q]?) → W p l e R s m args below meth c H1 (locs ++ [⟨a, x⟩]) cells slots Q (F0 m (pc + 3) LS rest)) : W p l e R s m args below meth c H locs cells slots Q (F0 m pc LS (v :: .ref a :: rest)) := by
  obtain ⟨hk, hj, hdc, hw⟩ := km_fld hf
  have hap := km_apart hk hG hK
  obtain ⟨cell, q1, q2, q3, q4⟩ := hcell
  obtain ⟨hS, hfc, kC, hkC, hkind⟩ := hK
  obtain ⟨cf, kf, fi, f, hi, hsl⟩ := hS j hj
  have hst := (u_facts hfc hkC (u_lays hG (km_uin hk) hj) hi).1
  have hi' : s.fieldFound? (km_R k) (km_X k j).2.1 (km_X k j).2.2.1 = some (cf, kf, fi, f) := by rw [hdc] at hi; exact hi
  have hlay := hG _ (km_uin hk _ (u_in_lay hj))
  unfold u_lay at hlay
  cases hfn : (km_X k j).2.2.2 with
  | false =>
    rw [if_neg (by rw [hfn]; decide)] at hlay
    have h6 := u_store hfc hkC hkind hlay hi (km_tyok hk j hj) hn.1 hn.2
    refine W.putK hx hb (f := f) ⟨hown, hG _ hw, ⟨_, _, _, hi'⟩, hst⟩ (by rw [q2]; exact h6) q1 q3 (by rw [hsl]; exact k2_hasslot (q4 j hj)) rfl rfl hd fun H' e1 e2 e3 => ?_
    rw [hsl] at e1 ⊢
    exact kk H' _ ⟨_, e1, q2, q3, t_set q4 hap hj v⟩ e2 e3
  | true =>
    rw [if_pos hfn] at hlay
    obtain ⟨hin2, rfl⟩ := hfin.resolve_left (by rw [hfn]; decide)
    have hcf : m.cls = cf := by
      obtain ⟨_, _, c', _, _, _, -, -, hf', -, -, -, hown2, -⟩ := Cond.laysFinal_spec hlay
      have e1 : c' = cf := by have := hi.symm.trans hf'; simp at this; exact this.1.symm
      rw [hdc] at hown2
      rw [← e1]; exact Option.some.inj (hown.symm.trans hown2)
    have h6 := u_fits hfc hkC hkind (Or.inr hlay) hi (km_tyok hk j hj) hn.1 hn.2
    refine W.putFinK hx hb hown (hG _ hw) hi' hst hcf hin2 (by rw [q2]; exact h6) q1 q3 (by rw [hsl]; exact k2_hasslot (q4 j hj)) rfl rfl hd fun H' e1 e2 e3 => ?_
    rw [hsl] at e1 ⊢
    exact kk H' _ ⟨_, e1, q2, q3, t_set q4 hap hj v⟩ e2 e3
end KM3
/-- the world: addresses, the script, the classes -/
abbrev km_D : Type := (Nat → ClassId) × (Nat → Nat → Nat) × (Nat → Nat) × Nat × Nat × Nat × (Nat → Int32)
def km_dC (D : km_D) : Nat → ClassId := D.1
def km_dI (D : km_D) : Nat → Nat → Nat := D.2.1
def km_ad (D : km_D) : Nat → Nat := D.2.2.1
def km_bs (D : km_D) : Nat := D.2.2.2.1
def km_b (D : km_D) : Nat := D.2.2.2.2.1
def km_Lx (D : km_D) : Nat := D.2.2.2.2.2.1
def km_xs (D : km_D) : Nat → Int32 := D.2.2.2.2.2.2
def km_Dok (D : km_D) : Prop := (∀ a, a < km_scr → km_ad D a = km_bs D + a) ∧ km_ad D km_scr = km_b D ∧ km_b D < km_bs D ∧ km_Lx D < 2 ^ 31
def km_cell (D : km_D) (U : State) (q : km_C) (a : Nat) (H : Heap) : Prop :=
  (q.1 < 10 → q.2.1 = km_N q.1 ∧ t_OB a (km_dC D q.1) (km_N q.1) (km_dI D q.1) H (fun j => km_cv (km_ad D) (q.2.2 j))) ∧
  (¬ q.1 < 10 → q.1 < 17 ∧ q.2.1 < 2 ^ 31 ∧ ∃ cA : ClassId, ArrOfT U cA (km_aty q.1) ∧ va_RA U cA (km_aty q.1) ∧ H[a]? = some (arrV cA q.2.1 (fun j => km_cv (km_ad D) (q.2.2 j))))
def km_P (D : km_D) (U : State) (L : km_M) (H : Heap) : Prop := ∀ (a : Nat) (q : km_C), L[a]? = some q → km_cell D U q (km_bs D + a) H
theorem km_cell.kept {D : km_D} {U : State} {q : km_C} {a : Nat} {H H1 : Heap} (h : km_cell D U q a H) (hq : H1[a]? = H[a]?) : km_cell D U q a H1 :=
  ⟨fun z => ⟨(h.1 z).1, (h.1 z).2.kept hq⟩, fun z => ⟨(h.2 z).1, (h.2 z).2.1, by obtain ⟨cA, h1, h2, h3⟩ := (h.2 z).2.2; exact ⟨cA, h1, h2, hq.trans h3⟩⟩⟩
theorem km_cell.moved {D : km_D} {u U : State} {q : km_C} {a : Nat} {H : Heap} (hv : u.vm.Alike U.vm) (h : km_cell D u q a H) : km_cell D U q a H :=
  ⟨h.1, fun z => ⟨(h.2 z).1, (h.2 z).2.1, by obtain ⟨cA, h1, h2, h3⟩ := (h.2 z).2.2; exact ⟨cA, arrOfT_moved hv h1, h2.moved hv, h3⟩⟩⟩
theorem km_P.moved {D : km_D} {u U : State} {L : km_M} {H : Heap} (hv : u.vm.Alike U.vm) (h : km_P D u L H) : km_P D U L H := fun a q hq => (h a q hq).moved hv
theorem km_P.set {D : km_D} {U : State} {L : km_M} {H H1 : Heap} {a : Nat} {q : km_C} (h : km_P D U L H) (hq : km_cell D U q (km_bs D + a) H1) (ho : ∀ x : Nat, x ≠ km_bs D + a → H1[x]? = H[x]?) : km_P D U (L.set a q) H1 := by
  intro b r hr
  by_cases hb : a = b
  · subst hb
    have hl : a < L.length := by
      rcases Nat.lt_or_ge a L.length with h1 | h1
      · exact h1
      · rw [List.getElem?_eq_none (by rw [List.length_set]; exact h1)] at hr; cases hr
    rw [List.getElem?_set_self hl] at hr
    obtain rfl := Option.some.inj hr
    exact hq
  · rw [List.getElem?_set_ne hb] at hr
    exact (h b r hr).kept (ho _ (by omega))
theorem km_P.push {D : km_D} {U : State} {L : km_M} {H H1 : Heap} {q : km_C} (h : km_P D U L H) (hz : H.size = km_bs D + L.length) (hq : km_cell D U q H.size H1) (ho : ∀ x : Nat, x < H.size → H1[x]? = H[x]?) : km_P D U (L ++ [q]) H1 := by
  intro b r hr
  rcases Nat.lt_or_ge b L.length with hb | hb
  · rw [List.getElem?_append_left hb] at hr
    exact (h b r hr).kept (ho _ (by omega))
  · rw [List.getElem?_append_right hb] at hr
    rcases Nat.eq_zero_or_pos (b - L.length) with h0 | h0
    · rw [h0] at hr
      obtain rfl := Option.some.inj hr
      rw [show km_bs D + b = H.size by omega]
      exact hq
    · rw [List.getElem?_eq_none (show [q].length ≤ b - L.length from h0)] at hr
      cases hr
end
section
def km_AOA (U : State) : Prop := (Cond.arrayOver (.array .long)).before #[] U = true
def km_sl (L : km_M) : Nat := (L.map fun q => q.2.1).sum
/-- what a state's tables say -/
def km_K (D : km_D) (U : State) : Prop :=
  (∀ k, k < 10 → u_Kn U (km_R k) (km_X k) (km_N k) (km_dC D k) (km_dI D k)) ∧ (∀ j, j < 4 → vk_R RX7 (km_si j) (km_st j) (km_ad D (1000001 + j)) U) ∧
  (∀ w ∈ km_Nw, va_Nw w U) ∧ va_AO RX2 U ∧ va_AO RX5 U ∧ km_AOA U
def km_txB : List (List Int32) := [[114, 105, 110, 103], [98, 114, 97, 105, 100], [111, 118, 101, 114], [117, 110, 100, 101, 114]]
/-- the four texts, and what their methods read -/
def km_Str (D : km_D) (U : State) (H : Heap) : Prop := (∃ adV : Nat → Nat, vk_S 4 [4, 5, 4, 5] km_txB (fun i => km_ad D (1000001 + i)) adV (fun q => km_bs D ≤ q) U H) ∧
  va_Z "java/lang/String" "COMPACT_STRINGS" "Z" (.int 1) (fun q => km_bs D ≤ q) U H ∧ va_Zq "jdk/internal/util/Preconditions" "SIOOBE_FORMATTER" "Ljava/util/function/BiFunction;" (fun q => km_bs D ≤ q) U H
theorem km_Str.kept {D : km_D} {U : State} {H H1 : Heap} (h : km_Str D U H) (hq : ∀ a : Nat, a < H.size → ¬ km_bs D ≤ a → H1[a]? = H[a]?) : km_Str D U H1 := by
  obtain ⟨⟨adV, h1⟩, h2, h3⟩ := h
  exact ⟨⟨adV, h1.kept hq⟩, h2.kept hq, h3.kept hq⟩
theorem km_Str.moved {D : km_D} {u U : State} {H : Heap} (hv : u.vm.Alike U.vm) (h : km_Str D u H) : km_Str D U H := by
  obtain ⟨⟨adV, h1⟩, h2, h3⟩ := h
  exact ⟨⟨adV, h1.moved hv⟩, h2.moved hv, h3.moved hv⟩
/-- the heap -/
def km_Wd (D : km_D) (s : State) (H0 H : Heap) (L : km_M) (locs : List Loc) : Prop :=
  km_P D s L H ∧ H.size = km_bs D + L.length ∧ L.length ≤ km_scr ∧ va_X (km_b D) (km_Lx D) (km_xs D) s H ∧ km_Str D s H ∧ (∀ q : Nat, q < km_bs D → H[q]? = H0[q]?) ∧ ∀ x ∈ locs, km_bs D ≤ x.base
theorem km_Wd.wr {D : km_D} {s : State} {H0 H H1 : Heap} {L : km_M} {locs : List Loc} {a x : Nat} {q : km_C} (w : km_Wd D s H0 H L locs) (hq : km_cell D s q (km_bs D + a) H1) (hz : H1.size = H.size) (ho : ∀ x : Nat, x ≠ km_bs D + a → H1[x]? = H[x]?) (hb : km_b D < km_bs D) : km_Wd D s H0 H1 (L.set a q) (locs ++ [⟨km_bs D + a, x⟩]) := by
  obtain ⟨w1, w2, w3, w4, w5, w6, w7⟩ := w
  have hk : ∀ y : Nat, y < km_bs D → H1[y]? = H[y]? := fun y hy => ho y (by omega)
  refine ⟨w1.set hq ho, by rw [hz, w2, List.length_set], by rw [List.length_set]; exact w3, w4.kept (hk _ hb), w5.kept (fun y _ h2 => hk y (by omega)), fun y hy => (hk y hy).trans (w6 y hy), fun y hy => ?_⟩
  rcases List.mem_append.mp hy with h | h
  · exact w7 y h
  · rw [List.mem_singleton.mp h]
    exact Nat.le_add_right _ _
theorem km_Wd.push {D : km_D} {s : State} {H0 H H1 : Heap} {L : km_M} {locs : List Loc} {q : km_C} (w : km_Wd D s H0 H L locs) (hl : L.length < km_scr) (hq : km_cell D s q H.size H1) (hz : H1.size = H.size + 1) (ho : ∀ x : Nat, x < H.size → H1[x]? = H[x]?) (hb : km_b D < km_bs D) : km_Wd D s H0 H1 (L ++ [q]) locs := by
  obtain ⟨w1, w2, w3, w4, w5, w6, w7⟩ := w
  refine ⟨w1.push w2 hq ho, by rw [hz, w2, List.length_append]; rfl, by rw [List.length_append]; exact hl, w4.kept (ho _ (by omega)), w5.kept (fun y h1 _ => ho y h1), fun y hy => (ho y (by omega)).trans (w6 y hy), w7⟩
theorem km_updV {ad : Nat → Nat} (f : Nat → Value) (i : Nat) (v : Value) : (fun j => km_cv ad (updV f i v j)) = updV (fun j => km_cv ad (f j)) i (km_cv ad v) := by
  funext j
  unfold updV
  by_cases h : j = i
  · rw [if_pos h, if_pos h]
  · rw [if_neg h, if_neg h]
theorem km_rd_s {L : km_M} {a kd i : Nat} {v : Value} (h : km_rd L a kd i = some v) : ∃ n f, L[a]? = some (kd, n, f) ∧ i < n ∧ v = f i := by
  unfold km_rd at h
  split at h
  · rename_i q hq
    rcases km_cb h with ⟨hb, h2⟩ | ⟨-, h2⟩
    · clear h
      rw [Bool.and_eq_true] at hb
      have e := km_beq hb.1
      subst e
      exact ⟨q.2.1, q.2.2, hq, Nat.le_of_ble_eq_true hb.2, (Option.some.inj h2).symm⟩
    · cases h2
  · cases h
theorem km_wr_s {L L' : km_M} {a kd i : Nat} {v : Value} (h : km_wr L a kd i v = some L') : ∃ n f, L[a]? = some (kd, n, f) ∧ i < n ∧ L' = L.set a (kd, n, updV f i v) := by
  unfold km_wr at h
  split at h
  · rename_i q hq
    rcases km_cb h with ⟨hb, h2⟩ | ⟨-, h2⟩
    · clear h
      rw [Bool.and_eq_true] at hb
      have e := km_beq hb.1
      subst e
      exact ⟨q.2.1, q.2.2, hq, Nat.le_of_ble_eq_true hb.2, (Option.some.inj h2).symm⟩
    · cases h2
  · cases h
theorem km_ar_s {L : km_M} {a kd : Nat} {i : Int32} {v : Value} (h : km_ar L a kd i = some v) : ¬ i < 0 ∧ ∃ n f, L[a]? = some (kd, n, f) ∧ i.toNatClampNeg < n ∧ v = f i.toNatClampNeg := by
  unfold km_ar at h
  split at h
  · cases h
  · exact ⟨by assumption, km_rd_s h⟩
theorem km_aw_s {L L' : km_M} {a kd : Nat} {i : Int32} {v : Value} (h : km_aw L a kd i v = some L') : ¬ i < 0 ∧ ∃ n f, L[a]? = some (kd, n, f) ∧ i.toNatClampNeg < n ∧ L' = L.set a (kd, n, updV f i.toNatClampNeg v) := by
  unfold km_aw at h
  split at h
  · cases h
  · exact ⟨by assumption, km_wr_s h⟩
theorem km_or_s {α : Type} {a b : Option α} {v : α} (h : km_or a b = some v) : a = some v ∨ b = some v := by
  unfold km_or at h
  cases a with
  | none => exact Or.inr h
  | some x => exact Or.inl h
theorem km_lt {L : km_M} {a : Nat} {q : km_C} (h : L[a]? = some q) : a < L.length := (List.getElem?_eq_some_iff.mp h).1
theorem km_sl_set {L : km_M} {a : Nat} {k n : Nat} {f g : Nat → Value} (h : L[a]? = some (k, n, f)) : km_sl (L.set a (k, n, g)) = km_sl L := by
  unfold km_sl
  rw [List.map_set]
  have : (L.map fun q => q.2.1).set a n = L.map fun q => q.2.1 := by
    apply List.ext_getElem?
    intro j
    by_cases hj : a = j
    · subst hj
      rw [List.getElem?_set_self (by rw [List.length_map]; exact km_lt h), List.getElem?_map, h]
      rfl
    · rw [List.getElem?_set_ne hj]
  exact congrArg List.sum this
section KM4
variable {p : Program} {l : Launch} {e : Env} {R : Room} {s : State} {m : MethodId} {args : Array Value} {below : List Frame} {meth : Method} {c : Code} {H : Heap} {locs : List Loc} {cells slots : Nat} {Q : State → Prop}
variable {cc : ByteArray} {pc nL : Nat} {LS : Array Slot} {po : Nat} {D : km_D}
/-- what holds all through a method -/
def km_Cx (D : km_D) (p : Program) (s : State) (m : MethodId) (args : Array Value) (c : Code) (cc : ByteArray) (nL po : Nat) : Prop :=
  p.tables.exec = Jvm.exec ∧ c.code = cc ∧ c.maxLocals = nL ∧ s.vm.findClass (km_R po) = some m.cls ∧ (∀ w ∈ km_G, w.before args s = true) ∧ km_K D s ∧ km_Dok D
abbrev km_Go (p : Program) (l : Launch) (e : Env) (R : Room) (s : State) (m : MethodId) (args : Array Value) (below : List Frame) (meth : Method) (c : Code) (D : km_D) (H : Heap) (locs : List Loc) (L : km_M) (c0 s0 : Nat) (Q : State → Prop) (pc : Nat) (LS : Array Slot) (st : List Value) : Prop :=
  W p l e R s m args below meth c H locs (L.length - c0) (km_sl L - s0) Q (F0 m pc LS (st.map (km_cv (km_ad D))))
theorem km_adr (hD : km_Dok D) {H0 : Heap} {L : km_M} (w : km_Wd D s H0 H L locs) {a : Nat} {q : km_C} (h : L[a]? = some q) : km_ad D a = km_bs D + a := hD.1 a (Nat.lt_of_lt_of_le (km_lt h) w.2.2.1)
theorem km_arr {H0 : Heap} {L : km_M} (w : km_Wd D s H0 H L locs) {a k n : Nat} {f : Nat → Value} (h : L[a]? = some (k, n, f)) (hk : 10 ≤ k) : n < 2 ^ 31 ∧ ∃ cA : ClassId, ArrOfT s cA (km_aty k) ∧ va_RA s cA (km_aty k) ∧ H[km_bs D + a]? = some (arrV cA n (fun j => km_cv (km_ad D) (f j))) :=
  ((w.1 a _ h).2 (Nat.not_lt.mpr hk)).2
theorem km_inn {i : Int32} {n : Nat} (h0 : ¬ i < 0) (h : i.toNatClampNeg < n) : ¬ (i < 0 ∨ n ≤ i.toNatClampNeg) := fun z => z.elim h0 (fun z => absurd z (Nat.not_le.mpr h))
theorem km_cellA {k n : Nat} {f : Nat → Value} {a : Nat} {cA : ClassId} {H1 : Heap} {v : Value} {j : Nat} (hk : ¬ k < 10) (hk2 : k < 17) (hn : n < 2 ^ 31) (h1 : ArrOfT s cA (km_aty k)) (h2 : va_RA s cA (km_aty k)) (h3 : H1[a]? = some ((arrV cA n (fun j => km_cv (km_ad D) (f j))).setSlot j (km_cv (km_ad D) v))) : km_cell D s (k, n, updV f j v) a H1 := by
  refine ⟨fun z => absurd z hk, fun _ => ⟨hk2, hn, cA, h1, h2, ?_⟩⟩
  rw [h3, arrV_store]
  show _ = some (arrV cA n (fun i => km_cv (km_ad D) (updV f j v i)))
  rw [km_updV]
set_option maxHeartbeats 4000000 in
/-- reads and writes of arrays, fields -/
theorem km_mem_sim1 (X : km_Cx D p s m args c cc nL po) {it : Bool} (hit : it = true → meth.name = "<init>") {L L' : km_M} {H0 : Heap} {c0 s0 : Nat} (w : km_Wd D s H0 H L locs)
    {ins : KI} {st st' : List Value} (hi : ins = .iaload ∨ ins = .baload ∨ ins = .laload ∨ ins = .aaload ∨ ins = .iastore ∨ ins = .bastore ∨ ins = .lastore ∨ ins = .arraylength ∨ (∃ i, ins = .getfield i) ∨ (∃ i, ins = .putfield i)) (h : km_mem (km_xs D) (km_Lx D) po it ins st L = some (st', L')) (hd : decode cc pc = .ok (ins, km_len ins))
    (k : ∀ (H' : Heap) (locs' : List Loc), km_Wd D s H0 H' L' locs' → km_Go p l e R s m args below meth c D H' locs' L' c0 s0 Q (pc + km_len ins) LS st') : km_Go p l e R s m args below meth c D H locs L c0 s0 Q pc LS st := by
  obtain ⟨hx, hb, hml, hown, hG, hK, hD⟩ := X
  rcases hi with rfl | rfl | rfl | rfl | rfl | rfl | rfl | rfl | ⟨i, rfl⟩ | ⟨i, rfl⟩ <;> simp only [km_mem] at h
  · -- iaload
    split at h
    · rename_i i a r
      rcases km_cb h with ⟨hbq, h2⟩ | ⟨-, h2⟩
      · clear h
        split at h2
        · cases h2
        · rename_i hin
          have e := km_beq hbq
          subst e
          cases h2
          obtain ⟨scr, q1, q2, q3, q4, q5⟩ := w.2.2.2.1
          have hlt : i.toNatClampNeg < km_Lx D := Nat.not_le.mp fun z => hin (Or.inr z)
          have k0 := k H locs w
          have ea : km_cv (km_ad D) (.ref km_scr) = .ref (km_b D) := by show Value.ref _ = _; rw [hD.2.1]
          unfold km_Go at k0 ⊢
          simp only [List.map_cons, ea] at k0 ⊢
          exact W.iald (v := .int (km_xs D i.toNatClampNeg)) hx hb q1 q2 q3 (by rw [q4]; exact hin) (q5 _ hlt) rfl rfl hd k0
      · clear h
        split at h2
        · rename_i v hv
          cases h2
          obtain ⟨h0, n, f, hL, hn, rfl⟩ := km_ar_s hv
          obtain ⟨hn2, cA, a1, a2, a3⟩ := km_arr w hL (by decide)
          have k0 := k H locs w
          have ea : km_cv (km_ad D) (.ref a) = .ref (km_bs D + a) := by show Value.ref _ = _; rw [km_adr hD w hL]
          unfold km_Go at k0 ⊢
          simp only [List.map_cons, ea] at k0 ⊢
          exact W.iald hx hb a3 (a1 _ _) (fun z => by cases z) (by rw [arrV_size]; exact km_inn h0 hn) (arrV_read _ _ hn) rfl rfl hd k0
        · cases h2
    · cases h
  · -- baload
    split at h
    · rename_i i a r
      split at h
      · rename_i v hv
        cases h
        rcases km_or_s hv with hv | hv
        · obtain ⟨h0, n, f, hL, hn, rfl⟩ := km_ar_s hv
          obtain ⟨hn2, cA, a1, a2, a3⟩ := km_arr w hL (by decide)
          have k0 := k H locs w
          have ea : km_cv (km_ad D) (.ref a) = .ref (km_bs D + a) := by show Value.ref _ = _; rw [km_adr hD w hL]
          unfold km_Go at k0 ⊢
          simp only [List.map_cons, ea] at k0 ⊢
          exact W.bald hx hb a3 (a1 _ _) (fun z => by cases z) (by rw [arrV_size]; exact km_inn h0 hn) (arrV_read _ _ hn) rfl rfl hd k0
        · obtain ⟨h0, n, f, hL, hn, rfl⟩ := km_ar_s hv
          obtain ⟨hn2, cA, a1, a2, a3⟩ := km_arr w hL (by decide)
          have k0 := k H locs w
          have ea : km_cv (km_ad D) (.ref a) = .ref (km_bs D + a) := by show Value.ref _ = _; rw [km_adr hD w hL]
          unfold km_Go at k0 ⊢
          simp only [List.map_cons, ea] at k0 ⊢
          exact W.zald hx hb a3 (a1 _ _) (fun z => by cases z) (by rw [arrV_size]; exact km_inn h0 hn) (arrV_read _ _ hn) rfl rfl hd k0
      · cases h
    · cases h
  · -- laload
    split at h
    · rename_i i a r
      split at h
      · rename_i v hv
        cases h
        obtain ⟨h0, n, f, hL, hn, rfl⟩ := km_ar_s hv
        obtain ⟨hn2, cA, a1, a2, a3⟩ := km_arr w hL (by decide)
        have k0 := k H locs w
        have ea : km_cv (km_ad D) (.ref a) = .ref (km_bs D + a) := by show Value.ref _ = _; rw [km_adr hD w hL]
        unfold km_Go at k0 ⊢
        simp only [List.map_cons, ea] at k0 ⊢
        exact W.lald hx hb a3 (a1 _ _) (fun z => by cases z) (by rw [arrV_size]; exact km_inn h0 hn) (arrV_read _ _ hn) rfl rfl hd k0
      · cases h
    · cases h
  · -- aaload
    split at h
    · rename_i i a r
      split at h
      · rename_i v hv
        cases h
        have hv2 : ∃ kd, (kd = 14 ∨ kd = 15 ∨ kd = 16) ∧ km_ar L a kd i = some v := by
          rcases km_or_s hv with hv | hv
          · exact ⟨14, Or.inl rfl, hv⟩
          · rcases km_or_s hv with hv | hv
            · exact ⟨15, Or.inr (Or.inl rfl), hv⟩
            · exact ⟨16, Or.inr (Or.inr rfl), hv⟩
        obtain ⟨kd, hkd, hv⟩ := hv2
        have hr : (km_aty kd).isReference = true := by rcases hkd with rfl | rfl | rfl <;> rfl
        obtain ⟨h0, n, f, hL, hn, rfl⟩ := km_ar_s hv
        obtain ⟨hn2, cA, a1, a2, a3⟩ := km_arr w hL (by omega)
        have k0 := k H locs w
        have ea : km_cv (km_ad D) (.ref a) = .ref (km_bs D + a) := by show Value.ref _ = _; rw [km_adr hD w hL]
        unfold km_Go at k0 ⊢
        simp only [List.map_cons, ea] at k0 ⊢
        exact W.aald hx hb a3 (a1 _ _) hr (fun z => by cases z) (by rw [arrV_size]; exact km_inn h0 hn) (arrV_read _ _ hn) rfl rfl hd k0
      · cases h
    · cases h
  · -- iastore
    split at h
    · rename_i x i a r
      split at h
      · rename_i L2 hv
        cases h
        obtain ⟨h0, n, f, hL, hn, rfl⟩ := km_aw_s hv
        obtain ⟨hn2, cA, a1, a2, a3⟩ := km_arr w hL (by decide)
        have ea : km_cv (km_ad D) (.ref a) = .ref (km_bs D + a) := by show Value.ref _ = _; rw [km_adr hD w hL]
        unfold km_Go at k ⊢
        simp only [List.map_cons, ea, List.length_set, km_sl_set hL] at k ⊢
        exact W.iast hx hb a3 (a1 _ _) (fun z => by cases z) (by rw [arrV_size]; exact km_inn h0 hn) rfl rfl hd (fun H' e1 e2 e3 => k H' _ (w.wr (km_cellA (by decide) (by decide) hn2 a1 a2 e1) e2 e3 hD.2.2.1))
      · cases h
    · cases h
  · -- bastore
    split at h
    · rename_i x i a r
      split at h
      · rename_i L2 hv
        cases h
        rcases km_or_s hv with hv | hv
        · obtain ⟨h0, n, f, hL, hn, rfl⟩ := km_aw_s hv
          obtain ⟨hn2, cA, a1, a2, a3⟩ := km_arr w hL (by decide)
          have ea : km_cv (km_ad D) (.ref a) = .ref (km_bs D + a) := by show Value.ref _ = _; rw [km_adr hD w hL]
          unfold km_Go at k ⊢
          simp only [List.map_cons, ea, List.length_set, km_sl_set hL] at k ⊢
          exact W.bast hx hb a3 (a1 _ _) (fun z => by cases z) (by rw [arrV_size]; exact km_inn h0 hn) rfl rfl hd (fun H' e1 e2 e3 => k H' _ (w.wr (km_cellA (by decide) (by decide) hn2 a1 a2 e1) e2 e3 hD.2.2.1))
        · obtain ⟨h0, n, f, hL, hn, rfl⟩ := km_aw_s hv
          obtain ⟨hn2, cA, a1, a2, a3⟩ := km_arr w hL (by decide)
          have ea : km_cv (km_ad D) (.ref a) = .ref (km_bs D + a) := by show Value.ref _ = _; rw [km_adr hD w hL]
          unfold km_Go at k ⊢
          simp only [List.map_cons, ea, List.length_set, km_sl_set hL] at k ⊢
          exact W.zast hx hb a3 (a1 _ _) (fun z => by cases z) (by rw [arrV_size]; exact km_inn h0 hn) rfl rfl hd (fun H' e1 e2 e3 => k H' _ (w.wr (km_cellA (by decide) (by decide) hn2 a1 a2 e1) e2 e3 hD.2.2.1))
      · cases h
    · cases h
  · -- lastore
    split at h
    · rename_i x i a r
      split at h
      · rename_i L2 hv
        cases h
        obtain ⟨h0, n, f, hL, hn, rfl⟩ := km_aw_s hv
        obtain ⟨hn2, cA, a1, a2, a3⟩ := km_arr w hL (by decide)
        have ea : km_cv (km_ad D) (.ref a) = .ref (km_bs D + a) := by show Value.ref _ = _; rw [km_adr hD w hL]
        unfold km_Go at k ⊢
        simp only [List.map_cons, ea, List.length_set, km_sl_set hL] at k ⊢
        exact W.last hx hb a3 (a1 _ _) (fun z => by cases z) (by rw [arrV_size]; exact km_inn h0 hn) rfl rfl hd (fun H' e1 e2 e3 => k H' _ (w.wr (km_cellA (by decide) (by decide) hn2 a1 a2 e1) e2 e3 hD.2.2.1))
      · cases h
    · cases h
  · -- arraylength
    split at h
    · rename_i a r
      rcases km_cb h with ⟨hbq, h⟩ | ⟨-, h⟩
      · have e := km_beq hbq
        subst e
        cases h
        obtain ⟨scr, q1, q2, q3, q4, q5⟩ := w.2.2.2.1
        have k0 := k H locs w
        have ea : km_cv (km_ad D) (.ref km_scr) = .ref (km_b D) := by show Value.ref _ = _; rw [hD.2.1]
        unfold km_Go at k0 ⊢
        simp only [List.map_cons, ea] at k0 ⊢
        exact W.alen (n := Int32.ofNat (km_Lx D)) hx hb q1 q2 (by rw [q4] <;> rfl) rfl rfl hd k0
      · split at h
        · rename_i q hL
          rcases km_cb h with ⟨hbq, h⟩ | ⟨-, h⟩
          · cases h
            rw [Bool.and_eq_true] at hbq
            have hk1 : 10 ≤ q.1 := Nat.le_of_ble_eq_true hbq.1
            obtain ⟨hn2, cA, a1, a2, a3⟩ := km_arr (k := q.1) (n := q.2.1) (f := q.2.2) w hL hk1
            have k0 := k H locs w
            have ea : km_cv (km_ad D) (.ref a) = .ref (km_bs D + a) := by show Value.ref _ = _; rw [km_adr hD w hL]
            unfold km_Go at k0 ⊢
            simp only [List.map_cons, ea] at k0 ⊢
            exact W.alen (n := Int32.ofNat q.2.1) hx hb a3 (a1 _ _) (by rw [arrV_size] <;> rfl) rfl rfl hd k0
          · cases h
        · cases h
    · cases h
  · -- getfield
    split at h
    · rename_i a r kk jj pl hf
      split at h
      · rename_i v hv
        cases h
        obtain ⟨n, f, hL, hn, rfl⟩ := km_rd_s hv
        have hk := (km_fld hf).1
        obtain ⟨hc1, hc2⟩ := (w.1 a _ hL).1 hk
        have k0 := k H locs w
        have ea : km_cv (km_ad D) (.ref a) = .ref (km_bs D + a) := by show Value.ref _ = _; rw [km_adr hD w hL]
        unfold km_Go at k0 ⊢
        simp only [List.map_cons, ea] at k0 ⊢
        exact km_get hx hb hown hG hf (hK.1 _ hk) hc2 hd k0
      · cases h
    · cases h
  · -- putfield
    split at h
    · rename_i v a r kk jj pl hf
      rcases km_cb h with ⟨hbq, h⟩ | ⟨-, h⟩
      · split at h
        · rename_i L2 hv
          cases h
          rw [Bool.and_eq_true] at hbq
          obtain ⟨n, f, hL, hn, rfl⟩ := km_wr_s hv
          have hk := (km_fld hf).1
          obtain ⟨hc1, hc2⟩ := (w.1 a _ hL).1 hk
          have ea : km_cv (km_ad D) (.ref a) = .ref (km_bs D + a) := by show Value.ref _ = _; rw [km_adr hD w hL]
          have hfn : (km_X kk jj).2.2.2 = false ∨ (meth.name = "<init>" ∧ kk = po) := by
            have h2 := hbq.2
            rw [Bool.or_eq_true, Bool.and_eq_true] at h2
            rcases h2 with h2 | h2
            · exact Or.inl (by simpa using h2)
            · exact Or.inr ⟨hit h2.1, km_beq h2.2⟩
          unfold km_Go at k ⊢
          simp only [List.map_cons, ea, List.length_set, km_sl_set hL] at k ⊢
          exact km_put hx hb hown hG hf (hK.1 _ hk) hc2 hfn (km_fit_s (km_ad D) hbq.1) hd (fun H' x e1 e2 e3 => k H' _ (w.wr ⟨fun _ => ⟨hc1, by rw [km_updV]; exact e1⟩, fun z => absurd hk z⟩ e2 e3 hD.2.2.1))
        · cases h
      · cases h
    · cases h
end KM4
end
section
/-! the machine follows: makings, copies, Object's constructor -/
theorem km_cv_def (ad : Nat → Nat) (ty : FieldType) : km_cv ad (defaultValue ty) = defaultValue ty := by cases ty <;> rfl
theorem km_kd_s {L : km_M} {a k : Nat} (h : km_kd L a k = true) : ∃ n f, L[a]? = some (k, n, f) := by
  unfold km_kd at h
  split at h
  · rename_i q hq
    have e := km_beq h
    subst e
    exact ⟨q.2.1, q.2.2, hq⟩
  · cases h
theorem km_new_s {L L' : km_M} {r st' : List Value} {k n : Nat} {v : Nat → Value} (h : km_new L r k n v = some (st', L')) : L.length + 100 < km_scr ∧ st' = .ref L.length :: r ∧ L' = L ++ [(k, n, v)] := by
  unfold km_new at h
  rcases km_cb h with ⟨hb, h2⟩ | ⟨-, h2⟩
  · cases h2
    exact ⟨Nat.le_of_ble_eq_true hb, rfl, rfl⟩
  · cases h2
theorem km_sl_app {L K : km_M} : km_sl (L ++ K) = km_sl L + km_sl K := by
  unfold km_sl
  rw [List.map_append, List.sum_append]
theorem km_sl_one {q : km_C} : km_sl [q] = q.2.1 := by simp [km_sl]
theorem km_Wd.wrL {D : km_D} {s : State} {H0 H H1 : Heap} {L : km_M} {locs K : List Loc} {a : Nat} {q : km_C} (w : km_Wd D s H0 H L locs) (hq : km_cell D s q (km_bs D + a) H1) (hz : H1.size = H.size) (ho : ∀ x : Nat, x ≠ km_bs D + a → H1[x]? = H[x]?) (hb : km_b D < km_bs D) (hK : ∀ x ∈ K, x.base = km_bs D + a) : km_Wd D s H0 H1 (L.set a q) (locs ++ K) := by
  obtain ⟨w1, w2, w3, w4, w5, w6, w7⟩ := w.wr (x := 0) hq hz ho hb
  refine ⟨w1, w2, w3, w4, w5, w6, fun y hy => ?_⟩
  rcases List.mem_append.mp hy with h | h
  · exact w.2.2.2.2.2.2 y h
  · rw [hK y h]; exact Nat.le_add_right _ _
section KM5
variable {p : Program} {l : Launch} {e : Env} {R : Room} {s : State} {m : MethodId} {args : Array Value} {below : List Frame} {meth : Method} {c : Code} {H : Heap} {locs : List Loc} {cells slots : Nat} {Q : State → Prop}
variable {cc : ByteArray} {pc nL : Nat} {LS : Array Slot} {po : Nat} {D : km_D}
theorem km_newarr (X : km_Cx D p s m args c cc nL po) {L : km_M} {H0 : Heap} {c0 s0 kd : Nat} (w : km_Wd D s H0 H L locs) (hc0 : c0 ≤ L.length) (hs0 : s0 ≤ km_sl L)
    {t : ArrayType} {n : Int32} {r : List Value} {v : Value} (hw : Cond.arrayClass (newarray.typeOf t) ∈ km_G) (hty : newarray.typeOf t = km_aty kd) (hkd : 10 ≤ kd ∧ kd < 14) (hv : km_cv (km_ad D) v = defaultValue (newarray.typeOf t)) (hn : ¬ (n < 0 ∨ 60000000 < n.toNatClampNeg)) (hL : L.length < km_scr)
    (hcb : componentBytes (newarray.typeOf t) ≤ 8) (hR : L.length + 1 - c0 ≤ R.cells ∧ km_sl L + n.toNatClampNeg - s0 ≤ R.slots) (hd : decode cc pc = .ok (.newarray t, 2))
    (k : ∀ H' : Heap, km_Wd D s H0 H' (L ++ [(kd, n.toNatClampNeg, fun _ => v)]) locs → km_Go p l e R s m args below meth c D H' locs (L ++ [(kd, n.toNatClampNeg, fun _ => v)]) c0 s0 Q (pc + 2) LS (.ref L.length :: r)) : km_Go p l e R s m args below meth c D H locs L c0 s0 Q pc LS (.int n :: r) := by
  obtain ⟨hx, hb, hml, hown, hG, hK, hD⟩ := X
  have h1 : ¬ n < 0 := fun z => hn (Or.inl z)
  have h2 : n.toNatClampNeg ≤ 60000000 := Nat.not_lt.mp fun z => hn (Or.inr z)
  unfold km_Go
  refine va_newaK hx hb (hG _ hw) rfl hd rfl h1 rfl ?_ ?_ ?_ w.2.1 (fun H' cA e1 e2 e3 hA hN => ?_)
  · exact Nat.le_trans (Nat.mul_le_mul h2 hcb) (by decide)
  · omega
  · omega
  · have hcell : km_cell D s (kd, n.toNatClampNeg, fun _ => v) H.size H' := by
      refine ⟨fun z => absurd z (by show ¬ kd < 10; omega), fun _ => ⟨by show kd < 17; omega, by show n.toNatClampNeg < _; omega, cA, ?_, ?_, ?_⟩⟩
      · show ArrOfT s cA (km_aty kd)
        rw [← hty]; exact hA
      · show va_RA s cA (km_aty kd)
        rw [← hty]
        cases t <;> exact hN
      · rw [w.2.1, e1]
        congr 1
        congr 1
        funext j
        exact hv.symm
    have k0 := k H' (w.push hL hcell (by rw [e2, w.2.1]) (fun q hq => e3 q (by rw [← w.2.1]; exact hq)) hD.2.2.1)
    unfold km_Go at k0
    have ea : km_cv (km_ad D) (.ref L.length) = .ref (km_bs D + L.length) := by show Value.ref _ = _; rw [hD.1 _ hL]
    simp only [List.map_cons, ea, List.length_append, List.length_singleton, km_sl_app, km_sl_one] at k0
    rw [show L.length - c0 + 1 = L.length + 1 - c0 by omega, show km_sl L - s0 + n.toNatClampNeg = km_sl L + n.toNatClampNeg - s0 by omega]
    exact k0
theorem km_newobj (X : km_Cx D p s m args c cc nL po) {L : km_M} {H0 : Heap} {c0 s0 kk : Nat} (w : km_Wd D s H0 H L locs) (hc0 : c0 ≤ L.length) (hs0 : s0 ≤ km_sl L)
    {i pl z : Nat} {r : List Value} (hf : km_fF km_W5 po i = some (kk, z, pl)) (hk : kk < 10) (hL : L.length < km_scr)
    (hR : L.length + 1 - c0 ≤ R.cells ∧ km_sl L + km_N kk - s0 ≤ R.slots) (hd : decode cc pc = .ok (.new i, 3))
    (k : ∀ H' : Heap, km_Wd D s H0 H' (L ++ [(kk, km_N kk, fun j => defaultValue (km_Ty kk j))]) locs → km_Go p l e R s m args below meth c D H' locs (L ++ [(kk, km_N kk, fun j => defaultValue (km_Ty kk j))]) c0 s0 Q (pc + 3) LS (.ref L.length :: r)) : km_Go p l e R s m args below meth c D H locs L c0 s0 Q pc LS r := by
  obtain ⟨hx, hb, hml, hown, hG, hK, hD⟩ := X
  have h1 := List.all_eq_true.mp km_W_ok _ (km_fF_mem hf)
  unfold km_okW at h1
  have h2 : Nat.blt kk 10 = true := Nat.ble_eq_true_of_le hk
  rw [show Nat.blt (po, i, kk, z, pl).2.2.1 10 = true from h2] at h1
  have hw := km_gw_s h1
  obtain ⟨hc1, hc2⟩ := km_C_at hk
  have hKn := hK.1 kk hk
  unfold km_Go
  refine W.newcK hx hb hown (hG _ hw) (hG _ hc1) (hG _ hc2) rfl hd ?_ ?_ hKn.2.1 w.2.1 (fun H' kC e0 e1 e2 e3 => ?_)
  · omega
  · omega
  · have hcell : km_cell D s (kk, km_N kk, fun j => defaultValue (km_Ty kk j)) H.size H' := by
      refine ⟨fun _ => ⟨rfl, ?_⟩, fun z => absurd hk z⟩
      have hbn := u_born (km_Ty kk) hG (km_uin hk) hKn e0 e1 (km_tyok hk)
      rw [w.2.1]
      have he : (fun j => km_cv (km_ad D) (defaultValue (km_Ty kk j))) = fun j => defaultValue (km_Ty kk j) := funext fun j => km_cv_def _ _
      show t_OB _ _ _ _ _ (fun j => km_cv (km_ad D) (defaultValue (km_Ty kk j)))
      rw [he]
      exact hbn
    have k0 := k H' (w.push hL hcell (by rw [e2, w.2.1]) (fun q hq => e3 q (by rw [← w.2.1]; exact hq)) hD.2.2.1)
    unfold km_Go at k0
    have ea : km_cv (km_ad D) (.ref L.length) = .ref (km_bs D + L.length) := by show Value.ref _ = _; rw [hD.1 _ hL]
    simp only [List.map_cons, ea, List.length_append, List.length_singleton, km_sl_app, km_sl_one] at k0
    rw [show L.length - c0 + 1 = L.length + 1 - c0 by omega, show km_sl L - s0 + km_N kk = km_sl L + km_N kk - s0 by omega]
    exact k0
theorem km_newref (X : km_Cx D p s m args c cc nL po) {L : km_M} {H0 : Heap} {c0 s0 kk kd : Nat} (w : km_Wd D s H0 H L locs) (hc0 : c0 ≤ L.length) (hs0 : s0 ≤ km_sl L)
    {i pl z : Nat} {n : Int32} {r : List Value} (hf : km_fF km_W5 po i = some (kk, z, pl)) (hk : kk < 10) (hty : km_aty kd = .object (km_R kk)) (hkd : 10 ≤ kd ∧ kd < 17) (hAO : va_AO (km_R kk) s) (hn : ¬ (n < 0 ∨ 60000000 < n.toNatClampNeg)) (hL : L.length < km_scr)
    (hR : L.length + 1 - c0 ≤ R.cells ∧ km_sl L + n.toNatClampNeg - s0 ≤ R.slots) (hd : decode cc pc = .ok (.anewarray i, 3))
    (k : ∀ H' : Heap, km_Wd D s H0 H' (L ++ [(kd, n.toNatClampNeg, fun _ => .null)]) locs → km_Go p l e R s m args below meth c D H' locs (L ++ [(kd, n.toNatClampNeg, fun _ => .null)]) c0 s0 Q (pc + 3) LS (.ref L.length :: r)) : km_Go p l e R s m args below meth c D H locs L c0 s0 Q pc LS (.int n :: r) := by
  obtain ⟨hx, hb, hml, hown, hG, hK, hD⟩ := X
  have h1 : ¬ n < 0 := fun z => hn (Or.inl z)
  have h2 : n.toNatClampNeg ≤ 60000000 := Nat.not_lt.mp fun z => hn (Or.inr z)
  have h3 := List.all_eq_true.mp km_W_ok _ (km_fF_mem hf)
  unfold km_okW at h3
  have h4 : Nat.blt kk 10 = true := Nat.ble_eq_true_of_le hk
  rw [show Nat.blt (po, i, kk, z, pl).2.2.1 10 = true from h4] at h3
  have hw := km_gw_s h3
  unfold km_Go
  refine W.anew hx hb hown (hG _ hw) (va_AO.use hAO) rfl hd rfl h1 (by omega) (by omega) (by omega) (fun cA kA comp f1 f2 f3 f4 => ?_)
  generalize hH1 : H.push ({ cls := cA, slots := Array.replicate n.toNatClampNeg .null, vm := .none } : Cell) = H1
  have z1 : H1.size = H.size + 1 := by rw [← hH1, Array.size_push]
  have e1 : H1[H.size]? = some (arrV cA n.toNatClampNeg (fun _ => .null)) := by rw [← hH1, Array.getElem?_push_size, ← arrV_new]
  have o1 : ∀ q : Nat, q < H.size → H1[q]? = H[q]? := fun q hq => by rw [← hH1, Array.getElem?_push, if_neg (Nat.ne_of_lt hq)]
  have hAr : ArrOfT s cA (.object (km_R kk)) := fun N z => ⟨(fun k h => by cases h), kA, f2, comp, f3⟩
  have hcell : km_cell D s (kd, n.toNatClampNeg, fun _ => .null) H.size H1 := by
    refine ⟨fun z => absurd z (by show ¬ kd < 10; omega), fun _ => ⟨by show kd < 17; omega, by show n.toNatClampNeg < _; omega, cA, ?_, ?_, ?_⟩⟩
    · show ArrOfT s cA (km_aty kd)
      rw [hty]; exact hAr
    · show va_RA s cA (km_aty kd)
      rw [hty]
      exact ⟨kA, comp, f2, f3, f4, f1⟩
    · exact e1
  have k0 := k H1 (w.push hL hcell z1 o1 hD.2.2.1)
  unfold km_Go at k0
  have ea : km_cv (km_ad D) (.ref L.length) = .ref (km_bs D + L.length) := by show Value.ref _ = _; rw [hD.1 _ hL]
  simp only [List.map_cons, ea, List.length_append, List.length_singleton, km_sl_app, km_sl_one] at k0
  rw [show L.length - c0 + 1 = L.length + 1 - c0 by omega, show km_sl L - s0 + n.toNatClampNeg = km_sl L + n.toNatClampNeg - s0 by omega, w.2.1]
  exact k0
theorem km_assign {U : State} {C : String} {T : u_T} {N : Nat} {cC : ClassId} {iS : Nat → Nat} (h : u_Kn U C T N cC iS) : U.vm.assignable cC cC = true := va_assign h.2
theorem km_aast (X : km_Cx D p s m args c cc nL po) {L L' : km_M} {H0 : Heap} {c0 s0 kd kk : Nat} (w : km_Wd D s H0 H L locs)
    {i : Int32} {a x : Nat} {r : List Value} (hk : kk < 10) (hkd : 10 ≤ kd) (hkd2 : kd < 17) (hty : km_aty kd = .object (km_R kk)) (hx1 : km_kd L x kk = true) (hv : km_aw L a kd i (.ref x) = some L') (hd : decode cc pc = .ok (.aastore, 1))
    (k : ∀ (H' : Heap) (locs' : List Loc), km_Wd D s H0 H' L' locs' → km_Go p l e R s m args below meth c D H' locs' L' c0 s0 Q (pc + 1) LS r) : km_Go p l e R s m args below meth c D H locs L c0 s0 Q pc LS (.ref x :: .int i :: .ref a :: r) := by
  obtain ⟨hx, hb, hml, hown, hG, hK, hD⟩ := X
  obtain ⟨h0, n, f, hL, hn, rfl⟩ := km_aw_s hv
  obtain ⟨nx, fx, hLx⟩ := km_kd_s hx1
  obtain ⟨hn2, cA, a1, a2, a3⟩ := km_arr w hL hkd
  obtain ⟨-, cellV, g1, g2, g3, -⟩ := (w.1 x _ hLx).1 hk
  have hKn := hK.1 kk hk
  have a2' := a2
  rw [hty] at a2'
  obtain ⟨kA, comp, k1, k2, k3, -⟩ := a2'
  have hcomp : comp = km_dC D kk := Option.some.inj (k3.symm.trans hKn.2.1)
  subst hcomp
  obtain ⟨kC, hkC, -⟩ := hKn.2.2
  have ea : km_cv (km_ad D) (.ref a) = .ref (km_bs D + a) := by show Value.ref _ = _; rw [km_adr hD w hL]
  have ex : km_cv (km_ad D) (.ref x) = .ref (km_bs D + x) := by show Value.ref _ = _; rw [km_adr hD w hLx]
  unfold km_Go at k ⊢
  simp only [List.map_cons, ea, ex, List.length_set, km_sl_set hL] at k ⊢
  refine W.aast hx hb a3 (fun q h => by cases h) (fun h => by cases h) k1 k2 rfl hkC ⟨h0, by show _ < (arrV _ _ _).slots.size; rw [arrV_size]; exact hn⟩ g1 (fun q h => by rw [g3] at h; cases h) (by rw [g2]; exact hkC) (by rw [g2]; exact km_assign hKn) rfl rfl hd fun H1 e1 e2 e3 => ?_
  refine k H1 _ (w.wr (km_cellA (by omega) hkd2 hn2 a1 a2 (by rw [ex]; exact e1)) e2 e3 hD.2.2.1)
theorem km_copy (X : km_Cx D p s m args c cc nL po) (hls : LS.size = nL) {L : km_M} {H0 : Heap} {c0 s0 : Nat} (w : km_Wd D s H0 H L locs) {i pl z : Nat} {sp dp n : Int32} {a b : Nat} {r : List Value} {f g : km_C} (hf : km_fF km_I po i = some (5, z, pl)) (hLa : L[a]? = some f) (hLb : L[b]? = some g)
    (hh : Nat.beq f.1 11 = true ∧ Nat.beq g.1 11 = true ∧ ¬ sp < 0 ∧ ¬ dp < 0 ∧ ¬ n < 0 ∧ sp.toNatClampNeg + n.toNatClampNeg ≤ f.2.1 ∧ dp.toNatClampNeg + n.toNatClampNeg ≤ g.2.1 ∧ ((r.map fun v => v.category).sum ≤ 8) ∧ ((List.range n.toNatClampNeg).all (fun i => km_isI (f.2.2 (sp.toNatClampNeg + i))) = true))
    (hfr : 1 ≤ R.frames) (hlo : 64 ≤ R.locals) (hd : decode cc pc = .ok (.invokestatic i, 3))
    (k : ∀ (H' : Heap) (locs' : List Loc), km_Wd D s H0 H' (L.set b (11, g.2.1, km_cpy f.2.2 g.2.2 sp.toNatClampNeg dp.toNatClampNeg n.toNatClampNeg)) locs' → km_Go p l e R s m args below meth c D H' locs' (L.set b (11, g.2.1, km_cpy f.2.2 g.2.2 sp.toNatClampNeg dp.toNatClampNeg n.toNatClampNeg)) c0 s0 Q (pc + 3) LS r) : km_Go p l e R s m args below meth c D H locs L c0 s0 Q pc LS (.int n :: .int dp :: .ref b :: .int sp :: .ref a :: r) := by
  obtain ⟨hx, hb, hml, hown, hG, hK, hD⟩ := X
  obtain ⟨fk, fn, ff⟩ := f
  obtain ⟨gk, gn, gf⟩ := g
  obtain ⟨e1, e2, h1, h2, h3, h4, h5, h6, h7⟩ := hh
  have e1 := km_beq e1
  have e2 := km_beq e2
  dsimp only at e1 e2 h4 h5 h7
  subst e1; subst e2
  obtain ⟨hn1, c0', a1, a2, a3⟩ := km_arr w hLa (by decide)
  obtain ⟨hn2, c1', b1, b2, b3⟩ := km_arr w hLb (by decide)
  have hI := List.all_eq_true.mp km_I_ok _ (km_fF_mem hf)
  have hlink := km_gw_s (show km_gw pl (.methodLink (km_R po) i arraycopyName) = true from hI)
  have nn : ∀ z : Int32, ¬ z < 0 → z.toInt = (z.toNatClampNeg : Int) := by
    intro z hz
    have hz0 : (0 : Int) ≤ z.toInt := by
      have := Int32.not_lt.mp hz
      simpa using Int32.le_iff_toInt_le.mp this
    show z.toInt = ((z.toInt.toNat : Nat) : Int)
    omega
  have ea : km_cv (km_ad D) (.ref a) = .ref (km_bs D + a) := by show Value.ref _ = _; rw [km_adr hD w hLa]
  have eb : km_cv (km_ad D) (.ref b) = .ref (km_bs D + b) := by show Value.ref _ = _; rw [km_adr hD w hLb]
  unfold km_Go at k ⊢
  simp only [List.map_cons, ea, eb, List.length_set, km_sl_set hLb] at k ⊢
  intro T hT XX
  obtain ⟨-, k0, hk0, cm0, hkk0⟩ := a1 fn (fun j => km_cv (km_ad D) (ff j))
  obtain ⟨-, k1, hk1, cm1, hkk1⟩ := b1 gn (fun j => km_cv (km_ad D) (gf j))
  obtain ⟨vm', X', step⟩ := XX.arraycopy hx hown (hG _ hlink) (hG _ km_cp1) (hG _ km_cp2) (hG _ km_cp3) (src := km_bs D + a) (dst := km_bs D + b) (cs := arrV c0' fn (fun j => km_cv (km_ad D) (ff j))) (cd := arrV c1' gn (fun j => km_cv (km_ad D) (gf j))) (srcPos := sp) (destPos := dp) (n := n) (by rw [hT]; exact a3) (by rw [hT]; exact b3)
    (fun _ h => by cases h) (fun _ h => by cases h) (fun h => by cases h) (fun h => by cases h) hk0 hk1 hkk0 hkk1 rfl h1 h2 h3
    (by rw [nn sp h1, nn n h3]; show ¬ _ > ((arrV c0' fn _).slots.size : Int); rw [arrV_size]; omega)
    (by rw [nn dp h2, nn n h3]; show ¬ _ > ((arrV c1' gn _).slots.size : Int); rw [arrV_size]; omega)
    (fun vm₁ _ i hi => by
      have e : (arrV c0' fn (fun j => km_cv (km_ad D) (ff j))).slots.getD (sp.toNatClampNeg + i) .null = km_cv (km_ad D) (ff (sp.toNatClampNeg + i)) := by
        rw [Array.getD_eq_getD_getElem?, arrV_read _ _ (by omega)]
        rfl
      have hi2 := List.all_eq_true.mp h7 i (List.mem_range.mpr hi)
      refine ⟨?_, ?_⟩
      · rw [e]
        cases hv : ff (sp.toNatClampNeg + i) <;> rw [hv] at hi2 <;> first | rfl | cases hi2
      · rw [e]
        cases hv : ff (sp.toNatClampNeg + i) <;> rw [hv] at hi2 <;> first | exact trivial | cases hi2)
    (g := F0 m pc LS (.int n :: .int dp :: .ref (km_bs D + b) :: .int sp :: .ref (km_bs D + a) :: r.map (km_cv (km_ad D)))) rfl (by rw [hml]; exact hls) (rest := r.map (km_cv (km_ad D))) rfl (by rw [hb]; exact hd) hfr (by
      have := km_cv_sum (km_ad D) r
      show 2 * 0 + ((r.map (km_cv (km_ad D))).map fun v => v.category).sum + (nativeFrameWords "java/lang/System" "arraycopy" 5 + 11) ≤ _
      rw [this]
      have h8 : nativeFrameWords "java/lang/System" "arraycopy" 5 + 11 ≤ 56 := by decide +kernel
      omega)
  have e1 : copied (arrV c0' fn (fun j => km_cv (km_ad D) (ff j))) (arrV c1' gn (fun j => km_cv (km_ad D) (gf j))) sp dp n = arrV c1' gn (fun j => km_cv (km_ad D) (km_cpy ff gf sp.toNatClampNeg dp.toNatClampNeg n.toNatClampNeg j)) := by
    refine (va_copied (fun z => km_cv (km_ad D) z) c0' c1' ff gf h4).trans ?_
    rfl
  rw [e1] at X' step
  generalize hY : arrV c1' gn (fun j => km_cv (km_ad D) (km_cpy ff gf sp.toNatClampNeg dp.toNatClampNeg n.toNatClampNeg j)) = Y at X' step
  have hl : km_bs D + b < H.size := (Array.getElem?_eq_some_iff.mp b3).1
  have hheap : ((T.setVm vm').setCell (km_bs D + b) Y).heap = H.setIfInBounds (km_bs D + b) Y := by rw [← hT]; rfl
  have oq : ∀ q : Nat, q ≠ km_bs D + b → (H.setIfInBounds (km_bs D + b) Y)[q]? = H[q]? := fun q hq => by simp [Array.getElem?_setIfInBounds, Ne.symm hq]
  have hcell : km_cell D s (11, gn, km_cpy ff gf sp.toNatClampNeg dp.toNatClampNeg n.toNatClampNeg) (km_bs D + b) (H.setIfInBounds (km_bs D + b) Y) := by
    refine ⟨fun z => absurd z (by show ¬ (11 : Nat) < 10; decide), fun _ => ⟨by show (11 : Nat) < 17; decide, hn2, c1', b1, b2, ?_⟩⟩
    rw [← hY]
    simp [Array.getElem?_setIfInBounds, hl]
  obtain ⟨t, a9, b9⟩ := k _ _ (w.wrL hcell (by simp) oq hD.2.2.1 (fun x hx => by
    obtain ⟨z, -, hz⟩ := List.mem_map.mp hx
    rw [← hz])) _ hheap X'
  exact ⟨t, step t a9, b9⟩
end KM5
end
section
section KMM
variable {p : Program} {l : Launch} {e : Env} {R : Room} {s : State} {m : MethodId} {args : Array Value} {below : List Frame} {meth : Method} {c : Code} {H : Heap} {locs : List Loc} {Q : State → Prop}
variable {cc : ByteArray} {pc nL : Nat} {LS : Array Slot} {po : Nat} {D : km_D}
theorem km_multi (X : km_Cx D p s m args c cc nL po) {L : km_M} {H0 : Heap} {c0 s0 : Nat} (w : km_Wd D s H0 H L locs) (hc0 : c0 ≤ L.length) (hs0 : s0 ≤ km_sl L)
    {i pl z : Nat} {x y : Int32} {r : List Value} (hf : km_fF km_W5 po i = some (16, z, pl)) (hn : ¬ (x < 0 ∨ 60 < x.toNatClampNeg ∨ y < 0 ∨ 60000000 < y.toNatClampNeg)) (hL : L.length + 100 < km_scr)
    (hR : (L ++ ([(16, x.toNatClampNeg, fun j => Value.ref (L.length + 1 + j))] : km_M) ++ (List.replicate x.toNatClampNeg (12, y.toNatClampNeg, fun _ => Value.long 0) : km_M)).length - c0 ≤ R.cells ∧ km_sl (L ++ ([(16, x.toNatClampNeg, fun j => Value.ref (L.length + 1 + j))] : km_M) ++ (List.replicate x.toNatClampNeg (12, y.toNatClampNeg, fun _ => Value.long 0) : km_M)) - s0 ≤ R.slots)
    (hd : decode cc pc = .ok (.multianewarray i 2, 4))
    (k : ∀ H' : Heap, km_Wd D s H0 H' (L ++ ([(16, x.toNatClampNeg, fun j => Value.ref (L.length + 1 + j))] : km_M) ++ (List.replicate x.toNatClampNeg (12, y.toNatClampNeg, fun _ => Value.long 0) : km_M)) locs → km_Go p l e R s m args below meth c D H' locs (L ++ ([(16, x.toNatClampNeg, fun j => Value.ref (L.length + 1 + j))] : km_M) ++ (List.replicate x.toNatClampNeg (12, y.toNatClampNeg, fun _ => Value.long 0) : km_M)) c0 s0 Q (pc + 4) LS (.ref L.length :: r)) : km_Go p l e R s m args below meth c D H locs L c0 s0 Q pc LS (.int y :: .int x :: r) := by
  sorry
end KMM
end
section
/-! the four texts: length() and charAt(), the JDK's own methods walked -/
theorem ds_J0_length_8abf5_0 : decode cJ0_length_8abf5 0 = .ok (.aload_n 0, 1) := by decide +kernel
theorem ds_J0_length_8abf5_1 : decode cJ0_length_8abf5 1 = .ok (.getfield 9, 3) := by decide +kernel
theorem ds_J0_length_8abf5_4 : decode cJ0_length_8abf5 4 = .ok (.arraylength, 1) := by decide +kernel
theorem ds_J0_length_8abf5_5 : decode cJ0_length_8abf5 5 = .ok (.aload_n 0, 1) := by decide +kernel
theorem ds_J0_length_8abf5_6 : decode cJ0_length_8abf5 6 = .ok (.invokevirtual 335, 3) := by decide +kernel
theorem ds_J0_length_8abf5_9 : decode cJ0_length_8abf5 9 = .ok (.ishr, 1) := by decide +kernel
theorem ds_J0_length_8abf5_10 : decode cJ0_length_8abf5 10 = .ok (.ireturn, 1) := by decide +kernel
theorem ds_J0_charAt_5068e_0 : decode cJ0_charAt_5068e 0 = .ok (.aload_n 0, 1) := by decide +kernel
theorem ds_J0_charAt_5068e_1 : decode cJ0_charAt_5068e 1 = .ok (.invokevirtual 492, 3) := by decide +kernel
theorem ds_J0_charAt_5068e_4 : decode cJ0_charAt_5068e 4 = .ok (.ifCond .eq 12, 3) := by decide +kernel
theorem ds_J0_charAt_5068e_7 : decode cJ0_charAt_5068e 7 = .ok (.aload_n 0, 1) := by decide +kernel
theorem ds_J0_charAt_5068e_8 : decode cJ0_charAt_5068e 8 = .ok (.getfield 9, 3) := by decide +kernel
theorem ds_J0_charAt_5068e_11 : decode cJ0_charAt_5068e 11 = .ok (.iload_n 1, 1) := by decide +kernel
theorem ds_J0_charAt_5068e_12 : decode cJ0_charAt_5068e 12 = .ok (.invokestatic 495, 3) := by decide +kernel
theorem ds_J0_charAt_5068e_15 : decode cJ0_charAt_5068e 15 = .ok (.ireturn, 1) := by decide +kernel
theorem ds_J0_charAt_5068e_16 : decode cJ0_charAt_5068e 16 = .ok (.aload_n 0, 1) := by decide +kernel
theorem ds_J0_charAt_5068e_17 : decode cJ0_charAt_5068e 17 = .ok (.getfield 9, 3) := by decide +kernel
theorem ds_J0_charAt_5068e_20 : decode cJ0_charAt_5068e 20 = .ok (.iload_n 1, 1) := by decide +kernel
theorem ds_J0_charAt_5068e_21 : decode cJ0_charAt_5068e 21 = .ok (.invokestatic 498, 3) := by decide +kernel
theorem ds_J0_charAt_5068e_24 : decode cJ0_charAt_5068e 24 = .ok (.ireturn, 1) := by decide +kernel
theorem ds_J0_coder_7d493_0 : decode cJ0_coder_7d493 0 = .ok (.getstatic 38, 3) := by decide +kernel
theorem ds_J0_coder_7d493_3 : decode cJ0_coder_7d493 3 = .ok (.ifCond .eq 10, 3) := by decide +kernel
theorem ds_J0_coder_7d493_6 : decode cJ0_coder_7d493 6 = .ok (.aload_n 0, 1) := by decide +kernel
theorem ds_J0_coder_7d493_7 : decode cJ0_coder_7d493 7 = .ok (.getfield 15, 3) := by decide +kernel
theorem ds_J0_coder_7d493_10 : decode cJ0_coder_7d493 10 = .ok (.goto 4, 3) := by decide +kernel
theorem ds_J0_coder_7d493_13 : decode cJ0_coder_7d493 13 = .ok (.iconst 1, 1) := by decide +kernel
theorem ds_J0_coder_7d493_14 : decode cJ0_coder_7d493 14 = .ok (.ireturn, 1) := by decide +kernel
theorem ds_J0_isLatin1_aae02_0 : decode cJ0_isLatin1_aae02 0 = .ok (.getstatic 38, 3) := by decide +kernel
theorem ds_J0_isLatin1_aae02_3 : decode cJ0_isLatin1_aae02 3 = .ok (.ifCond .eq 14, 3) := by decide +kernel
theorem ds_J0_isLatin1_aae02_6 : decode cJ0_isLatin1_aae02 6 = .ok (.aload_n 0, 1) := by decide +kernel
theorem ds_J0_isLatin1_aae02_7 : decode cJ0_isLatin1_aae02 7 = .ok (.getfield 15, 3) := by decide +kernel
theorem ds_J0_isLatin1_aae02_10 : decode cJ0_isLatin1_aae02 10 = .ok (.ifCond .ne 7, 3) := by decide +kernel
theorem ds_J0_isLatin1_aae02_13 : decode cJ0_isLatin1_aae02 13 = .ok (.iconst 1, 1) := by decide +kernel
theorem ds_J0_isLatin1_aae02_14 : decode cJ0_isLatin1_aae02 14 = .ok (.goto 4, 3) := by decide +kernel
theorem ds_J0_isLatin1_aae02_17 : decode cJ0_isLatin1_aae02 17 = .ok (.iconst 0, 1) := by decide +kernel
theorem ds_J0_isLatin1_aae02_18 : decode cJ0_isLatin1_aae02 18 = .ok (.ireturn, 1) := by decide +kernel
theorem ds_J0_checkIndex_df160_0 : decode cJ0_checkIndex_df160 0 = .ok (.iload_n 0, 1) := by decide +kernel
theorem ds_J0_checkIndex_df160_1 : decode cJ0_checkIndex_df160 1 = .ok (.iload_n 1, 1) := by decide +kernel
theorem ds_J0_checkIndex_df160_2 : decode cJ0_checkIndex_df160 2 = .ok (.getstatic 1053, 3) := by decide +kernel
theorem ds_J0_checkIndex_df160_5 : decode cJ0_checkIndex_df160 5 = .ok (.invokestatic 1059, 3) := by decide +kernel
theorem ds_J0_checkIndex_df160_8 : decode cJ0_checkIndex_df160 8 = .ok (.pop, 1) := by decide +kernel
theorem ds_J0_checkIndex_df160_9 : decode cJ0_checkIndex_df160 9 = .ok (.return_, 1) := by decide +kernel
theorem ds_J1_charAt_3b067_0 : decode cJ1_charAt_3b067 0 = .ok (.iload_n 1, 1) := by decide +kernel
theorem ds_J1_charAt_3b067_1 : decode cJ1_charAt_3b067 1 = .ok (.aload_n 0, 1) := by decide +kernel
theorem ds_J1_charAt_3b067_2 : decode cJ1_charAt_3b067 2 = .ok (.arraylength, 1) := by decide +kernel
theorem ds_J1_charAt_3b067_3 : decode cJ1_charAt_3b067 3 = .ok (.invokestatic 9, 3) := by decide +kernel
theorem ds_J1_charAt_3b067_6 : decode cJ1_charAt_3b067 6 = .ok (.aload_n 0, 1) := by decide +kernel
theorem ds_J1_charAt_3b067_7 : decode cJ1_charAt_3b067 7 = .ok (.iload_n 1, 1) := by decide +kernel
theorem ds_J1_charAt_3b067_8 : decode cJ1_charAt_3b067 8 = .ok (.baload, 1) := by decide +kernel
theorem ds_J1_charAt_3b067_9 : decode cJ1_charAt_3b067 9 = .ok (.sipush 255, 3) := by decide +kernel
theorem ds_J1_charAt_3b067_12 : decode cJ1_charAt_3b067 12 = .ok (.iand, 1) := by decide +kernel
theorem ds_J1_charAt_3b067_13 : decode cJ1_charAt_3b067 13 = .ok (.i2c, 1) := by decide +kernel
theorem ds_J1_charAt_3b067_14 : decode cJ1_charAt_3b067 14 = .ok (.ireturn, 1) := by decide +kernel
theorem ds_J3_checkIndex_8e157_0 : decode cJ3_checkIndex_8e157 0 = .ok (.iload_n 0, 1) := by decide +kernel
theorem ds_J3_checkIndex_8e157_1 : decode cJ3_checkIndex_8e157 1 = .ok (.ifCond .lt 8, 3) := by decide +kernel
theorem ds_J3_checkIndex_8e157_4 : decode cJ3_checkIndex_8e157 4 = .ok (.iload_n 0, 1) := by decide +kernel
theorem ds_J3_checkIndex_8e157_5 : decode cJ3_checkIndex_8e157 5 = .ok (.iload_n 1, 1) := by decide +kernel
theorem ds_J3_checkIndex_8e157_6 : decode cJ3_checkIndex_8e157 6 = .ok (.if_icmp .lt 10, 3) := by decide +kernel
theorem ds_J3_checkIndex_8e157_9 : decode cJ3_checkIndex_8e157 9 = .ok (.aload_n 2, 1) := by decide +kernel
theorem ds_J3_checkIndex_8e157_10 : decode cJ3_checkIndex_8e157 10 = .ok (.iload_n 0, 1) := by decide +kernel
theorem ds_J3_checkIndex_8e157_11 : decode cJ3_checkIndex_8e157 11 = .ok (.iload_n 1, 1) := by decide +kernel
theorem ds_J3_checkIndex_8e157_12 : decode cJ3_checkIndex_8e157 12 = .ok (.invokestatic 95, 3) := by decide +kernel
theorem ds_J3_checkIndex_8e157_15 : decode cJ3_checkIndex_8e157 15 = .ok (.athrow, 1) := by decide +kernel
theorem ds_J3_checkIndex_8e157_16 : decode cJ3_checkIndex_8e157 16 = .ok (.iload_n 0, 1) := by decide +kernel
theorem ds_J3_checkIndex_8e157_17 : decode cJ3_checkIndex_8e157 17 = .ok (.ireturn, 1) := by decide +kernel
set_option maxRecDepth 100000 in
theorem ww_c_J0_length_8abf5 : Cond.code yJ0_length_8abf5 cJ0_length_8abf5 1 (some .int) ∈ km_G := List.mem_filter.mpr ⟨km_t2 (List.mem_of_getElem? (i := 163) rfl), rfl⟩
theorem ww_i_J0_length_8abf5 : Cond.instanceMethod yJ0_length_8abf5 ∈ km_G := km_gw_s (i := 495) (by decide +kernel)
theorem ww_v_J0_length_8abf5 : Cond.selects RJ0 yJ0_length_8abf5 yJ0_length_8abf5 ∈ km_G := km_gw_s (i := 496) (by decide +kernel)
set_option maxRecDepth 100000 in
theorem ww_c_J0_charAt_5068e : Cond.code yJ0_charAt_5068e cJ0_charAt_5068e 2 (some .char) ∈ km_G := List.mem_filter.mpr ⟨km_t2 (List.mem_of_getElem? (i := 173) rfl), rfl⟩
theorem ww_i_J0_charAt_5068e : Cond.instanceMethod yJ0_charAt_5068e ∈ km_G := km_gw_s (i := 505) (by decide +kernel)
theorem ww_v_J0_charAt_5068e : Cond.selects RJ0 yJ0_charAt_5068e yJ0_charAt_5068e ∈ km_G := km_gw_s (i := 506) (by decide +kernel)
set_option maxRecDepth 100000 in
theorem ww_c_J0_coder_7d493 : Cond.code yJ0_coder_7d493 cJ0_coder_7d493 1 (some .byte) ∈ km_G := List.mem_filter.mpr ⟨km_t2 (List.mem_of_getElem? (i := 167) rfl), rfl⟩
theorem ww_i_J0_coder_7d493 : Cond.instanceMethod yJ0_coder_7d493 ∈ km_G := km_gw_s (i := 499) (by decide +kernel)
theorem ww_v_J0_coder_7d493 : Cond.selects RJ0 yJ0_coder_7d493 yJ0_coder_7d493 ∈ km_G := km_gw_s (i := 500) (by decide +kernel)
set_option maxRecDepth 100000 in
theorem ww_c_J0_isLatin1_aae02 : Cond.code yJ0_isLatin1_aae02 cJ0_isLatin1_aae02 1 (some .boolean) ∈ km_G := List.mem_filter.mpr ⟨km_t2 (List.mem_of_getElem? (i := 177) rfl), rfl⟩
theorem ww_i_J0_isLatin1_aae02 : Cond.instanceMethod yJ0_isLatin1_aae02 ∈ km_G := km_gw_s (i := 509) (by decide +kernel)
theorem ww_v_J0_isLatin1_aae02 : Cond.selects RJ0 yJ0_isLatin1_aae02 yJ0_isLatin1_aae02 ∈ km_G := km_gw_s (i := 510) (by decide +kernel)
set_option maxRecDepth 100000 in
theorem ww_c_J0_checkIndex_df160 : Cond.code yJ0_checkIndex_df160 cJ0_checkIndex_df160 2 none ∈ km_G := List.mem_filter.mpr ⟨km_t2 (List.mem_of_getElem? (i := 183) rfl), rfl⟩
theorem ww_s_J0_checkIndex_df160 : Cond.static yJ0_checkIndex_df160 ∈ km_G := km_gw_s (i := 516) (by decide +kernel)
set_option maxRecDepth 100000 in
theorem ww_c_J1_charAt_3b067 : Cond.code yJ1_charAt_3b067 cJ1_charAt_3b067 2 (some .char) ∈ km_G := List.mem_filter.mpr ⟨km_t2 (List.mem_of_getElem? (i := 180) rfl), rfl⟩
theorem ww_s_J1_charAt_3b067 : Cond.static yJ1_charAt_3b067 ∈ km_G := km_gw_s (i := 513) (by decide +kernel)
set_option maxRecDepth 100000 in
theorem ww_c_J3_checkIndex_8e157 : Cond.code yJ3_checkIndex_8e157 cJ3_checkIndex_8e157 3 (some .int) ∈ km_G := List.mem_filter.mpr ⟨km_t2 (List.mem_of_getElem? (i := 188) rfl), rfl⟩
theorem ww_s_J3_checkIndex_8e157 : Cond.static yJ3_checkIndex_8e157 ∈ km_G := km_gw_s (i := 521) (by decide +kernel)
theorem ww_in0 : Cond.initialized RJ0 ∈ km_G := km_gw_s (i := 105) (by decide +kernel)
theorem ww_in1 : Cond.initialized RJ1 ∈ km_G := km_gw_s (i := 106) (by decide +kernel)
theorem ww_in3 : Cond.initialized RJ3 ∈ km_G := km_gw_s (i := 107) (by decide +kernel)
theorem ww_l335 : Cond.methodLink RJ0 335 yJ0_coder_7d493 ∈ km_G := km_gw_s (i := 498) (by decide +kernel)
theorem ww_l492 : Cond.methodLink RJ0 492 yJ0_isLatin1_aae02 ∈ km_G := km_gw_s (i := 508) (by decide +kernel)
theorem ww_l495 : Cond.methodLink RJ0 495 yJ1_charAt_3b067 ∈ km_G := km_gw_s (i := 512) (by decide +kernel)
theorem ww_l1059 : Cond.methodLink RJ0 1059 yJ3_checkIndex_8e157 ∈ km_G := km_gw_s (i := 520) (by decide +kernel)
theorem ww_l9 : Cond.methodLink RJ1 9 yJ0_checkIndex_df160 ∈ km_G := km_gw_s (i := 515) (by decide +kernel)
theorem ww_f38 : Cond.fieldLink RJ0 38 "java/lang/String" "COMPACT_STRINGS" "Z" ∈ km_G := km_gw_s (i := 502) (by decide +kernel)
theorem ww_f15 : Cond.fieldLink RJ0 15 "java/lang/String" "coder" "B" ∈ km_G := km_gw_s (i := 1525) (by decide +kernel)
theorem ww_f9 : Cond.fieldLink RJ0 9 "java/lang/String" "value" "[B" ∈ km_G := km_gw_s (i := 1524) (by decide +kernel)
theorem ww_f1053 : Cond.fieldLink RJ0 1053 "jdk/internal/util/Preconditions" "SIOOBE_FORMATTER" "Ljava/util/function/BiFunction;" ∈ km_G := km_gw_s (i := 518) (by decide +kernel)
def km_jw (y : MethodName) (b : ByteArray) (mx : Nat) (r : Option FieldType) : List Cond := .code y b mx r :: km_G
theorem km_jg {y : MethodName} {b : ByteArray} {mx : Nat} {r : Option FieldType} (h : Cond.code y b mx r ∈ km_G) : ∀ w ∈ km_jw y b mx r, w ∈ km_G := by
  intro w hw
  rcases List.mem_cons.mp hw with rfl | hw
  · exact h
  · exact hw
def km_SP (D : km_D) (av : List Value) : Array Value → State → Prop := va_Pc av (fun U => km_Str D U U.heap)
theorem km_SP_blind (D : km_D) (av : List Value) : FrameBlind (km_SP D av) := by
  intro a U g mk h
  exact ⟨h.1, h.2.moved (u := U) (Vm.Alike.refl U.vm)⟩
def km_QN : Array Value → State → Outcome → State → Prop := fun _ st o t => o = .returned none ∧ t.heap = st.heap
def km_jr (n : Nat) : Room := { frames := n, cells := 0, slots := 0, locals := 32 * n }
section KJS
variable {p : Program} {l : Launch} {e : Env} {R : Room} {s : State} {m : MethodId} {args : Array Value} {below : List Frame} {meth : Method} {c : Code} {H : Heap} {locs : List Loc} {cells slots : Nat} {Q : State → Prop} {g : JFrame} {rest : List Value} {a : Array Value} {D : km_D}
theorem km_callN (hr : CallRun p l e R s m args below meth c H locs cells slots 0 0 g rest (km_QN) (fun _ => False)) (kk : W p l e R s m args below meth c H locs cells slots Q { g with pc := g.pc + 3, stack := rest }) : W p l e R s m args below meth c H locs cells slots Q g := by
  intro T hT X
  obtain ⟨v, st₀, t, T', L, h0, X', hL, e1, ⟨hv, hh⟩, st⟩ := hr T hT X
  cases hv
  obtain ⟨t2, a1, b1⟩ := kk T' (by rw [e1, hh, h0]) (Stand.forget X' (fun q h => (hL q h).elim))
  exact ⟨t2, st t2 a1, b1⟩
end KJS
def km_A (D : km_D) : Nat → Prop := fun q => km_bs D ≤ q
set_option maxHeartbeats 4000000 in
theorem cs_coder (l : Launch) (D : km_D) {w : Nat} (hw : w < 4) : Met l yJ0_coder_7d493 (km_jw yJ0_coder_7d493 cJ0_coder_7d493 1 (some .byte)) (km_jr 0) (km_SP D [.ref (km_ad D (1000001 + w))]) (QcRead 0) 0 0 (fun _ => False) := by
  refine va_MetF (cc := cJ0_coder_7d493) (maxL := 1) (ret := (some .byte)) (by decide +kernel) rfl ?_
  intro p e s m args below meth c s₁ B hml hv
  obtain ⟨rfl, hZ⟩ := hv
  have hx := B.exec
  have hb := B.bytes
  have hr := B.returns
  have hts := atoms_spec (ws := km_jw yJ0_coder_7d493 cJ0_coder_7d493 1 (some .byte)) B.pre
  have hG : ∀ w ∈ km_G, w.before ([.ref (km_ad D (1000001 + w))] : List Value).toArray s = true := fun w hw => hts w (List.mem_cons_of_mem _ hw)
  have hown : s.vm.findClass RJ0 = some m.cls := findClass_of_methodNamed B.named
  have hlocks := B.notSynchronized
  have hS : va_S (km_A D) s.heap s.heap [] := va_S.rf
  have hl := lv_entry ([.ref (km_ad D (1000001 + w))]) (n := 1) (Nat.le_of_ble_eq_true rfl)
  rw [lg_entry_eq]
  generalize (lg_sl ([.ref (km_ad D (1000001 + w))]) ++ List.replicate (1 - (lg_sl ([.ref (km_ad D (1000001 + w))])).length) Slot.unset).toArray = ls at hl ⊢
  have hl : lv_has ls 1 [(0, .ref (km_ad D (1000001 + w)))] := hl
  obtain ⟨⟨adV, hV⟩, hC, -⟩ := hZ
  refine va_gets hx hb hC hS hown (hG _ ww_f38) (fun _ h => h) ds_J0_coder_7d493_0 ?_
  refine lv_if_eq (tgt := 13) hx hb ds_J0_coder_7d493_3 rfl (fun h => absurd h (by decide)) (fun _ => ?_)
  refine lv_aload_n hx hb ds_J0_coder_7d493_6 rfl (lv_at hl 0 rfl) ?_
  refine vk_getf hx hb (hV.1 w hw).2.1 hS hown (hG _ ww_f15) (fun _ h => h) ds_J0_coder_7d493_7 ?_
  refine lv_goto (tgt := 14) hx hb ds_J0_coder_7d493_10 rfl ?_
  exact W.zret hx hb hr rfl (fun t ht hW => ⟨rfl, ht⟩) (fun q h => by cases h) ds_J0_coder_7d493_14
set_option maxHeartbeats 4000000 in
theorem cs_latin (l : Launch) (D : km_D) {w : Nat} (hw : w < 4) : Met l yJ0_isLatin1_aae02 (km_jw yJ0_isLatin1_aae02 cJ0_isLatin1_aae02 1 (some .boolean)) (km_jr 0) (km_SP D [.ref (km_ad D (1000001 + w))]) (QcRead 1) 0 0 (fun _ => False) := by
  refine va_MetF (cc := cJ0_isLatin1_aae02) (maxL := 1) (ret := (some .boolean)) (by decide +kernel) rfl ?_
  intro p e s m args below meth c s₁ B hml hv
  obtain ⟨rfl, hZ⟩ := hv
  have hx := B.exec
  have hb := B.bytes
  have hr := B.returns
  have hts := atoms_spec (ws := km_jw yJ0_isLatin1_aae02 cJ0_isLatin1_aae02 1 (some .boolean)) B.pre
  have hG : ∀ w ∈ km_G, w.before ([.ref (km_ad D (1000001 + w))] : List Value).toArray s = true := fun w hw => hts w (List.mem_cons_of_mem _ hw)
  have hown : s.vm.findClass RJ0 = some m.cls := findClass_of_methodNamed B.named
  have hlocks := B.notSynchronized
  have hS : va_S (km_A D) s.heap s.heap [] := va_S.rf
  have hl := lv_entry ([.ref (km_ad D (1000001 + w))]) (n := 1) (Nat.le_of_ble_eq_true rfl)
  rw [lg_entry_eq]
  generalize (lg_sl ([.ref (km_ad D (1000001 + w))]) ++ List.replicate (1 - (lg_sl ([.ref (km_ad D (1000001 + w))])).length) Slot.unset).toArray = ls at hl ⊢
  have hl : lv_has ls 1 [(0, .ref (km_ad D (1000001 + w)))] := hl
  obtain ⟨⟨adV, hV⟩, hC, -⟩ := hZ
  refine va_gets hx hb hC hS hown (hG _ ww_f38) (fun _ h => h) ds_J0_isLatin1_aae02_0 ?_
  refine lv_if_eq (tgt := 17) hx hb ds_J0_isLatin1_aae02_3 rfl (fun h => absurd h (by decide)) (fun _ => ?_)
  refine lv_aload_n hx hb ds_J0_isLatin1_aae02_6 rfl (lv_at hl 0 rfl) ?_
  refine vk_getf hx hb (hV.1 w hw).2.1 hS hown (hG _ ww_f15) (fun _ h => h) ds_J0_isLatin1_aae02_7 ?_
  refine lv_if_ne (tgt := 17) hx hb ds_J0_isLatin1_aae02_10 rfl (fun h => absurd rfl h) (fun _ => ?_)
  refine lv_iconst (v := 1) hx hb ds_J0_isLatin1_aae02_13 (by decide) ?_
  refine lv_goto (tgt := 18) hx hb ds_J0_isLatin1_aae02_14 rfl ?_
  exact W.zret hx hb hr rfl (fun t ht hW => ⟨rfl, ht⟩) (fun q h => by cases h) ds_J0_isLatin1_aae02_18
set_option maxHeartbeats 4000000 in
theorem cs_length (l : Launch) (D : km_D) {w : Nat} (hw : w < 4) : Met l yJ0_length_8abf5 (km_jw yJ0_length_8abf5 cJ0_length_8abf5 1 (some .int)) (km_jr 1) (km_SP D [.ref (km_ad D (1000001 + w))]) (QcRead (Int32.ofNat (km_tx w).length)) 0 0 (fun _ => False) := by
  refine va_MetF (cc := cJ0_length_8abf5) (maxL := 1) (ret := (some .int)) (by decide +kernel) rfl ?_
  intro p e s m args below meth c s₁ B hml hv
  obtain ⟨rfl, hZ⟩ := hv
  have hx := B.exec
  have hb := B.bytes
  have hr := B.returns
  have hts := atoms_spec (ws := km_jw yJ0_length_8abf5 cJ0_length_8abf5 1 (some .int)) B.pre
  have hG : ∀ w ∈ km_G, w.before ([.ref (km_ad D (1000001 + w))] : List Value).toArray s = true := fun w hw => hts w (List.mem_cons_of_mem _ hw)
  have hown : s.vm.findClass RJ0 = some m.cls := findClass_of_methodNamed B.named
  have hlocks := B.notSynchronized
  have hS : va_S (km_A D) s.heap s.heap [] := va_S.rf
  have hl := lv_entry ([.ref (km_ad D (1000001 + w))]) (n := 1) (Nat.le_of_ble_eq_true rfl)
  rw [lg_entry_eq]
  generalize (lg_sl ([.ref (km_ad D (1000001 + w))]) ++ List.replicate (1 - (lg_sl ([.ref (km_ad D (1000001 + w))])).length) Slot.unset).toArray = ls at hl ⊢
  have hl : lv_has ls 1 [(0, .ref (km_ad D (1000001 + w)))] := hl
  have hZ0 := hZ
  obtain ⟨⟨adV, hV⟩, hC, -⟩ := hZ
  refine lv_aload_n hx hb ds_J0_length_8abf5_0 rfl (lv_at hl 0 rfl) ?_
  refine vk_getf hx hb (hV.1 w hw).2.2.1 hS hown (hG _ ww_f9) (fun _ h => h) ds_J0_length_8abf5_1 ?_
  refine va_tlen (v := Int32.ofNat (km_tx w).length) hx hb (hV.1 w hw).2.2.2 hS (by rcases (show w = 0 ∨ w = 1 ∨ w = 2 ∨ w = 3 by omega) with rfl | rfl | rfl | rfl <;> rfl) ds_J0_length_8abf5_4 ?_
  refine lv_aload_n hx hb ds_J0_length_8abf5_5 rfl (lv_at hl 0 rfl) ?_
  obtain ⟨cellB, b1, b2, b3⟩ := vk_recv hV hw hS
  refine W.callR (r := 0) (W.runV (As := []) (rest := [.int (Int32.ofNat (km_tx w).length)]) ⟨hx, hb, hml, hown, hG⟩ (cs_coder l D hw) (cwV 0 hG (C := RJ0) (km_goodIn (fun z hz => by
      unfold wsV at hz
      rcases List.mem_append.mp hz with hz | hz
      · simp only [List.mem_cons, List.not_mem_nil, or_false] at hz
        rcases hz with rfl | rfl | rfl | rfl
        · exact ww_l335
        · exact ww_i_J0_coder_7d493
        · exact ww_v_J0_coder_7d493
        · exact ww_in0
      · exact km_jg ww_c_J0_coder_7d493 z hz)) rfl rfl rfl (by decide +kernel) ⟨Nat.le_of_ble_eq_true rfl, Nat.le_of_ble_eq_true rfl⟩)
    ⟨km_SP_blind D _, ⟨cellB, b1, b2, b3⟩, fun U hU hW => ⟨rfl, by rw [hU]; exact hZ0.moved hW.alike⟩⟩ rfl rfl hl.1 rfl (Nat.le_of_ble_eq_true rfl) ds_J0_length_8abf5_6 ⟨Nat.le_refl _, Nat.le_refl _⟩) ?_
  refine lv_ishr hx hb ds_J0_length_8abf5_9 ?_
  rw [show Int32.ofNat (km_tx w).length >>> ((0 : Int32) &&& 31) = Int32.ofNat (km_tx w).length by rcases (show w = 0 ∨ w = 1 ∨ w = 2 ∨ w = 3 by omega) with rfl | rfl | rfl | rfl <;> decide]
  exact W.iret hx hb hr (fun t ht hW => ⟨rfl, ht⟩) (fun q h => by cases h) ds_J0_length_8abf5_10
/-- what charAt reads: the texts, and the formatter that it does not use -/
def km_SV (D : km_D) (adV : Nat → Nat) (U : State) : Prop := vk_S 4 [4, 5, 4, 5] km_txB (fun i => km_ad D (1000001 + i)) adV (km_A D) U U.heap ∧ va_Zq "jdk/internal/util/Preconditions" "SIOOBE_FORMATTER" "Ljava/util/function/BiFunction;" (km_A D) U U.heap
def km_SP2 (D : km_D) (adV : Nat → Nat) (av : List Value) : Array Value → State → Prop := va_Pc av (fun U => km_SV D adV U)
theorem km_SV.at {D : km_D} {adV : Nat → Nat} {u U : State} (hv : u.vm.Alike U.vm) (hh : U.heap = u.heap) (h : km_SV D adV u) : km_SV D adV U := by
  refine ⟨?_, ?_⟩
  · rw [hh]; exact h.1.moved hv
  · rw [hh]; exact h.2.moved hv
theorem km_SP2_blind (D : km_D) (adV : Nat → Nat) (av : List Value) : FrameBlind (km_SP2 D adV av) := by
  intro a U g mk h
  exact ⟨h.1, h.2.at (u := U) (Vm.Alike.refl U.vm) rfl⟩
theorem k_txl : ∀ w, w < 4 → ([4, 5, 4, 5] : List Nat).getD w 0 = (km_tx w).length := by decide
theorem k_txc : ∀ w, w < 4 → ∀ k, k < (km_tx w).length → ∀ b, b < 128 → (km_tx w)[k]? = some b → ((km_txB.getD w []).getD k 0 = Int32.ofNat b ∧ (Int32.ofNat b &&& 255 = Int32.ofNat b) ∧ ((Int32.ofNat b).toUInt32 % 65536).toInt32 = Int32.ofNat b ∧ narrow .char (.int (Int32.ofNat b)) = .int (Int32.ofNat b)) ∧ ¬ Int32.ofNat k < 0 ∧ Int32.ofNat k < Int32.ofNat (km_tx w).length ∧ (Int32.ofNat k).toNatClampNeg = k := by decide +kernel
theorem k_txb : ∀ w, w < 4 → (km_tx w).all (fun b => Nat.blt b 128) = true := by decide
set_option maxHeartbeats 4000000 in
theorem cs_pren (l : Launch) (D : km_D) (adV : Nat → Nat) {i n : Int32} (h0 : ¬ i < 0) (h1 : i < n) : Met l yJ3_checkIndex_8e157 (km_jw yJ3_checkIndex_8e157 cJ3_checkIndex_8e157 3 (some .int)) (km_jr 0) (km_SP2 D adV [.int i, .int n, .null]) (QcRead i) 0 0 (fun _ => False) := by
  refine va_MetF (cc := cJ3_checkIndex_8e157) (maxL := 3) (ret := (some .int)) (by decide +kernel) rfl ?_
  intro p e s m args below meth c s₁ B hml hv
  obtain ⟨rfl, hZ⟩ := hv
  have hx := B.exec
  have hb := B.bytes
  have hr := B.returns
  have hts := atoms_spec (ws := km_jw yJ3_checkIndex_8e157 cJ3_checkIndex_8e157 3 (some .int)) B.pre
  have hG : ∀ w ∈ km_G, w.before ([.int i, .int n, .null] : List Value).toArray s = true := fun w hw => hts w (List.mem_cons_of_mem _ hw)
  have hown : s.vm.findClass RJ3 = some m.cls := findClass_of_methodNamed B.named
  have hlocks := B.notSynchronized
  have hS : va_S (km_A D) s.heap s.heap [] := va_S.rf
  have hl := lv_entry ([.int i, .int n, .null]) (n := 3) (Nat.le_of_ble_eq_true rfl)
  rw [lg_entry_eq]
  generalize (lg_sl ([.int i, .int n, .null]) ++ List.replicate (3 - (lg_sl ([.int i, .int n, .null])).length) Slot.unset).toArray = ls at hl ⊢
  have hl : lv_has ls 3 [(0, .int i), (1, .int n), (2, .null)] := hl
  refine lv_iload_n hx hb ds_J3_checkIndex_8e157_0 rfl (lv_at hl 0 rfl) ?_
  refine lv_if_lt (tgt := 9) hx hb ds_J3_checkIndex_8e157_1 rfl (fun h => absurd h h0) (fun _ => ?_)
  refine lv_iload_n hx hb ds_J3_checkIndex_8e157_4 rfl (lv_at hl 0 rfl) ?_
  refine lv_iload_n hx hb ds_J3_checkIndex_8e157_5 rfl (lv_at hl 1 rfl) ?_
  refine lv_icmp_lt (tgt := 16) hx hb ds_J3_checkIndex_8e157_6 rfl (fun _ => ?_) (fun h => absurd h1 h)
  refine lv_iload_n hx hb ds_J3_checkIndex_8e157_16 rfl (lv_at hl 0 rfl) ?_
  exact W.iret hx hb hr (fun t ht hW => ⟨rfl, ht⟩) (fun q h => by cases h) ds_J3_checkIndex_8e157_17
set_option maxHeartbeats 4000000 in
theorem cs_prer (l : Launch) (D : km_D) (adV : Nat → Nat) {i n : Int32} {z : Nat} (h0 : ¬ i < 0) (h1 : i < n) : Met l yJ3_checkIndex_8e157 (km_jw yJ3_checkIndex_8e157 cJ3_checkIndex_8e157 3 (some .int)) (km_jr 0) (km_SP2 D adV [.int i, .int n, .ref z]) (QcRead i) 0 0 (fun _ => False) := by
  refine va_MetF (cc := cJ3_checkIndex_8e157) (maxL := 3) (ret := (some .int)) (by decide +kernel) rfl ?_
  intro p e s m args below meth c s₁ B hml hv
  obtain ⟨rfl, hZ⟩ := hv
  have hx := B.exec
  have hb := B.bytes
  have hr := B.returns
  have hts := atoms_spec (ws := km_jw yJ3_checkIndex_8e157 cJ3_checkIndex_8e157 3 (some .int)) B.pre
  have hG : ∀ w ∈ km_G, w.before ([.int i, .int n, .ref z] : List Value).toArray s = true := fun w hw => hts w (List.mem_cons_of_mem _ hw)
  have hown : s.vm.findClass RJ3 = some m.cls := findClass_of_methodNamed B.named
  have hlocks := B.notSynchronized
  have hS : va_S (km_A D) s.heap s.heap [] := va_S.rf
  have hl := lv_entry ([.int i, .int n, .ref z]) (n := 3) (Nat.le_of_ble_eq_true rfl)
  rw [lg_entry_eq]
  generalize (lg_sl ([.int i, .int n, .ref z]) ++ List.replicate (3 - (lg_sl ([.int i, .int n, .ref z])).length) Slot.unset).toArray = ls at hl ⊢
  have hl : lv_has ls 3 [(0, .int i), (1, .int n), (2, .ref z)] := hl
  refine lv_iload_n hx hb ds_J3_checkIndex_8e157_0 rfl (lv_at hl 0 rfl) ?_
  refine lv_if_lt (tgt := 9) hx hb ds_J3_checkIndex_8e157_1 rfl (fun h => absurd h h0) (fun _ => ?_)
  refine lv_iload_n hx hb ds_J3_checkIndex_8e157_4 rfl (lv_at hl 0 rfl) ?_
  refine lv_iload_n hx hb ds_J3_checkIndex_8e157_5 rfl (lv_at hl 1 rfl) ?_
  refine lv_icmp_lt (tgt := 16) hx hb ds_J3_checkIndex_8e157_6 rfl (fun _ => ?_) (fun h => absurd h1 h)
  refine lv_iload_n hx hb ds_J3_checkIndex_8e157_16 rfl (lv_at hl 0 rfl) ?_
  exact W.iret hx hb hr (fun t ht hW => ⟨rfl, ht⟩) (fun q h => by cases h) ds_J3_checkIndex_8e157_17
set_option maxHeartbeats 4000000 in
theorem cs_chk (l : Launch) (D : km_D) (adV : Nat → Nat) {i n : Int32} (h0 : ¬ i < 0) (h1 : i < n) : Met l yJ0_checkIndex_df160 (km_jw yJ0_checkIndex_df160 cJ0_checkIndex_df160 2 none) (km_jr 1) (km_SP2 D adV [.int i, .int n]) km_QN 0 0 (fun _ => False) := by
  refine va_MetF (cc := cJ0_checkIndex_df160) (maxL := 2) (ret := none) (by decide +kernel) rfl ?_
  intro p e s m args below meth c s₁ B hml hv
  obtain ⟨rfl, hZ⟩ := hv
  have hx := B.exec
  have hb := B.bytes
  have hr := B.returns
  have hts := atoms_spec (ws := km_jw yJ0_checkIndex_df160 cJ0_checkIndex_df160 2 none) B.pre
  have hG : ∀ w ∈ km_G, w.before ([.int i, .int n] : List Value).toArray s = true := fun w hw => hts w (List.mem_cons_of_mem _ hw)
  have hown : s.vm.findClass RJ0 = some m.cls := findClass_of_methodNamed B.named
  have hlocks := B.notSynchronized
  have hS : va_S (km_A D) s.heap s.heap [] := va_S.rf
  have hl := lv_entry ([.int i, .int n]) (n := 2) (Nat.le_of_ble_eq_true rfl)
  rw [lg_entry_eq]
  generalize (lg_sl ([.int i, .int n]) ++ List.replicate (2 - (lg_sl ([.int i, .int n])).length) Slot.unset).toArray = ls at hl ⊢
  have hl : lv_has ls 2 [(0, .int i), (1, .int n)] := hl
  refine lv_iload_n hx hb ds_J0_checkIndex_df160_0 rfl (lv_at hl 0 rfl) ?_
  refine lv_iload_n hx hb ds_J0_checkIndex_df160_1 rfl (lv_at hl 1 rfl) ?_
  rcases hZ.2 with hq | ⟨z, hq⟩
  · refine va_gets hx hb hq hS hown (hG _ ww_f1053) (fun _ h => h) ds_J0_checkIndex_df160_2 ?_
    refine W.callR (r := i) (W.runS (As := [.int i, .int n, .null]) (rest := []) ⟨hx, hb, hml, hown, hG⟩ (cs_pren l D adV h0 h1) (va_cwS 3 hG (km_goodIn (fun z hz => by
      unfold va_wsS at hz
      rcases List.mem_append.mp hz with hz | hz
      · simp only [List.mem_cons, List.not_mem_nil, or_false] at hz
        rcases hz with rfl | rfl | rfl
        · exact ww_l1059
        · exact ww_s_J3_checkIndex_8e157
        · exact ww_in3
      · exact km_jg ww_c_J3_checkIndex_8e157 z hz)) rfl rfl rfl (by decide +kernel) ⟨Nat.le_of_ble_eq_true rfl, Nat.le_of_ble_eq_true rfl⟩)
      ⟨km_SP2_blind D _ _, fun U hU hW => ⟨rfl, hZ.at hW.alike hU⟩⟩ rfl rfl hl.1 rfl (Nat.le_of_ble_eq_true rfl) ds_J0_checkIndex_df160_5 ⟨Nat.le_refl _, Nat.le_refl _⟩) ?_
    refine lv_pop hx hb ds_J0_checkIndex_df160_8 rfl ?_
    exact W.vret hx hb hr (fun t ht hW => ⟨rfl, ht⟩) (fun q h => by cases h) ds_J0_checkIndex_df160_9
  · refine va_gets hx hb hq hS hown (hG _ ww_f1053) (fun _ h => h) ds_J0_checkIndex_df160_2 ?_
    refine W.callR (r := i) (W.runS (As := [.int i, .int n, .ref z]) (rest := []) ⟨hx, hb, hml, hown, hG⟩ (cs_prer l D adV h0 h1) (va_cwS 3 hG (km_goodIn (fun z hz => by
      unfold va_wsS at hz
      rcases List.mem_append.mp hz with hz | hz
      · simp only [List.mem_cons, List.not_mem_nil, or_false] at hz
        rcases hz with rfl | rfl | rfl
        · exact ww_l1059
        · exact ww_s_J3_checkIndex_8e157
        · exact ww_in3
      · exact km_jg ww_c_J3_checkIndex_8e157 z hz)) rfl rfl rfl (by decide +kernel) ⟨Nat.le_of_ble_eq_true rfl, Nat.le_of_ble_eq_true rfl⟩)
      ⟨km_SP2_blind D _ _, fun U hU hW => ⟨rfl, hZ.at hW.alike hU⟩⟩ rfl rfl hl.1 rfl (Nat.le_of_ble_eq_true rfl) ds_J0_checkIndex_df160_5 ⟨Nat.le_refl _, Nat.le_refl _⟩) ?_
    refine lv_pop hx hb ds_J0_checkIndex_df160_8 rfl ?_
    exact W.vret hx hb hr (fun t ht hW => ⟨rfl, ht⟩) (fun q h => by cases h) ds_J0_checkIndex_df160_9

set_option maxHeartbeats 4000000 in
theorem cs_lchar (l : Launch) (D : km_D) (adV : Nat → Nat) {w k b : Nat} (hw : w < 4) (hk : k < (km_tx w).length) (hb128 : b < 128) (hkb : (km_tx w)[k]? = some b) : Met l yJ1_charAt_3b067 (km_jw yJ1_charAt_3b067 cJ1_charAt_3b067 2 (some .char)) (km_jr 2) (km_SP2 D adV [.ref (adV w), .int (Int32.ofNat k)]) (QcRead (Int32.ofNat b)) 0 0 (fun _ => False) := by
  refine va_MetF (cc := cJ1_charAt_3b067) (maxL := 2) (ret := (some .char)) (by decide +kernel) rfl ?_
  intro p e s m args below meth c s₁ B hml hv
  obtain ⟨rfl, hZ⟩ := hv
  have hx := B.exec
  have hb := B.bytes
  have hr := B.returns
  have hts := atoms_spec (ws := km_jw yJ1_charAt_3b067 cJ1_charAt_3b067 2 (some .char)) B.pre
  have hG : ∀ w ∈ km_G, w.before ([.ref (adV w), .int (Int32.ofNat k)] : List Value).toArray s = true := fun w hw => hts w (List.mem_cons_of_mem _ hw)
  have hown : s.vm.findClass RJ1 = some m.cls := findClass_of_methodNamed B.named
  have hlocks := B.notSynchronized
  have hS : va_S (km_A D) s.heap s.heap [] := va_S.rf
  have hl := lv_entry ([.ref (adV w), .int (Int32.ofNat k)]) (n := 2) (Nat.le_of_ble_eq_true rfl)
  rw [lg_entry_eq]
  generalize (lg_sl ([.ref (adV w), .int (Int32.ofNat k)]) ++ List.replicate (2 - (lg_sl ([.ref (adV w), .int (Int32.ofNat k)])).length) Slot.unset).toArray = ls at hl ⊢
  have hl : lv_has ls 2 [(0, .ref (adV w)), (1, .int (Int32.ofNat k))] := hl
  obtain ⟨⟨f1, f2, f3, f4⟩, f5, f6, f7⟩ := k_txc w hw k hk b hb128 hkb
  have hV := (hZ.1.1 w hw).2.2.2
  refine lv_iload_n hx hb ds_J1_charAt_3b067_0 rfl (lv_at hl 1 rfl) ?_
  refine lv_aload_n hx hb ds_J1_charAt_3b067_1 rfl (lv_at hl 0 rfl) ?_
  refine va_tlen (v := Int32.ofNat (km_tx w).length) hx hb hV hS (by rw [k_txl w hw]) ds_J1_charAt_3b067_2 ?_
  refine km_callN (W.runS (As := [.int (Int32.ofNat k), .int (Int32.ofNat (km_tx w).length)]) (rest := []) ⟨hx, hb, hml, hown, hG⟩ (cs_chk l D adV f5 f6) (va_cwS 2 hG (km_goodIn (fun z hz => by
      unfold va_wsS at hz
      rcases List.mem_append.mp hz with hz | hz
      · simp only [List.mem_cons, List.not_mem_nil, or_false] at hz
        rcases hz with rfl | rfl | rfl
        · exact ww_l9
        · exact ww_s_J0_checkIndex_df160
        · exact ww_in0
      · exact km_jg ww_c_J0_checkIndex_df160 z hz)) rfl rfl rfl (by decide +kernel) ⟨Nat.le_of_ble_eq_true rfl, Nat.le_of_ble_eq_true rfl⟩)
      ⟨km_SP2_blind D _ _, fun U hU hW => ⟨rfl, hZ.at hW.alike hU⟩⟩ rfl rfl hl.1 rfl (Nat.le_of_ble_eq_true rfl) ds_J1_charAt_3b067_3 ⟨Nat.le_refl _, Nat.le_refl _⟩) ?_
  refine lv_aload_n hx hb ds_J1_charAt_3b067_6 rfl (lv_at hl 0 rfl) ?_
  refine lv_iload_n hx hb ds_J1_charAt_3b067_7 rfl (lv_at hl 1 rfl) ?_
  refine va_tb (v := .int (Int32.ofNat b)) hx hb hV hS (fun z => z.elim f5 (fun z => by rw [f7, k_txl w hw] at z; omega)) (by rw [f7]; exact congrArg Value.int f1) ds_J1_charAt_3b067_8 ?_
  refine lv_sipush (v := 255) hx hb ds_J1_charAt_3b067_9 (by decide) ?_
  refine lv_iand hx hb ds_J1_charAt_3b067_12 ?_
  rw [f2]
  refine lv_i2c (v := Int32.ofNat b) hx hb ds_J1_charAt_3b067_13 f3 ?_
  exact W.zret hx hb hr f4 (fun t ht hW => ⟨rfl, ht⟩) (fun q h => by cases h) ds_J1_charAt_3b067_14

set_option maxHeartbeats 4000000 in
theorem cs_char (l : Launch) (D : km_D) {w k b : Nat} (hw : w < 4) (hk : k < (km_tx w).length) (hb128 : b < 128) (hkb : (km_tx w)[k]? = some b) : Met l yJ0_charAt_5068e (km_jw yJ0_charAt_5068e cJ0_charAt_5068e 2 (some .char)) (km_jr 3) (km_SP D [.ref (km_ad D (1000001 + w)), .int (Int32.ofNat k)]) (QcRead (Int32.ofNat b)) 0 0 (fun _ => False) := by
  refine va_MetF (cc := cJ0_charAt_5068e) (maxL := 2) (ret := (some .char)) (by decide +kernel) rfl ?_
  intro p e s m args below meth c s₁ B hml hv
  obtain ⟨rfl, hZ⟩ := hv
  have hx := B.exec
  have hb := B.bytes
  have hr := B.returns
  have hts := atoms_spec (ws := km_jw yJ0_charAt_5068e cJ0_charAt_5068e 2 (some .char)) B.pre
  have hG : ∀ w ∈ km_G, w.before ([.ref (km_ad D (1000001 + w)), .int (Int32.ofNat k)] : List Value).toArray s = true := fun w hw => hts w (List.mem_cons_of_mem _ hw)
  have hown : s.vm.findClass RJ0 = some m.cls := findClass_of_methodNamed B.named
  have hlocks := B.notSynchronized
  have hS : va_S (km_A D) s.heap s.heap [] := va_S.rf
  have hl := lv_entry ([.ref (km_ad D (1000001 + w)), .int (Int32.ofNat k)]) (n := 2) (Nat.le_of_ble_eq_true rfl)
  rw [lg_entry_eq]
  generalize (lg_sl ([.ref (km_ad D (1000001 + w)), .int (Int32.ofNat k)]) ++ List.replicate (2 - (lg_sl ([.ref (km_ad D (1000001 + w)), .int (Int32.ofNat k)])).length) Slot.unset).toArray = ls at hl ⊢
  have hl : lv_has ls 2 [(0, .ref (km_ad D (1000001 + w))), (1, .int (Int32.ofNat k))] := hl
  have hZ0 := hZ
  obtain ⟨⟨adV, hV⟩, hC, hF⟩ := hZ
  obtain ⟨⟨f1, f2, f3, f4⟩, f5, f6, f7⟩ := k_txc w hw k hk b hb128 hkb
  refine lv_aload_n hx hb ds_J0_charAt_5068e_0 rfl (lv_at hl 0 rfl) ?_
  obtain ⟨cellB, b1, b2, b3⟩ := vk_recv hV hw hS
  refine W.callR (r := 1) (W.runV (As := []) (rest := []) ⟨hx, hb, hml, hown, hG⟩ (cs_latin l D hw) (cwV 0 hG (C := RJ0) (km_goodIn (fun z hz => by
      unfold wsV at hz
      rcases List.mem_append.mp hz with hz | hz
      · simp only [List.mem_cons, List.not_mem_nil, or_false] at hz
        rcases hz with rfl | rfl | rfl | rfl
        · exact ww_l492
        · exact ww_i_J0_isLatin1_aae02
        · exact ww_v_J0_isLatin1_aae02
        · exact ww_in0
      · exact km_jg ww_c_J0_isLatin1_aae02 z hz)) rfl rfl rfl (by decide +kernel) ⟨Nat.le_of_ble_eq_true rfl, Nat.le_of_ble_eq_true rfl⟩)
    ⟨km_SP_blind D _, ⟨cellB, b1, b2, b3⟩, fun U hU hW => ⟨rfl, by rw [hU]; exact hZ0.moved hW.alike⟩⟩ rfl rfl hl.1 rfl (Nat.le_of_ble_eq_true rfl) ds_J0_charAt_5068e_1 ⟨Nat.le_refl _, Nat.le_refl _⟩) ?_
  refine lv_if_eq (tgt := 16) hx hb ds_J0_charAt_5068e_4 rfl (fun h => absurd h (by decide)) (fun _ => ?_)
  refine lv_aload_n hx hb ds_J0_charAt_5068e_7 rfl (lv_at hl 0 rfl) ?_
  refine vk_getf hx hb (hV.1 w hw).2.2.1 hS hown (hG _ ww_f9) (fun _ h => h) ds_J0_charAt_5068e_8 ?_
  refine lv_iload_n hx hb ds_J0_charAt_5068e_11 rfl (lv_at hl 1 rfl) ?_
  refine W.callR (r := Int32.ofNat b) (W.runS (As := [.ref (adV w), .int (Int32.ofNat k)]) (rest := []) ⟨hx, hb, hml, hown, hG⟩ (cs_lchar l D adV hw hk hb128 hkb) (va_cwS 2 hG (km_goodIn (fun z hz => by
      unfold va_wsS at hz
      rcases List.mem_append.mp hz with hz | hz
      · simp only [List.mem_cons, List.not_mem_nil, or_false] at hz
        rcases hz with rfl | rfl | rfl
        · exact ww_l495
        · exact ww_s_J1_charAt_3b067
        · exact ww_in1
      · exact km_jg ww_c_J1_charAt_3b067 z hz)) rfl rfl rfl (by decide +kernel) ⟨Nat.le_of_ble_eq_true rfl, Nat.le_of_ble_eq_true rfl⟩)
      ⟨km_SP2_blind D _ _, fun U hU hW => ⟨rfl, km_SV.at (u := s) hW.alike hU ⟨hV, hF⟩⟩⟩ rfl rfl hl.1 rfl (Nat.le_of_ble_eq_true rfl) ds_J0_charAt_5068e_12 ⟨Nat.le_refl _, Nat.le_refl _⟩) ?_
  exact W.zret hx hb hr f4 (fun t ht hW => ⟨rfl, ht⟩) (fun q h => by cases h) ds_J0_charAt_5068e_15
end
section
section KMS
variable {p : Program} {l : Launch} {e : Env} {R : Room} {s : State} {m : MethodId} {args : Array Value} {below : List Frame} {meth : Method} {c : Code} {H : Heap} {locs : List Loc} {Q : State → Prop}
variable {cc : ByteArray} {pc nL : Nat} {LS : Array Slot} {po : Nat} {D : km_D}
theorem k_ofNat {x : Int32} (h : ¬ x < 0) : x = Int32.ofNat x.toNatClampNeg := by
  have h0 : (0 : Int) ≤ x.toInt := by
    have := Int32.not_lt.mp h
    simpa using Int32.le_iff_toInt_le.mp this
  have h1 : x.toInt = ((x.toNatClampNeg : Nat) : Int) := by
    show x.toInt = ((x.toInt.toNat : Nat) : Int)
    omega
  rw [← Int32.ofInt_eq_ofNat, ← h1, Int32.ofInt_toInt]
set_option maxHeartbeats 4000000 in
theorem km_strs (X : km_Cx D p s m args c cc nL po) (hls : LS.size = nL) {L L' : km_M} {H0 : Heap} {c0 s0 : Nat} (w : km_Wd D s H0 H L locs) (hfr : 8 ≤ R.frames) (hlo : 512 ≤ R.locals) (hR : L'.length - c0 ≤ R.cells ∧ km_sl L' - s0 ≤ R.slots) {i : Nat} {xs : Nat → Int32} {Lx : Nat} {it : Bool} {st st' : List Value}
    (h : km_mem xs Lx po it (.invokevirtual i) st L = some (st', L')) (hd : decode cc pc = .ok (.invokevirtual i, 3))
    (k : ∀ (H' : Heap) (locs' : List Loc), km_Wd D s H0 H' L' locs' → km_Go p l e R s m args below meth c D H' locs' L' c0 s0 Q (pc + 3) LS st') : km_Go p l e R s m args below meth c D H locs L c0 s0 Q pc LS st := by
  obtain ⟨hx, hb, hml, hown, hG, hK, hD⟩ := X
  have hZ := w.2.2.2.2.1
  obtain ⟨⟨adV, hV⟩, hC, hF⟩ := w.2.2.2.2.1
  simp only [km_mem] at h
  split at h
  · rename_i a r z pl hf
    rcases km_cb h with ⟨hc, h2⟩ | ⟨-, h2⟩
    · cases h2
      simp only [Bool.and_eq_true] at hc
      have h3 := Nat.le_of_ble_eq_true hc.1.1
      have h4 := Nat.le_of_ble_eq_true hc.1.2
      have h5 := Nat.le_of_ble_eq_true hc.2
      unfold km_scr at h3
      obtain ⟨j, rfl⟩ : ∃ j, a = 1000001 + j := ⟨a - 1000001, by omega⟩
      have hj : j < 4 := by omega
      have hI := List.all_eq_true.mp km_I_ok _ (km_fF_mem hf)
      have hlink := km_gw_s (show km_gw pl (.methodLink (km_R po) i yJ0_length_8abf5) = true from hI)
      obtain ⟨cellB, b1, b2, b3, -⟩ := (hV.1 j hj).1
      have k0 := k H locs w
      unfold km_Go at k0 ⊢
      simp only [List.map_cons, Nat.add_sub_cancel_left] at k0 ⊢
      refine W.callR (r := Int32.ofNat (km_tx j).length) (W.runV (As := []) (b := km_ad D (1000001 + j)) (rest := r.map (km_cv (km_ad D))) ⟨hx, hb, hml, hown, hG⟩ (cs_length l D hj) (cwV 0 hG (C := RJ0) (km_goodIn (fun z hz => by
          unfold wsV at hz
          rcases List.mem_append.mp hz with hz | hz
          · simp only [List.mem_cons, List.not_mem_nil, or_false] at hz
            rcases hz with rfl | rfl | rfl | rfl
            · exact hlink
            · exact ww_i_J0_length_8abf5
            · exact ww_v_J0_length_8abf5
            · exact ww_in0
          · exact km_jg ww_c_J0_length_8abf5 z hz)) rfl rfl rfl (by decide +kernel) ⟨Nat.le_trans (Nat.le_of_ble_eq_true rfl : (km_jr 1).frames + 1 ≤ 8) hfr, Nat.le_trans (Nat.le_of_ble_eq_true rfl : 8 + (1 + 11) + (km_jr 1).locals ≤ 512) hlo⟩)
        ⟨km_SP_blind D _, ⟨cellB, b1, b2, b3⟩, fun U hU hW => ⟨rfl, by rw [hU]; exact hZ.moved hW.alike⟩⟩ rfl rfl hls rfl (by show 2 * 0 + _ ≤ _; rw [km_cv_sum]; omega) hd ⟨hR.1, hR.2⟩) ?_
      exact k0
    · cases h2
  · rename_i x a r z pl hf
    rcases km_cb h with ⟨hc, h2⟩ | ⟨-, h2⟩
    · split at h2
      · cases h2
      · rename_i hx0
        split at h2
        · rename_i b hbx
          cases h2
          simp only [Bool.and_eq_true] at hc
          have h3 := Nat.le_of_ble_eq_true hc.1.1
          have h4 := Nat.le_of_ble_eq_true hc.1.2
          have h5 := Nat.le_of_ble_eq_true hc.2
          unfold km_scr at h3
          obtain ⟨j, rfl⟩ : ∃ j, a = 1000001 + j := ⟨a - 1000001, by omega⟩
          have hj : j < 4 := by omega
          rw [Nat.add_sub_cancel_left] at hbx
          have hI := List.all_eq_true.mp km_I_ok _ (km_fF_mem hf)
          have hlink := km_gw_s (show km_gw pl (.methodLink (km_R po) i yJ0_charAt_5068e) = true from hI)
          obtain ⟨cellB, b1, b2, b3, -⟩ := (hV.1 j hj).1
          have hk : x.toNatClampNeg < (km_tx j).length := (List.getElem?_eq_some_iff.mp hbx).1
          have hb128 : b < 128 := Nat.le_of_ble_eq_true (List.all_eq_true.mp (k_txb j hj) b (List.mem_of_getElem? hbx))
          have k0 := k H locs w
          have ex := k_ofNat hx0
          generalize x.toNatClampNeg = q at ex hbx hk
          subst ex
          unfold km_Go at k0 ⊢
          simp only [List.map_cons] at k0 ⊢
          refine W.callR (r := Int32.ofNat b) (W.runV (As := [.int (Int32.ofNat q)]) (b := km_ad D (1000001 + j)) (rest := r.map (km_cv (km_ad D))) ⟨hx, hb, hml, hown, hG⟩ (cs_char l D hj hk hb128 hbx) (cwV 1 hG (C := RJ0) (km_goodIn (fun z hz => by
              unfold wsV at hz
              rcases List.mem_append.mp hz with hz | hz
              · simp only [List.mem_cons, List.not_mem_nil, or_false] at hz
                rcases hz with rfl | rfl | rfl | rfl
                · exact hlink
                · exact ww_i_J0_charAt_5068e
                · exact ww_v_J0_charAt_5068e
                · exact ww_in0
              · exact km_jg ww_c_J0_charAt_5068e z hz)) rfl rfl rfl (by decide +kernel) ⟨Nat.le_trans (Nat.le_of_ble_eq_true rfl : (km_jr 3).frames + 1 ≤ 8) hfr, Nat.le_trans (Nat.le_of_ble_eq_true rfl : 8 + (2 + 11) + (km_jr 3).locals ≤ 512) hlo⟩)
            ⟨km_SP_blind D _, ⟨cellB, b1, b2, b3⟩, fun U hU hW => ⟨rfl, by rw [hU]; exact hZ.moved hW.alike⟩⟩ rfl rfl hls rfl (by show 2 * 0 + _ ≤ _; rw [km_cv_sum]; omega) hd ⟨hR.1, hR.2⟩) ?_
          exact k0
        · cases h2
    · cases h2
  · cases h
end KMS
end
section
section KM7
variable {p : Program} {l : Launch} {e : Env} {R : Room} {s : State} {m : MethodId} {args : Array Value} {below : List Frame} {meth : Method} {c : Code} {H : Heap} {locs : List Loc} {Q : State → Prop}
variable {cc : ByteArray} {pc nL : Nat} {LS : Array Slot} {po : Nat} {D : km_D}
set_option maxHeartbeats 4000000 in
theorem km_mem_sim (X : km_Cx D p s m args c cc nL po) {it : Bool} (hit : it = true → meth.name = "<init>") (hls : LS.size = nL) {L L' : km_M} {H0 : Heap} {c0 s0 : Nat} (w : km_Wd D s H0 H L locs) (hc0 : c0 ≤ L.length) (hs0 : s0 ≤ km_sl L)
    (hfr : 8 ≤ R.frames) (hlo : 512 ≤ R.locals) (hR : L'.length - c0 ≤ R.cells ∧ km_sl L' - s0 ≤ R.slots)
    {ins : KI} {st st' : List Value} (h : km_mem (km_xs D) (km_Lx D) po it ins st L = some (st', L')) (hd : decode cc pc = .ok (ins, km_len ins))
    (k : ∀ (H' : Heap) (locs' : List Loc), km_Wd D s H0 H' L' locs' → km_Go p l e R s m args below meth c D H' locs' L' c0 s0 Q (pc + km_len ins) LS st') : km_Go p l e R s m args below meth c D H locs L c0 s0 Q pc LS st := by
  have h' := h
  cases ins <;> simp only [km_mem, reduceCtorEq] at h
  case iaload => exact km_mem_sim1 X hit w (by simp) h' hd k
  case baload => exact km_mem_sim1 X hit w (by simp) h' hd k
  case laload => exact km_mem_sim1 X hit w (by simp) h' hd k
  case aaload => exact km_mem_sim1 X hit w (by simp) h' hd k
  case iastore => exact km_mem_sim1 X hit w (by simp) h' hd k
  case bastore => exact km_mem_sim1 X hit w (by simp) h' hd k
  case lastore => exact km_mem_sim1 X hit w (by simp) h' hd k
  case arraylength => exact km_mem_sim1 X hit w (by simp) h' hd k
  case getfield i => exact km_mem_sim1 X hit w (by simp) h' hd k
  case putfield i => exact km_mem_sim1 X hit w (by simp) h' hd k
  case aastore =>
    split at h
    · rename_i x i a r
      split at h
      · rename_i L2 hv
        cases h
        rcases km_or_s hv with hv | hv
        · rcases km_cb hv with ⟨hb, hv⟩ | ⟨-, hv⟩
          · exact km_aast X w (kk := 2) (by decide) (by decide) (by decide) rfl hb hv hd k
          · cases hv
        · rcases km_cb hv with ⟨hb, hv⟩ | ⟨-, hv⟩
          · exact km_aast X w (kk := 5) (by decide) (by decide) (by decide) rfl hb hv hd k
          · cases hv
      · cases h
    · cases h
  case new i =>
    split at h
    · rename_i kk z pl hf
      rcases km_cb h with ⟨hb, h2⟩ | ⟨-, h2⟩
      · obtain ⟨h3, rfl, rfl⟩ := km_new_s h2
        simp only [List.length_append, List.length_singleton, km_sl_app, km_sl_one] at hR
        exact km_newobj X w hc0 hs0 hf (Nat.le_of_ble_eq_true hb) (by omega) ⟨by omega, by omega⟩ hd (fun H' w' => k H' locs w')
      · cases h2
    · cases h
  case newarray t =>
    split at h
    · rename_i n r
      split at h
      · cases h
      · rename_i hn
        split at h
        · obtain ⟨h3, rfl, rfl⟩ := km_new_s h
          simp only [List.length_append, List.length_singleton, km_sl_app, km_sl_one] at hR
          exact km_newarr (t := .byte) X w hc0 hs0 km_ac_byte rfl (by decide) rfl hn (by omega) (by decide) ⟨by omega, by omega⟩ hd (fun H' w' => k H' locs w')
        · obtain ⟨h3, rfl, rfl⟩ := km_new_s h
          simp only [List.length_append, List.length_singleton, km_sl_app, km_sl_one] at hR
          exact km_newarr (t := .int) X w hc0 hs0 km_ac_int rfl (by decide) rfl hn (by omega) (by decide) ⟨by omega, by omega⟩ hd (fun H' w' => k H' locs w')
        · obtain ⟨h3, rfl, rfl⟩ := km_new_s h
          simp only [List.length_append, List.length_singleton, km_sl_app, km_sl_one] at hR
          exact km_newarr (t := .long) X w hc0 hs0 km_ac_long rfl (by decide) rfl hn (by omega) (by decide) ⟨by omega, by omega⟩ hd (fun H' w' => k H' locs w')
        · obtain ⟨h3, rfl, rfl⟩ := km_new_s h
          simp only [List.length_append, List.length_singleton, km_sl_app, km_sl_one] at hR
          exact km_newarr (t := .boolean) X w hc0 hs0 km_ac_boolean rfl (by decide) rfl hn (by omega) (by decide) ⟨by omega, by omega⟩ hd (fun H' w' => k H' locs w')
        · cases h
    · cases h
  case anewarray i =>
    split at h
    · rename_i n r kk z pl hf
      split at h
      · cases h
      · rename_i hn
        rcases km_cb h with ⟨hb, h2⟩ | ⟨-, h2⟩
        · obtain ⟨h3, rfl, rfl⟩ := km_new_s h2
          have e := km_beq hb
          subst e
          simp only [List.length_append, List.length_singleton, km_sl_app, km_sl_one] at hR
          exact km_newref X w hc0 hs0 hf (by decide) rfl (by decide) X.2.2.2.2.2.1.2.2.2.1 hn (by omega) ⟨by omega, by omega⟩ hd (fun H' w' => k H' locs w')
        · rcases km_cb h2 with ⟨hb, h4⟩ | ⟨-, h4⟩
          · obtain ⟨h3, rfl, rfl⟩ := km_new_s h4
            have e := km_beq hb
            subst e
            simp only [List.length_append, List.length_singleton, km_sl_app, km_sl_one] at hR
            exact km_newref X w hc0 hs0 hf (by decide) rfl (by decide) X.2.2.2.2.2.1.2.2.2.2.1 hn (by omega) ⟨by omega, by omega⟩ hd (fun H' w' => k H' locs w')
          · cases h4
    · cases h
  case multianewarray i d =>
    split at h
    · rename_i y x r kk z pl hf
      split at h
      · cases h
      · rename_i hn
        rcases km_cb h with ⟨hb, h2⟩ | ⟨-, h2⟩
        · cases h2
          simp only [Bool.and_eq_true] at hb
          obtain ⟨⟨e1, e2⟩, e3⟩ := hb
          have e1 := km_beq e1
          have e2 := km_beq e2
          subst e1; subst e2
          exact km_multi X w hc0 hs0 hf hn (Nat.le_of_ble_eq_true e3) hR hd (fun H' w' => k H' locs w')
        · cases h2
    · cases h
  case invokespecial i =>
    split at h
    · rename_i a r z pl hf
      rcases km_cb h with ⟨hq, h2⟩ | ⟨-, h2⟩
      rotate_left
      · cases h2
      cases h2
      have hq := Nat.le_of_ble_eq_true hq
      obtain ⟨hx, hb, hml, hown, hG, hK, hD⟩ := X
      have hI := List.all_eq_true.mp km_I_ok _ (km_fF_mem hf)
      have hlink := km_gw_s (show km_gw pl (.methodLink (km_R po) i objectInit) = true from hI)
      unfold km_Go at k ⊢
      refine W.objInit hx hb hown (hG _ hlink) (hG _ km_oi1) (hG _ km_oi2) rfl (by rw [hml]; exact hls) rfl hd (by omega) ?_ (k H locs w)
      rw [km_cv_sum]
      show 2 * 0 + _ + 12 ≤ _
      omega
    · cases h
  case invokestatic i =>
    split at h
    · rename_i n dp b sp a r z pl hf
      split at h
      · rename_i f g hLa hLb
        split at h
        · rename_i hh
          cases h
          exact km_copy X hls w hf hLa hLb hh (by omega) (by omega) hd k
        · cases h
      · cases h
    · cases h
  case invokevirtual i => exact km_strs X hls w hfr hlo hR h' hd k
end KM7
end

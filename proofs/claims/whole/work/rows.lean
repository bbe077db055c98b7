section
-- ===== PART A: goes FIRST, ahead of the names: the tables' words, and 'selects' of the private methods out of them =====
/-- a private method of a class that the tables say can be made, by its rows of tables_1 -/
def lw_okq (q : MethodName × Nat) : Prop := (q.1.cls ≠ "java/lang/invoke/MethodHandle" ∧ q.1.cls ≠ "java/lang/invoke/VarHandle") ∧ Cond.instantiable q.1.cls q.2 ∈ tables_1 ∧ Cond.privateMethod q.1 ∈ tables_1 ∧ Cond.instanceMethod q.1 ∈ tables_1
theorem lw_p0 : lw_okq (⟨"KnotRows$Reader", "takesTokens", "(LKnotRows$Tape;)Z"⟩, 18) := ⟨⟨by decide +kernel, by decide +kernel⟩, List.mem_of_getElem? (i := 58) (by decide +kernel), List.mem_of_getElem? (i := 370) (by decide +kernel), List.mem_of_getElem? (i := 371) (by decide +kernel)⟩
theorem lw_p1 : lw_okq (⟨"KnotRows$Tape", "byteAt", "(I)I"⟩, 6) := ⟨⟨by decide +kernel, by decide +kernel⟩, List.mem_of_getElem? (i := 27) (by decide +kernel), List.mem_of_getElem? (i := 382) (by decide +kernel), List.mem_of_getElem? (i := 383) (by decide +kernel)⟩
theorem lw_p2 : lw_okq (⟨"KnotRows$Tape", "stepWord", "()V"⟩, 6) := ⟨⟨by decide +kernel, by decide +kernel⟩, List.mem_of_getElem? (i := 27) (by decide +kernel), List.mem_of_getElem? (i := 392) (by decide +kernel), List.mem_of_getElem? (i := 393) (by decide +kernel)⟩
theorem lw_p3 : lw_okq (⟨"KnotRows$Tape", "spells", "(Ljava/lang/String;)Z"⟩, 6) := ⟨⟨by decide +kernel, by decide +kernel⟩, List.mem_of_getElem? (i := 27) (by decide +kernel), List.mem_of_getElem? (i := 397) (by decide +kernel), List.mem_of_getElem? (i := 398) (by decide +kernel)⟩
theorem lw_p4 : lw_okq (⟨"KnotRows$Tape", "stepInt", "()V"⟩, 6) := ⟨⟨by decide +kernel, by decide +kernel⟩, List.mem_of_getElem? (i := 27) (by decide +kernel), List.mem_of_getElem? (i := 455) (by decide +kernel), List.mem_of_getElem? (i := 456) (by decide +kernel)⟩
theorem lw_p5 : lw_okq (⟨"KnotRows$Reader", "fails", "(II)Z"⟩, 18) := ⟨⟨by decide +kernel, by decide +kernel⟩, List.mem_of_getElem? (i := 58) (by decide +kernel), List.mem_of_getElem? (i := 459) (by decide +kernel), List.mem_of_getElem? (i := 460) (by decide +kernel)⟩
theorem lw_p6 : lw_okq (⟨"KnotRows$Reader", "takes", "(ILKnotRows$Tape;)Z"⟩, 18) := ⟨⟨by decide +kernel, by decide +kernel⟩, List.mem_of_getElem? (i := 58) (by decide +kernel), List.mem_of_getElem? (i := 466) (by decide +kernel), List.mem_of_getElem? (i := 467) (by decide +kernel)⟩
theorem lw_p7 : lw_okq (⟨"KnotRows$Reader", "takesRing", "()Z"⟩, 18) := ⟨⟨by decide +kernel, by decide +kernel⟩, List.mem_of_getElem? (i := 58) (by decide +kernel), List.mem_of_getElem? (i := 470) (by decide +kernel), List.mem_of_getElem? (i := 471) (by decide +kernel)⟩
theorem lw_p8 : lw_okq (⟨"KnotRows$Reader", "takesSign", "(Z)Z"⟩, 18) := ⟨⟨by decide +kernel, by decide +kernel⟩, List.mem_of_getElem? (i := 58) (by decide +kernel), List.mem_of_getElem? (i := 474) (by decide +kernel), List.mem_of_getElem? (i := 475) (by decide +kernel)⟩
theorem lw_p9 : lw_okq (⟨"KnotRows$Reader", "takesInt", "(ILKnotRows$Tape;)Z"⟩, 18) := ⟨⟨by decide +kernel, by decide +kernel⟩, List.mem_of_getElem? (i := 58) (by decide +kernel), List.mem_of_getElem? (i := 478) (by decide +kernel), List.mem_of_getElem? (i := 479) (by decide +kernel)⟩
theorem lw_p10 : lw_okq (⟨"KnotRows$Reader", "takesNumber", "()Z"⟩, 18) := ⟨⟨by decide +kernel, by decide +kernel⟩, List.mem_of_getElem? (i := 58) (by decide +kernel), List.mem_of_getElem? (i := 482) (by decide +kernel), List.mem_of_getElem? (i := 483) (by decide +kernel)⟩
theorem lw_p11 : lw_okq (⟨"KnotRows$Reader", "braidStands", "()Z"⟩, 18) := ⟨⟨by decide +kernel, by decide +kernel⟩, List.mem_of_getElem? (i := 58) (by decide +kernel), List.mem_of_getElem? (i := 489) (by decide +kernel), List.mem_of_getElem? (i := 490) (by decide +kernel)⟩
theorem lw_p12 : lw_okq (⟨"KnotRows$Reader", "weave", "(LKnotRows$Rows;)V"⟩, 18) := ⟨⟨by decide +kernel, by decide +kernel⟩, List.mem_of_getElem? (i := 58) (by decide +kernel), List.mem_of_getElem? (i := 493) (by decide +kernel), List.mem_of_getElem? (i := 494) (by decide +kernel)⟩
theorem lw_p13 : lw_okq (⟨"KnotRows$Reader", "placeBehind", "(II)I"⟩, 18) := ⟨⟨by decide +kernel, by decide +kernel⟩, List.mem_of_getElem? (i := 58) (by decide +kernel), List.mem_of_getElem? (i := 497) (by decide +kernel), List.mem_of_getElem? (i := 498) (by decide +kernel)⟩
theorem lw_p14 : lw_okq (⟨"KnotRows$Reader", "ringsStand", "()Z"⟩, 18) := ⟨⟨by decide +kernel, by decide +kernel⟩, List.mem_of_getElem? (i := 58) (by decide +kernel), List.mem_of_getElem? (i := 501) (by decide +kernel), List.mem_of_getElem? (i := 502) (by decide +kernel)⟩
theorem lw_p15 : lw_okq (⟨"KnotRows$Reader", "isPartner", "(III)Z"⟩, 18) := ⟨⟨by decide +kernel, by decide +kernel⟩, List.mem_of_getElem? (i := 58) (by decide +kernel), List.mem_of_getElem? (i := 505) (by decide +kernel), List.mem_of_getElem? (i := 506) (by decide +kernel)⟩
def lw_privs_1 : List (MethodName × Nat) := [(⟨"KnotRows$Reader", "takesTokens", "(LKnotRows$Tape;)Z"⟩, 18), (⟨"KnotRows$Tape", "byteAt", "(I)I"⟩, 6), (⟨"KnotRows$Tape", "stepWord", "()V"⟩, 6), (⟨"KnotRows$Tape", "spells", "(Ljava/lang/String;)Z"⟩, 6), (⟨"KnotRows$Tape", "stepInt", "()V"⟩, 6), (⟨"KnotRows$Reader", "fails", "(II)Z"⟩, 18), (⟨"KnotRows$Reader", "takes", "(ILKnotRows$Tape;)Z"⟩, 18), (⟨"KnotRows$Reader", "takesRing", "()Z"⟩, 18), (⟨"KnotRows$Reader", "takesSign", "(Z)Z"⟩, 18), (⟨"KnotRows$Reader", "takesInt", "(ILKnotRows$Tape;)Z"⟩, 18), (⟨"KnotRows$Reader", "takesNumber", "()Z"⟩, 18), (⟨"KnotRows$Reader", "braidStands", "()Z"⟩, 18), (⟨"KnotRows$Reader", "weave", "(LKnotRows$Rows;)V"⟩, 18), (⟨"KnotRows$Reader", "placeBehind", "(II)I"⟩, 18), (⟨"KnotRows$Reader", "ringsStand", "()Z"⟩, 18), (⟨"KnotRows$Reader", "isPartner", "(III)Z"⟩, 18)]
theorem lw_r1 : ∀ q ∈ lw_privs_1, lw_okq q := List.forall_mem_cons.mpr ⟨lw_p0, List.forall_mem_cons.mpr ⟨lw_p1, List.forall_mem_cons.mpr ⟨lw_p2, List.forall_mem_cons.mpr ⟨lw_p3, List.forall_mem_cons.mpr ⟨lw_p4, List.forall_mem_cons.mpr ⟨lw_p5, List.forall_mem_cons.mpr ⟨lw_p6, List.forall_mem_cons.mpr ⟨lw_p7, List.forall_mem_cons.mpr ⟨lw_p8, List.forall_mem_cons.mpr ⟨lw_p9, List.forall_mem_cons.mpr ⟨lw_p10, List.forall_mem_cons.mpr ⟨lw_p11, List.forall_mem_cons.mpr ⟨lw_p12, List.forall_mem_cons.mpr ⟨lw_p13, List.forall_mem_cons.mpr ⟨lw_p14, List.forall_mem_cons.mpr ⟨lw_p15, fun _ h => absurd h List.not_mem_nil⟩⟩⟩⟩⟩⟩⟩⟩⟩⟩⟩⟩⟩⟩⟩⟩
theorem lw_p16 : lw_okq (⟨"KnotRows$Reader", "string", "(LKnotRows$Rows;)V"⟩, 18) := ⟨⟨by decide +kernel, by decide +kernel⟩, List.mem_of_getElem? (i := 58) (by decide +kernel), List.mem_of_getElem? (i := 509) (by decide +kernel), List.mem_of_getElem? (i := 510) (by decide +kernel)⟩
theorem lw_p17 : lw_okq (⟨"KnotRows$Drawing", "joinPasses", "(LKnotRows$Rows;)V"⟩, 11) := ⟨⟨by decide +kernel, by decide +kernel⟩, List.mem_of_getElem? (i := 165) (by decide +kernel), List.mem_of_getElem? (i := 517) (by decide +kernel), List.mem_of_getElem? (i := 518) (by decide +kernel)⟩
theorem lw_p18 : lw_okq (⟨"KnotRows$Drawing", "joinEnds", "(LKnotRows$Rows;)V"⟩, 11) := ⟨⟨by decide +kernel, by decide +kernel⟩, List.mem_of_getElem? (i := 165) (by decide +kernel), List.mem_of_getElem? (i := 521) (by decide +kernel), List.mem_of_getElem? (i := 522) (by decide +kernel)⟩
theorem lw_p19 : lw_okq (⟨"KnotRows$Drawing", "joinEnd", "(II)V"⟩, 11) := ⟨⟨by decide +kernel, by decide +kernel⟩, List.mem_of_getElem? (i := 165) (by decide +kernel), List.mem_of_getElem? (i := 537) (by decide +kernel), List.mem_of_getElem? (i := 538) (by decide +kernel)⟩
theorem lw_p20 : lw_okq (⟨"KnotRows$Drawing", "walkFaces", "(I)V"⟩, 11) := ⟨⟨by decide +kernel, by decide +kernel⟩, List.mem_of_getElem? (i := 165) (by decide +kernel), List.mem_of_getElem? (i := 541) (by decide +kernel), List.mem_of_getElem? (i := 542) (by decide +kernel)⟩
theorem lw_p21 : lw_okq (⟨"KnotRows$Drawing", "judged", "(LKnotRows$Rows;I)I"⟩, 11) := ⟨⟨by decide +kernel, by decide +kernel⟩, List.mem_of_getElem? (i := 165) (by decide +kernel), List.mem_of_getElem? (i := 545) (by decide +kernel), List.mem_of_getElem? (i := 546) (by decide +kernel)⟩
theorem lw_p22 : lw_okq (⟨"KnotRows$Drawing", "partWith", "(LKnotRows$Rows;I)I"⟩, 11) := ⟨⟨by decide +kernel, by decide +kernel⟩, List.mem_of_getElem? (i := 165) (by decide +kernel), List.mem_of_getElem? (i := 571) (by decide +kernel), List.mem_of_getElem? (i := 572) (by decide +kernel)⟩
theorem lw_p23 : lw_okq (⟨"KnotRows", "changed", "()V"⟩, 17) := ⟨⟨by decide +kernel, by decide +kernel⟩, List.mem_of_getElem? (i := 19) (by decide +kernel), List.mem_of_getElem? (i := 586) (by decide +kernel), List.mem_of_getElem? (i := 587) (by decide +kernel)⟩
theorem lw_p24 : lw_okq (⟨"KnotRows$Arcs", "fill", "(LKnotRows$Rows;II)V"⟩, 3) := ⟨⟨by decide +kernel, by decide +kernel⟩, List.mem_of_getElem? (i := 223) (by decide +kernel), List.mem_of_getElem? (i := 596) (by decide +kernel), List.mem_of_getElem? (i := 597) (by decide +kernel)⟩
theorem lw_p25 : lw_okq (⟨"KnotRows$Arcs", "numberRing", "(LKnotRows$Rows;II)I"⟩, 3) := ⟨⟨by decide +kernel, by decide +kernel⟩, List.mem_of_getElem? (i := 223) (by decide +kernel), List.mem_of_getElem? (i := 600) (by decide +kernel), List.mem_of_getElem? (i := 601) (by decide +kernel)⟩
theorem lw_p26 : lw_okq (⟨"KnotRows", "kindOfFace", "(I)I"⟩, 17) := ⟨⟨by decide +kernel, by decide +kernel⟩, List.mem_of_getElem? (i := 19) (by decide +kernel), List.mem_of_getElem? (i := 612) (by decide +kernel), List.mem_of_getElem? (i := 613) (by decide +kernel)⟩
theorem lw_p27 : lw_okq (⟨"KnotRows$Rows", "swap", "(II)V"⟩, 5) := ⟨⟨by decide +kernel, by decide +kernel⟩, List.mem_of_getElem? (i := 123) (by decide +kernel), List.mem_of_getElem? (i := 642) (by decide +kernel), List.mem_of_getElem? (i := 643) (by decide +kernel)⟩
theorem lw_p28 : lw_okq (⟨"KnotRows", "holds", "(I)Z"⟩, 17) := ⟨⟨by decide +kernel, by decide +kernel⟩, List.mem_of_getElem? (i := 19) (by decide +kernel), List.mem_of_getElem? (i := 699) (by decide +kernel), List.mem_of_getElem? (i := 700) (by decide +kernel)⟩
theorem lw_p29 : lw_okq (⟨"KnotRows", "ownBracket", "()LKnotRows$Bracket;"⟩, 17) := ⟨⟨by decide +kernel, by decide +kernel⟩, List.mem_of_getElem? (i := 19) (by decide +kernel), List.mem_of_getElem? (i := 754) (by decide +kernel), List.mem_of_getElem? (i := 755) (by decide +kernel)⟩
theorem lw_p30 : lw_okq (⟨"KnotRows$Bracket", "tallyStates", "(LKnotRows$Rows;LKnotRows$Drawing;)V"⟩, 3) := ⟨⟨by decide +kernel, by decide +kernel⟩, List.mem_of_getElem? (i := 244) (by decide +kernel), List.mem_of_getElem? (i := 766) (by decide +kernel), List.mem_of_getElem? (i := 767) (by decide +kernel)⟩
theorem lw_p31 : lw_okq (⟨"KnotRows$Bracket", "addPower", "(III)V"⟩, 3) := ⟨⟨by decide +kernel, by decide +kernel⟩, List.mem_of_getElem? (i := 244) (by decide +kernel), List.mem_of_getElem? (i := 773) (by decide +kernel), List.mem_of_getElem? (i := 774) (by decide +kernel)⟩
def lw_privs_2 : List (MethodName × Nat) := [(⟨"KnotRows$Reader", "string", "(LKnotRows$Rows;)V"⟩, 18), (⟨"KnotRows$Drawing", "joinPasses", "(LKnotRows$Rows;)V"⟩, 11), (⟨"KnotRows$Drawing", "joinEnds", "(LKnotRows$Rows;)V"⟩, 11), (⟨"KnotRows$Drawing", "joinEnd", "(II)V"⟩, 11), (⟨"KnotRows$Drawing", "walkFaces", "(I)V"⟩, 11), (⟨"KnotRows$Drawing", "judged", "(LKnotRows$Rows;I)I"⟩, 11), (⟨"KnotRows$Drawing", "partWith", "(LKnotRows$Rows;I)I"⟩, 11), (⟨"KnotRows", "changed", "()V"⟩, 17), (⟨"KnotRows$Arcs", "fill", "(LKnotRows$Rows;II)V"⟩, 3), (⟨"KnotRows$Arcs", "numberRing", "(LKnotRows$Rows;II)I"⟩, 3), (⟨"KnotRows", "kindOfFace", "(I)I"⟩, 17), (⟨"KnotRows$Rows", "swap", "(II)V"⟩, 5), (⟨"KnotRows", "holds", "(I)Z"⟩, 17), (⟨"KnotRows", "ownBracket", "()LKnotRows$Bracket;"⟩, 17), (⟨"KnotRows$Bracket", "tallyStates", "(LKnotRows$Rows;LKnotRows$Drawing;)V"⟩, 3), (⟨"KnotRows$Bracket", "addPower", "(III)V"⟩, 3)]
theorem lw_r2 : ∀ q ∈ lw_privs_2, lw_okq q := List.forall_mem_cons.mpr ⟨lw_p16, List.forall_mem_cons.mpr ⟨lw_p17, List.forall_mem_cons.mpr ⟨lw_p18, List.forall_mem_cons.mpr ⟨lw_p19, List.forall_mem_cons.mpr ⟨lw_p20, List.forall_mem_cons.mpr ⟨lw_p21, List.forall_mem_cons.mpr ⟨lw_p22, List.forall_mem_cons.mpr ⟨lw_p23, List.forall_mem_cons.mpr ⟨lw_p24, List.forall_mem_cons.mpr ⟨lw_p25, List.forall_mem_cons.mpr ⟨lw_p26, List.forall_mem_cons.mpr ⟨lw_p27, List.forall_mem_cons.mpr ⟨lw_p28, List.forall_mem_cons.mpr ⟨lw_p29, List.forall_mem_cons.mpr ⟨lw_p30, List.forall_mem_cons.mpr ⟨lw_p31, fun _ h => absurd h List.not_mem_nil⟩⟩⟩⟩⟩⟩⟩⟩⟩⟩⟩⟩⟩⟩⟩⟩
theorem lw_p32 : lw_okq (⟨"KnotRows$Arcs", "writeRows", "(LKnotRows$Rows;LKnotRows$Drawing;)V"⟩, 3) := ⟨⟨by decide +kernel, by decide +kernel⟩, List.mem_of_getElem? (i := 223) (by decide +kernel), List.mem_of_getElem? (i := 799) (by decide +kernel), List.mem_of_getElem? (i := 800) (by decide +kernel)⟩
theorem lw_p33 : lw_okq (⟨"KnotRows$Arcs", "rank", "(II)I"⟩, 3) := ⟨⟨by decide +kernel, by decide +kernel⟩, List.mem_of_getElem? (i := 223) (by decide +kernel), List.mem_of_getElem? (i := 807) (by decide +kernel), List.mem_of_getElem? (i := 808) (by decide +kernel)⟩
theorem lw_p34 : lw_okq (⟨"KnotRows$Arcs", "pivotRow", "(III)I"⟩, 3) := ⟨⟨by decide +kernel, by decide +kernel⟩, List.mem_of_getElem? (i := 223) (by decide +kernel), List.mem_of_getElem? (i := 811) (by decide +kernel), List.mem_of_getElem? (i := 812) (by decide +kernel)⟩
theorem lw_p35 : lw_okq (⟨"KnotRows$Arcs", "swapRows", "(II)V"⟩, 3) := ⟨⟨by decide +kernel, by decide +kernel⟩, List.mem_of_getElem? (i := 223) (by decide +kernel), List.mem_of_getElem? (i := 815) (by decide +kernel), List.mem_of_getElem? (i := 816) (by decide +kernel)⟩
theorem lw_p36 : lw_okq (⟨"KnotRows$Arcs", "clear", "(IIII)V"⟩, 3) := ⟨⟨by decide +kernel, by decide +kernel⟩, List.mem_of_getElem? (i := 223) (by decide +kernel), List.mem_of_getElem? (i := 819) (by decide +kernel), List.mem_of_getElem? (i := 820) (by decide +kernel)⟩
theorem lw_p37 : lw_okq (⟨"KnotRows", "fewestSwitches", "()I"⟩, 17) := ⟨⟨by decide +kernel, by decide +kernel⟩, List.mem_of_getElem? (i := 19) (by decide +kernel), List.mem_of_getElem? (i := 827) (by decide +kernel), List.mem_of_getElem? (i := 828) (by decide +kernel)⟩
theorem lw_p38 : lw_okq (⟨"KnotRows", "comesLoose", "(I)Z"⟩, 17) := ⟨⟨by decide +kernel, by decide +kernel⟩, List.mem_of_getElem? (i := 19) (by decide +kernel), List.mem_of_getElem? (i := 832) (by decide +kernel), List.mem_of_getElem? (i := 833) (by decide +kernel)⟩
theorem lw_p39 : lw_okq (⟨"KnotRows$Arcs", "eliminated", "(I)J"⟩, 3) := ⟨⟨by decide +kernel, by decide +kernel⟩, List.mem_of_getElem? (i := 223) (by decide +kernel), List.mem_of_getElem? (i := 882) (by decide +kernel), List.mem_of_getElem? (i := 883) (by decide +kernel)⟩
theorem lw_p40 : lw_okq (⟨"KnotRows", "slotsHeld", "()I"⟩, 17) := ⟨⟨by decide +kernel, by decide +kernel⟩, List.mem_of_getElem? (i := 19) (by decide +kernel), List.mem_of_getElem? (i := 903) (by decide +kernel), List.mem_of_getElem? (i := 904) (by decide +kernel)⟩
theorem lw_p41 : lw_okq (⟨"KnotRowsModel", "lays", "(I)V"⟩, 52) := ⟨⟨by decide +kernel, by decide +kernel⟩, List.mem_of_getElem? (i := 907) (by decide +kernel), List.mem_of_getElem? (i := 1080) (by decide +kernel), List.mem_of_getElem? (i := 1081) (by decide +kernel)⟩
theorem lw_p42 : lw_okq (⟨"KnotRowsModel", "cutsText", "()V"⟩, 52) := ⟨⟨by decide +kernel, by decide +kernel⟩, List.mem_of_getElem? (i := 907) (by decide +kernel), List.mem_of_getElem? (i := 1092) (by decide +kernel), List.mem_of_getElem? (i := 1093) (by decide +kernel)⟩
theorem lw_p43 : lw_okq (⟨"KnotRowsModel", "byteAt", "(I)I"⟩, 52) := ⟨⟨by decide +kernel, by decide +kernel⟩, List.mem_of_getElem? (i := 907) (by decide +kernel), List.mem_of_getElem? (i := 1096) (by decide +kernel), List.mem_of_getElem? (i := 1097) (by decide +kernel)⟩
theorem lw_p44 : lw_okq (⟨"KnotRowsModel", "token", "(IIIJ)V"⟩, 52) := ⟨⟨by decide +kernel, by decide +kernel⟩, List.mem_of_getElem? (i := 907) (by decide +kernel), List.mem_of_getElem? (i := 1100) (by decide +kernel), List.mem_of_getElem? (i := 1101) (by decide +kernel)⟩
theorem lw_p45 : lw_okq (⟨"KnotRowsModel", "sign", "(II)I"⟩, 52) := ⟨⟨by decide +kernel, by decide +kernel⟩, List.mem_of_getElem? (i := 907) (by decide +kernel), List.mem_of_getElem? (i := 1110) (by decide +kernel), List.mem_of_getElem? (i := 1111) (by decide +kernel)⟩
theorem lw_p46 : lw_okq (⟨"KnotRowsModel", "is", "(I)Z"⟩, 52) := ⟨⟨by decide +kernel, by decide +kernel⟩, List.mem_of_getElem? (i := 907) (by decide +kernel), List.mem_of_getElem? (i := 1114) (by decide +kernel), List.mem_of_getElem? (i := 1115) (by decide +kernel)⟩
theorem lw_p47 : lw_okq (⟨"KnotRowsModel", "tellBraid", "()V"⟩, 52) := ⟨⟨by decide +kernel, by decide +kernel⟩, List.mem_of_getElem? (i := 907) (by decide +kernel), List.mem_of_getElem? (i := 1118) (by decide +kernel), List.mem_of_getElem? (i := 1119) (by decide +kernel)⟩
def lw_privs_3 : List (MethodName × Nat) := [(⟨"KnotRows$Arcs", "writeRows", "(LKnotRows$Rows;LKnotRows$Drawing;)V"⟩, 3), (⟨"KnotRows$Arcs", "rank", "(II)I"⟩, 3), (⟨"KnotRows$Arcs", "pivotRow", "(III)I"⟩, 3), (⟨"KnotRows$Arcs", "swapRows", "(II)V"⟩, 3), (⟨"KnotRows$Arcs", "clear", "(IIII)V"⟩, 3), (⟨"KnotRows", "fewestSwitches", "()I"⟩, 17), (⟨"KnotRows", "comesLoose", "(I)Z"⟩, 17), (⟨"KnotRows$Arcs", "eliminated", "(I)J"⟩, 3), (⟨"KnotRows", "slotsHeld", "()I"⟩, 17), (⟨"KnotRowsModel", "lays", "(I)V"⟩, 52), (⟨"KnotRowsModel", "cutsText", "()V"⟩, 52), (⟨"KnotRowsModel", "byteAt", "(I)I"⟩, 52), (⟨"KnotRowsModel", "token", "(IIIJ)V"⟩, 52), (⟨"KnotRowsModel", "sign", "(II)I"⟩, 52), (⟨"KnotRowsModel", "is", "(I)Z"⟩, 52), (⟨"KnotRowsModel", "tellBraid", "()V"⟩, 52)]
theorem lw_r3 : ∀ q ∈ lw_privs_3, lw_okq q := List.forall_mem_cons.mpr ⟨lw_p32, List.forall_mem_cons.mpr ⟨lw_p33, List.forall_mem_cons.mpr ⟨lw_p34, List.forall_mem_cons.mpr ⟨lw_p35, List.forall_mem_cons.mpr ⟨lw_p36, List.forall_mem_cons.mpr ⟨lw_p37, List.forall_mem_cons.mpr ⟨lw_p38, List.forall_mem_cons.mpr ⟨lw_p39, List.forall_mem_cons.mpr ⟨lw_p40, List.forall_mem_cons.mpr ⟨lw_p41, List.forall_mem_cons.mpr ⟨lw_p42, List.forall_mem_cons.mpr ⟨lw_p43, List.forall_mem_cons.mpr ⟨lw_p44, List.forall_mem_cons.mpr ⟨lw_p45, List.forall_mem_cons.mpr ⟨lw_p46, List.forall_mem_cons.mpr ⟨lw_p47, fun _ h => absurd h List.not_mem_nil⟩⟩⟩⟩⟩⟩⟩⟩⟩⟩⟩⟩⟩⟩⟩⟩
theorem lw_p48 : lw_okq (⟨"KnotRowsModel", "passes", "()V"⟩, 52) := ⟨⟨by decide +kernel, by decide +kernel⟩, List.mem_of_getElem? (i := 907) (by decide +kernel), List.mem_of_getElem? (i := 1122) (by decide +kernel), List.mem_of_getElem? (i := 1123) (by decide +kernel)⟩
theorem lw_p49 : lw_okq (⟨"KnotRowsModel", "fail", "(I)V"⟩, 52) := ⟨⟨by decide +kernel, by decide +kernel⟩, List.mem_of_getElem? (i := 907) (by decide +kernel), List.mem_of_getElem? (i := 1126) (by decide +kernel), List.mem_of_getElem? (i := 1127) (by decide +kernel)⟩
theorem lw_p50 : lw_okq (⟨"KnotRowsModel", "must", "(I)V"⟩, 52) := ⟨⟨by decide +kernel, by decide +kernel⟩, List.mem_of_getElem? (i := 907) (by decide +kernel), List.mem_of_getElem? (i := 1130) (by decide +kernel), List.mem_of_getElem? (i := 1131) (by decide +kernel)⟩
theorem lw_p51 : lw_okq (⟨"KnotRowsModel", "tellRing", "()V"⟩, 52) := ⟨⟨by decide +kernel, by decide +kernel⟩, List.mem_of_getElem? (i := 907) (by decide +kernel), List.mem_of_getElem? (i := 1134) (by decide +kernel), List.mem_of_getElem? (i := 1135) (by decide +kernel)⟩
theorem lw_p52 : lw_okq (⟨"KnotRowsModel", "meets", "(I)V"⟩, 52) := ⟨⟨by decide +kernel, by decide +kernel⟩, List.mem_of_getElem? (i := 907) (by decide +kernel), List.mem_of_getElem? (i := 1138) (by decide +kernel), List.mem_of_getElem? (i := 1139) (by decide +kernel)⟩
theorem lw_p53 : lw_okq (⟨"KnotRowsModel", "unlikeAt", "(I)I"⟩, 52) := ⟨⟨by decide +kernel, by decide +kernel⟩, List.mem_of_getElem? (i := 907) (by decide +kernel), List.mem_of_getElem? (i := 1142) (by decide +kernel), List.mem_of_getElem? (i := 1143) (by decide +kernel)⟩
theorem lw_p54 : lw_okq (⟨"KnotRowsModel", "means", "()V"⟩, 52) := ⟨⟨by decide +kernel, by decide +kernel⟩, List.mem_of_getElem? (i := 907) (by decide +kernel), List.mem_of_getElem? (i := 1146) (by decide +kernel), List.mem_of_getElem? (i := 1147) (by decide +kernel)⟩
theorem lw_p55 : lw_okq (⟨"KnotRowsModel", "meansBraid", "()V"⟩, 52) := ⟨⟨by decide +kernel, by decide +kernel⟩, List.mem_of_getElem? (i := 907) (by decide +kernel), List.mem_of_getElem? (i := 1150) (by decide +kernel), List.mem_of_getElem? (i := 1151) (by decide +kernel)⟩
theorem lw_p56 : lw_okq (⟨"KnotRowsModel", "wrong", "(II)V"⟩, 52) := ⟨⟨by decide +kernel, by decide +kernel⟩, List.mem_of_getElem? (i := 907) (by decide +kernel), List.mem_of_getElem? (i := 1157) (by decide +kernel), List.mem_of_getElem? (i := 1158) (by decide +kernel)⟩
theorem lw_p57 : lw_okq (⟨"KnotRowsModel", "goesDown", "(II)I"⟩, 52) := ⟨⟨by decide +kernel, by decide +kernel⟩, List.mem_of_getElem? (i := 907) (by decide +kernel), List.mem_of_getElem? (i := 1164) (by decide +kernel), List.mem_of_getElem? (i := 1165) (by decide +kernel)⟩
theorem lw_p58 : lw_okq (⟨"KnotRowsModel", "meansRings", "()V"⟩, 52) := ⟨⟨by decide +kernel, by decide +kernel⟩, List.mem_of_getElem? (i := 907) (by decide +kernel), List.mem_of_getElem? (i := 1171) (by decide +kernel), List.mem_of_getElem? (i := 1172) (by decide +kernel)⟩
theorem lw_p59 : lw_okq (⟨"KnotRowsModel", "lacks", "()V"⟩, 52) := ⟨⟨by decide +kernel, by decide +kernel⟩, List.mem_of_getElem? (i := 907) (by decide +kernel), List.mem_of_getElem? (i := 1175) (by decide +kernel), List.mem_of_getElem? (i := 1176) (by decide +kernel)⟩
theorem lw_p60 : lw_okq (⟨"KnotRowsModel", "canBeDrawn", "([I)Z"⟩, 52) := ⟨⟨by decide +kernel, by decide +kernel⟩, List.mem_of_getElem? (i := 907) (by decide +kernel), List.mem_of_getElem? (i := 1179) (by decide +kernel), List.mem_of_getElem? (i := 1180) (by decide +kernel)⟩
theorem lw_p61 : lw_okq (⟨"KnotRowsModel", "laysFaces", "([I)I"⟩, 52) := ⟨⟨by decide +kernel, by decide +kernel⟩, List.mem_of_getElem? (i := 907) (by decide +kernel), List.mem_of_getElem? (i := 1183) (by decide +kernel), List.mem_of_getElem? (i := 1184) (by decide +kernel)⟩
theorem lw_p62 : lw_okq (⟨"KnotRowsModel", "laysEdges", "([I)V"⟩, 52) := ⟨⟨by decide +kernel, by decide +kernel⟩, List.mem_of_getElem? (i := 907) (by decide +kernel), List.mem_of_getElem? (i := 1187) (by decide +kernel), List.mem_of_getElem? (i := 1188) (by decide +kernel)⟩
theorem lw_p63 : lw_okq (⟨"KnotRowsModel", "endIn", "([II)I"⟩, 52) := ⟨⟨by decide +kernel, by decide +kernel⟩, List.mem_of_getElem? (i := 907) (by decide +kernel), List.mem_of_getElem? (i := 1191) (by decide +kernel), List.mem_of_getElem? (i := 1192) (by decide +kernel)⟩
def lw_privs_4 : List (MethodName × Nat) := [(⟨"KnotRowsModel", "passes", "()V"⟩, 52), (⟨"KnotRowsModel", "fail", "(I)V"⟩, 52), (⟨"KnotRowsModel", "must", "(I)V"⟩, 52), (⟨"KnotRowsModel", "tellRing", "()V"⟩, 52), (⟨"KnotRowsModel", "meets", "(I)V"⟩, 52), (⟨"KnotRowsModel", "unlikeAt", "(I)I"⟩, 52), (⟨"KnotRowsModel", "means", "()V"⟩, 52), (⟨"KnotRowsModel", "meansBraid", "()V"⟩, 52), (⟨"KnotRowsModel", "wrong", "(II)V"⟩, 52), (⟨"KnotRowsModel", "goesDown", "(II)I"⟩, 52), (⟨"KnotRowsModel", "meansRings", "()V"⟩, 52), (⟨"KnotRowsModel", "lacks", "()V"⟩, 52), (⟨"KnotRowsModel", "canBeDrawn", "([I)Z"⟩, 52), (⟨"KnotRowsModel", "laysFaces", "([I)I"⟩, 52), (⟨"KnotRowsModel", "laysEdges", "([I)V"⟩, 52), (⟨"KnotRowsModel", "endIn", "([II)I"⟩, 52)]
theorem lw_r4 : ∀ q ∈ lw_privs_4, lw_okq q := List.forall_mem_cons.mpr ⟨lw_p48, List.forall_mem_cons.mpr ⟨lw_p49, List.forall_mem_cons.mpr ⟨lw_p50, List.forall_mem_cons.mpr ⟨lw_p51, List.forall_mem_cons.mpr ⟨lw_p52, List.forall_mem_cons.mpr ⟨lw_p53, List.forall_mem_cons.mpr ⟨lw_p54, List.forall_mem_cons.mpr ⟨lw_p55, List.forall_mem_cons.mpr ⟨lw_p56, List.forall_mem_cons.mpr ⟨lw_p57, List.forall_mem_cons.mpr ⟨lw_p58, List.forall_mem_cons.mpr ⟨lw_p59, List.forall_mem_cons.mpr ⟨lw_p60, List.forall_mem_cons.mpr ⟨lw_p61, List.forall_mem_cons.mpr ⟨lw_p62, List.forall_mem_cons.mpr ⟨lw_p63, fun _ h => absurd h List.not_mem_nil⟩⟩⟩⟩⟩⟩⟩⟩⟩⟩⟩⟩⟩⟩⟩⟩
theorem lw_p64 : lw_okq (⟨"KnotRowsModel", "turnsTo", "([II)I"⟩, 52) := ⟨⟨by decide +kernel, by decide +kernel⟩, List.mem_of_getElem? (i := 907) (by decide +kernel), List.mem_of_getElem? (i := 1195) (by decide +kernel), List.mem_of_getElem? (i := 1196) (by decide +kernel)⟩
theorem lw_p65 : lw_okq (⟨"KnotRowsModel", "partsOf", "([I)I"⟩, 52) := ⟨⟨by decide +kernel, by decide +kernel⟩, List.mem_of_getElem? (i := 907) (by decide +kernel), List.mem_of_getElem? (i := 1199) (by decide +kernel), List.mem_of_getElem? (i := 1200) (by decide +kernel)⟩
theorem lw_p66 : lw_okq (⟨"KnotRowsModel", "joins", "(III)I"⟩, 52) := ⟨⟨by decide +kernel, by decide +kernel⟩, List.mem_of_getElem? (i := 907) (by decide +kernel), List.mem_of_getElem? (i := 1203) (by decide +kernel), List.mem_of_getElem? (i := 1204) (by decide +kernel)⟩
theorem lw_p67 : lw_okq (⟨"KnotRowsModel", "hasHeld", "(I)Z"⟩, 52) := ⟨⟨by decide +kernel, by decide +kernel⟩, List.mem_of_getElem? (i := 907) (by decide +kernel), List.mem_of_getElem? (i := 1226) (by decide +kernel), List.mem_of_getElem? (i := 1227) (by decide +kernel)⟩
theorem lw_p68 : lw_okq (⟨"KnotRowsModel", "kindOf", "([II)I"⟩, 52) := ⟨⟨by decide +kernel, by decide +kernel⟩, List.mem_of_getElem? (i := 907) (by decide +kernel), List.mem_of_getElem? (i := 1234) (by decide +kernel), List.mem_of_getElem? (i := 1235) (by decide +kernel)⟩
theorem lw_p69 : lw_okq (⟨"KnotRowsModel", "crossingBehind", "(I)I"⟩, 52) := ⟨⟨by decide +kernel, by decide +kernel⟩, List.mem_of_getElem? (i := 907) (by decide +kernel), List.mem_of_getElem? (i := 1238) (by decide +kernel), List.mem_of_getElem? (i := 1239) (by decide +kernel)⟩
theorem lw_p70 : lw_okq (⟨"KnotRowsModel", "oversOf", "(I)I"⟩, 52) := ⟨⟨by decide +kernel, by decide +kernel⟩, List.mem_of_getElem? (i := 907) (by decide +kernel), List.mem_of_getElem? (i := 1242) (by decide +kernel), List.mem_of_getElem? (i := 1243) (by decide +kernel)⟩
theorem lw_p71 : lw_okq (⟨"KnotRowsModel", "marks", "()V"⟩, 52) := ⟨⟨by decide +kernel, by decide +kernel⟩, List.mem_of_getElem? (i := 907) (by decide +kernel), List.mem_of_getElem? (i := 1246) (by decide +kernel), List.mem_of_getElem? (i := 1247) (by decide +kernel)⟩
theorem lw_p72 : lw_okq (⟨"KnotRowsModel", "goesOut", "([II)V"⟩, 52) := ⟨⟨by decide +kernel, by decide +kernel⟩, List.mem_of_getElem? (i := 907) (by decide +kernel), List.mem_of_getElem? (i := 1250) (by decide +kernel), List.mem_of_getElem? (i := 1251) (by decide +kernel)⟩
theorem lw_p73 : lw_okq (⟨"KnotRowsModel", "slides", "([II)V"⟩, 52) := ⟨⟨by decide +kernel, by decide +kernel⟩, List.mem_of_getElem? (i := 907) (by decide +kernel), List.mem_of_getElem? (i := 1261) (by decide +kernel), List.mem_of_getElem? (i := 1262) (by decide +kernel)⟩
theorem lw_p74 : lw_okq (⟨"KnotRowsModel", "exchanges", "([II)V"⟩, 52) := ⟨⟨by decide +kernel, by decide +kernel⟩, List.mem_of_getElem? (i := 907) (by decide +kernel), List.mem_of_getElem? (i := 1265) (by decide +kernel), List.mem_of_getElem? (i := 1266) (by decide +kernel)⟩
theorem lw_p75 : lw_okq (⟨"KnotRowsModel", "whereOf", "([II)I"⟩, 52) := ⟨⟨by decide +kernel, by decide +kernel⟩, List.mem_of_getElem? (i := 907) (by decide +kernel), List.mem_of_getElem? (i := 1269) (by decide +kernel), List.mem_of_getElem? (i := 1270) (by decide +kernel)⟩
theorem lw_p76 : lw_okq (⟨"KnotRowsModel", "loosens", "([I)I"⟩, 52) := ⟨⟨by decide +kernel, by decide +kernel⟩, List.mem_of_getElem? (i := 907) (by decide +kernel), List.mem_of_getElem? (i := 1281) (by decide +kernel), List.mem_of_getElem? (i := 1282) (by decide +kernel)⟩
theorem lw_p77 : lw_okq (⟨"KnotRowsModel", "firstOf", "([II)I"⟩, 52) := ⟨⟨by decide +kernel, by decide +kernel⟩, List.mem_of_getElem? (i := 907) (by decide +kernel), List.mem_of_getElem? (i := 1285) (by decide +kernel), List.mem_of_getElem? (i := 1286) (by decide +kernel)⟩
theorem lw_p78 : lw_okq (⟨"KnotRowsModel", "laysArcs", "([I)I"⟩, 52) := ⟨⟨by decide +kernel, by decide +kernel⟩, List.mem_of_getElem? (i := 907) (by decide +kernel), List.mem_of_getElem? (i := 1317) (by decide +kernel), List.mem_of_getElem? (i := 1318) (by decide +kernel)⟩
theorem lw_p79 : lw_okq (⟨"KnotRowsModel", "passAt", "(II)I"⟩, 52) := ⟨⟨by decide +kernel, by decide +kernel⟩, List.mem_of_getElem? (i := 907) (by decide +kernel), List.mem_of_getElem? (i := 1321) (by decide +kernel), List.mem_of_getElem? (i := 1322) (by decide +kernel)⟩
def lw_privs_5 : List (MethodName × Nat) := [(⟨"KnotRowsModel", "turnsTo", "([II)I"⟩, 52), (⟨"KnotRowsModel", "partsOf", "([I)I"⟩, 52), (⟨"KnotRowsModel", "joins", "(III)I"⟩, 52), (⟨"KnotRowsModel", "hasHeld", "(I)Z"⟩, 52), (⟨"KnotRowsModel", "kindOf", "([II)I"⟩, 52), (⟨"KnotRowsModel", "crossingBehind", "(I)I"⟩, 52), (⟨"KnotRowsModel", "oversOf", "(I)I"⟩, 52), (⟨"KnotRowsModel", "marks", "()V"⟩, 52), (⟨"KnotRowsModel", "goesOut", "([II)V"⟩, 52), (⟨"KnotRowsModel", "slides", "([II)V"⟩, 52), (⟨"KnotRowsModel", "exchanges", "([II)V"⟩, 52), (⟨"KnotRowsModel", "whereOf", "([II)I"⟩, 52), (⟨"KnotRowsModel", "loosens", "([I)I"⟩, 52), (⟨"KnotRowsModel", "firstOf", "([II)I"⟩, 52), (⟨"KnotRowsModel", "laysArcs", "([I)I"⟩, 52), (⟨"KnotRowsModel", "passAt", "(II)I"⟩, 52)]
theorem lw_r5 : ∀ q ∈ lw_privs_5, lw_okq q := List.forall_mem_cons.mpr ⟨lw_p64, List.forall_mem_cons.mpr ⟨lw_p65, List.forall_mem_cons.mpr ⟨lw_p66, List.forall_mem_cons.mpr ⟨lw_p67, List.forall_mem_cons.mpr ⟨lw_p68, List.forall_mem_cons.mpr ⟨lw_p69, List.forall_mem_cons.mpr ⟨lw_p70, List.forall_mem_cons.mpr ⟨lw_p71, List.forall_mem_cons.mpr ⟨lw_p72, List.forall_mem_cons.mpr ⟨lw_p73, List.forall_mem_cons.mpr ⟨lw_p74, List.forall_mem_cons.mpr ⟨lw_p75, List.forall_mem_cons.mpr ⟨lw_p76, List.forall_mem_cons.mpr ⟨lw_p77, List.forall_mem_cons.mpr ⟨lw_p78, List.forall_mem_cons.mpr ⟨lw_p79, fun _ h => absurd h List.not_mem_nil⟩⟩⟩⟩⟩⟩⟩⟩⟩⟩⟩⟩⟩⟩⟩⟩
theorem lw_p80 : lw_okq (⟨"KnotRowsModel", "loopsOf", "([II)I"⟩, 52) := ⟨⟨by decide +kernel, by decide +kernel⟩, List.mem_of_getElem? (i := 907) (by decide +kernel), List.mem_of_getElem? (i := 1333) (by decide +kernel), List.mem_of_getElem? (i := 1334) (by decide +kernel)⟩
theorem lw_p81 : lw_okq (⟨"KnotRowsModel", "laysBracket", "([I)V"⟩, 52) := ⟨⟨by decide +kernel, by decide +kernel⟩, List.mem_of_getElem? (i := 907) (by decide +kernel), List.mem_of_getElem? (i := 1344) (by decide +kernel), List.mem_of_getElem? (i := 1345) (by decide +kernel)⟩
theorem lw_p82 : lw_okq (⟨"KnotRowsModel", "timesLoop", "()V"⟩, 52) := ⟨⟨by decide +kernel, by decide +kernel⟩, List.mem_of_getElem? (i := 907) (by decide +kernel), List.mem_of_getElem? (i := 1351) (by decide +kernel), List.mem_of_getElem? (i := 1352) (by decide +kernel)⟩
theorem lw_p83 : lw_okq (⟨"KnotRowsModel", "knottedAt", "([II)I"⟩, 52) := ⟨⟨by decide +kernel, by decide +kernel⟩, List.mem_of_getElem? (i := 907) (by decide +kernel), List.mem_of_getElem? (i := 1355) (by decide +kernel), List.mem_of_getElem? (i := 1356) (by decide +kernel)⟩
theorem lw_p84 : lw_okq (⟨"KnotRowsModel", "laysRows", "()I"⟩, 52) := ⟨⟨by decide +kernel, by decide +kernel⟩, List.mem_of_getElem? (i := 907) (by decide +kernel), List.mem_of_getElem? (i := 1371) (by decide +kernel), List.mem_of_getElem? (i := 1372) (by decide +kernel)⟩
theorem lw_p85 : lw_okq (⟨"KnotRowsModel", "exchangesRows", "(II)V"⟩, 52) := ⟨⟨by decide +kernel, by decide +kernel⟩, List.mem_of_getElem? (i := 907) (by decide +kernel), List.mem_of_getElem? (i := 1379) (by decide +kernel), List.mem_of_getElem? (i := 1380) (by decide +kernel)⟩
theorem lw_p86 : lw_okq (⟨"KnotRowsModel", "clears", "(IIII)V"⟩, 52) := ⟨⟨by decide +kernel, by decide +kernel⟩, List.mem_of_getElem? (i := 907) (by decide +kernel), List.mem_of_getElem? (i := 1383) (by decide +kernel), List.mem_of_getElem? (i := 1384) (by decide +kernel)⟩
theorem lw_p87 : lw_okq (⟨"KnotRowsModel", "fewestSwitches", "()I"⟩, 52) := ⟨⟨by decide +kernel, by decide +kernel⟩, List.mem_of_getElem? (i := 907) (by decide +kernel), List.mem_of_getElem? (i := 1391) (by decide +kernel), List.mem_of_getElem? (i := 1392) (by decide +kernel)⟩
theorem lw_p88 : lw_okq (⟨"KnotRowsModel", "isLooser", "(I)Z"⟩, 52) := ⟨⟨by decide +kernel, by decide +kernel⟩, List.mem_of_getElem? (i := 907) (by decide +kernel), List.mem_of_getElem? (i := 1399) (by decide +kernel), List.mem_of_getElem? (i := 1400) (by decide +kernel)⟩
theorem lw_p89 : lw_okq (⟨"KnotRowsModel", "areRowsAlike", "()Z"⟩, 52) := ⟨⟨by decide +kernel, by decide +kernel⟩, List.mem_of_getElem? (i := 907) (by decide +kernel), List.mem_of_getElem? (i := 1407) (by decide +kernel), List.mem_of_getElem? (i := 1408) (by decide +kernel)⟩
theorem lw_p90 : lw_okq (⟨"KnotRowsModel", "determinant", "()J"⟩, 52) := ⟨⟨by decide +kernel, by decide +kernel⟩, List.mem_of_getElem? (i := 907) (by decide +kernel), List.mem_of_getElem? (i := 1415) (by decide +kernel), List.mem_of_getElem? (i := 1416) (by decide +kernel)⟩
theorem lw_p91 : lw_okq (⟨"KnotRowsModel", "span", "()I"⟩, 52) := ⟨⟨by decide +kernel, by decide +kernel⟩, List.mem_of_getElem? (i := 907) (by decide +kernel), List.mem_of_getElem? (i := 1419) (by decide +kernel), List.mem_of_getElem? (i := 1420) (by decide +kernel)⟩
theorem lw_p92 : lw_okq (⟨"KnotRowsModel", "kindMany", "(I)I"⟩, 52) := ⟨⟨by decide +kernel, by decide +kernel⟩, List.mem_of_getElem? (i := 907) (by decide +kernel), List.mem_of_getElem? (i := 1423) (by decide +kernel), List.mem_of_getElem? (i := 1424) (by decide +kernel)⟩
theorem lw_p93 : lw_okq (⟨"KnotRowsModel", "takeTurns", "()I"⟩, 52) := ⟨⟨by decide +kernel, by decide +kernel⟩, List.mem_of_getElem? (i := 907) (by decide +kernel), List.mem_of_getElem? (i := 1427) (by decide +kernel), List.mem_of_getElem? (i := 1428) (by decide +kernel)⟩
def lw_privs_6 : List (MethodName × Nat) := [(⟨"KnotRowsModel", "loopsOf", "([II)I"⟩, 52), (⟨"KnotRowsModel", "laysBracket", "([I)V"⟩, 52), (⟨"KnotRowsModel", "timesLoop", "()V"⟩, 52), (⟨"KnotRowsModel", "knottedAt", "([II)I"⟩, 52), (⟨"KnotRowsModel", "laysRows", "()I"⟩, 52), (⟨"KnotRowsModel", "exchangesRows", "(II)V"⟩, 52), (⟨"KnotRowsModel", "clears", "(IIII)V"⟩, 52), (⟨"KnotRowsModel", "fewestSwitches", "()I"⟩, 52), (⟨"KnotRowsModel", "isLooser", "(I)Z"⟩, 52), (⟨"KnotRowsModel", "areRowsAlike", "()Z"⟩, 52), (⟨"KnotRowsModel", "determinant", "()J"⟩, 52), (⟨"KnotRowsModel", "span", "()I"⟩, 52), (⟨"KnotRowsModel", "kindMany", "(I)I"⟩, 52), (⟨"KnotRowsModel", "takeTurns", "()I"⟩, 52)]
theorem lw_r6 : ∀ q ∈ lw_privs_6, lw_okq q := List.forall_mem_cons.mpr ⟨lw_p80, List.forall_mem_cons.mpr ⟨lw_p81, List.forall_mem_cons.mpr ⟨lw_p82, List.forall_mem_cons.mpr ⟨lw_p83, List.forall_mem_cons.mpr ⟨lw_p84, List.forall_mem_cons.mpr ⟨lw_p85, List.forall_mem_cons.mpr ⟨lw_p86, List.forall_mem_cons.mpr ⟨lw_p87, List.forall_mem_cons.mpr ⟨lw_p88, List.forall_mem_cons.mpr ⟨lw_p89, List.forall_mem_cons.mpr ⟨lw_p90, List.forall_mem_cons.mpr ⟨lw_p91, List.forall_mem_cons.mpr ⟨lw_p92, List.forall_mem_cons.mpr ⟨lw_p93, fun _ h => absurd h List.not_mem_nil⟩⟩⟩⟩⟩⟩⟩⟩⟩⟩⟩⟩⟩⟩
def lw_privs : List (MethodName × Nat) := lw_privs_1 ++ (lw_privs_2 ++ (lw_privs_3 ++ (lw_privs_4 ++ (lw_privs_5 ++ (lw_privs_6)))))
def lw_tbl : List Cond := k2_sels lw_privs ++ tables_1
theorem lw_privs_ok : ∀ q ∈ lw_privs, lw_okq q := by
  show ∀ q ∈ lw_privs_1 ++ (lw_privs_2 ++ (lw_privs_3 ++ (lw_privs_4 ++ (lw_privs_5 ++ (lw_privs_6))))), lw_okq q
  exact List.forall_mem_append.mpr ⟨lw_r1, List.forall_mem_append.mpr ⟨lw_r2, List.forall_mem_append.mpr ⟨lw_r3, List.forall_mem_append.mpr ⟨lw_r4, List.forall_mem_append.mpr ⟨lw_r5, lw_r6⟩⟩⟩⟩⟩
-- ===== end of PART A; then your names; then what follows =====
end
section
def RX0 : String := "KnotRows$Arcs"
def TX0 : u_T := fun k => match k with
  | 0 => ("KnotRows$Arcs", "arcs", "I", false)
  | 1 => ("KnotRows$Arcs", "arcOf", "[I", true)
  | _ => ("KnotRows$Arcs", "row", "[[J", true)
def tyX0 : Nat → FieldType := fun k => match k with
  | 0 => .int
  | 1 => .array .int
  | _ => .array (.array .long)
abbrev wsX00 : List Cond := u_ws RX0 TX0 3
theorem nmX0 : ∀ a, a < 3 → ∀ b, b < 3 → a ≠ b → (TX0 a).2.1 ≠ (TX0 b).2.1 := by decide +kernel
theorem tyX0_ok : ∀ k, k < 3 → parseFieldDescriptor (TX0 k).2.2.1 = some (tyX0 k) := by decide +kernel
abbrev cX0_init : ByteArray := prog_2_method_1_code
def yX0_init : MethodName := ⟨RX0, "<init>", "()V"⟩
abbrev cX0_number : ByteArray := prog_2_method_2_code
def yX0_number : MethodName := ⟨RX0, "number", "(LKnotRows$Rows;)V"⟩
abbrev cX0_fill : ByteArray := prog_2_method_3_code
def yX0_fill : MethodName := ⟨RX0, "fill", "(LKnotRows$Rows;II)V"⟩
abbrev cX0_numberRing : ByteArray := prog_2_method_4_code
def yX0_numberRing : MethodName := ⟨RX0, "numberRing", "(LKnotRows$Rows;II)I"⟩
abbrev cX0_writeRows : ByteArray := prog_2_method_5_code
def yX0_writeRows : MethodName := ⟨RX0, "writeRows", "(LKnotRows$Rows;LKnotRows$Drawing;)V"⟩
abbrev cX0_determinant : ByteArray := prog_2_method_6_code
def yX0_determinant : MethodName := ⟨RX0, "determinant", "(LKnotRows$Rows;LKnotRows$Drawing;)I"⟩
abbrev cX0_eliminated : ByteArray := prog_2_method_7_code
def yX0_eliminated : MethodName := ⟨RX0, "eliminated", "(I)J"⟩
abbrev cX0_pivotRow : ByteArray := prog_2_method_8_code
def yX0_pivotRow : MethodName := ⟨RX0, "pivotRow", "(III)I"⟩
abbrev cX0_swapRows : ByteArray := prog_2_method_9_code
def yX0_swapRows : MethodName := ⟨RX0, "swapRows", "(II)V"⟩
abbrev cX0_colouringsBy : ByteArray := prog_2_method_10_code
def yX0_colouringsBy : MethodName := ⟨RX0, "colouringsBy", "(ILKnotRows$Rows;LKnotRows$Drawing;)J"⟩
abbrev cX0_rank : ByteArray := prog_2_method_11_code
def yX0_rank : MethodName := ⟨RX0, "rank", "(II)I"⟩
abbrev cX0_clear : ByteArray := prog_2_method_12_code
def yX0_clear : MethodName := ⟨RX0, "clear", "(IIII)V"⟩
def RX1 : String := "KnotRows$Bracket"
def TX1 : u_T := fun k => match k with
  | 0 => ("KnotRows$Bracket", "coefficients", "[I", true)
  | 1 => ("KnotRows$Bracket", "tally", "[I", true)
  | _ => ("KnotRows$Bracket", "writhe", "I", false)
def tyX1 : Nat → FieldType := fun k => match k with
  | 0 => .array .int
  | 1 => .array .int
  | _ => .int
abbrev wsX10 : List Cond := u_ws RX1 TX1 3
theorem nmX1 : ∀ a, a < 3 → ∀ b, b < 3 → a ≠ b → (TX1 a).2.1 ≠ (TX1 b).2.1 := by decide +kernel
theorem tyX1_ok : ∀ k, k < 3 → parseFieldDescriptor (TX1 k).2.2.1 = some (tyX1 k) := by decide +kernel
abbrev cX1_init : ByteArray := prog_3_method_1_code
def yX1_init : MethodName := ⟨RX1, "<init>", "()V"⟩
abbrev cX1_addUp : ByteArray := prog_3_method_2_code
def yX1_addUp : MethodName := ⟨RX1, "addUp", "(LKnotRows$Rows;LKnotRows$Drawing;)V"⟩
abbrev cX1_tallyStates : ByteArray := prog_3_method_3_code
def yX1_tallyStates : MethodName := ⟨RX1, "tallyStates", "(LKnotRows$Rows;LKnotRows$Drawing;)V"⟩
abbrev cX1_addPower : ByteArray := prog_3_method_4_code
def yX1_addPower : MethodName := ⟨RX1, "addPower", "(III)V"⟩
abbrev cX1_at : ByteArray := prog_3_method_5_code
def yX1_at : MethodName := ⟨RX1, "at", "(I)I"⟩
abbrev cX1_knottedAt : ByteArray := prog_3_method_6_code
def yX1_knottedAt : MethodName := ⟨RX1, "knottedAt", "(I)I"⟩
abbrev cX1_knottedAlike : ByteArray := prog_3_method_7_code
def yX1_knottedAlike : MethodName := ⟨RX1, "knottedAlike", "(LKnotRows$Bracket;Z)Z"⟩
abbrev cX1_span : ByteArray := prog_3_method_8_code
def yX1_span : MethodName := ⟨RX1, "span", "()I"⟩
def RX2 : String := "KnotRows$Drawing"
def TX2 : u_T := fun k => match k with
  | 0 => ("KnotRows$Drawing", "behind", "[I", true)
  | 1 => ("KnotRows$Drawing", "ahead", "[I", true)
  | 2 => ("KnotRows$Drawing", "ringOf", "[I", true)
  | 3 => ("KnotRows$Drawing", "overAt", "[I", true)
  | 4 => ("KnotRows$Drawing", "underAt", "[I", true)
  | 5 => ("KnotRows$Drawing", "leave", "[I", true)
  | 6 => ("KnotRows$Drawing", "reach", "[I", true)
  | 7 => ("KnotRows$Drawing", "faces", "I", false)
  | 8 => ("KnotRows$Drawing", "walk", "[I", true)
  | 9 => ("KnotRows$Drawing", "faceStart", "[I", true)
  | _ => ("KnotRows$Drawing", "kind", "[I", true)
def tyX2 : Nat → FieldType := fun k => match k with
  | 0 => .array .int
  | 1 => .array .int
  | 2 => .array .int
  | 3 => .array .int
  | 4 => .array .int
  | 5 => .array .int
  | 6 => .array .int
  | 7 => .int
  | 8 => .array .int
  | 9 => .array .int
  | _ => .array .int
abbrev wsX20 : List Cond := u_ws RX2 TX2 11
theorem nmX2 : ∀ a, a < 11 → ∀ b, b < 11 → a ≠ b → (TX2 a).2.1 ≠ (TX2 b).2.1 := by decide +kernel
theorem tyX2_ok : ∀ k, k < 11 → parseFieldDescriptor (TX2 k).2.2.1 = some (tyX2 k) := by decide +kernel
abbrev cX2_init : ByteArray := prog_4_method_1_code
def yX2_init : MethodName := ⟨RX2, "<init>", "()V"⟩
abbrev cX2_trace : ByteArray := prog_4_method_2_code
def yX2_trace : MethodName := ⟨RX2, "trace", "(LKnotRows$Rows;)V"⟩
abbrev cX2_joinPasses : ByteArray := prog_4_method_3_code
def yX2_joinPasses : MethodName := ⟨RX2, "joinPasses", "(LKnotRows$Rows;)V"⟩
abbrev cX2_joinEnds : ByteArray := prog_4_method_4_code
def yX2_joinEnds : MethodName := ⟨RX2, "joinEnds", "(LKnotRows$Rows;)V"⟩
abbrev cX2_joinEnd : ByteArray := prog_4_method_5_code
def yX2_joinEnd : MethodName := ⟨RX2, "joinEnd", "(II)V"⟩
abbrev cX2_walkFaces : ByteArray := prog_4_method_6_code
def yX2_walkFaces : MethodName := ⟨RX2, "walkFaces", "(I)V"⟩
abbrev cX2_judged : ByteArray := prog_4_method_7_code
def yX2_judged : MethodName := ⟨RX2, "judged", "(LKnotRows$Rows;I)I"⟩
abbrev cX2_corners : ByteArray := prog_4_method_8_code
def yX2_corners : MethodName := ⟨RX2, "corners", "(I)I"⟩
abbrev cX2_crossingsAt : ByteArray := prog_4_method_9_code
def yX2_crossingsAt : MethodName := ⟨RX2, "crossingsAt", "(I)I"⟩
abbrev cX2_edgeAt : ByteArray := prog_4_method_10_code
def yX2_edgeAt : MethodName := ⟨RX2, "edgeAt", "(II)I"⟩
abbrev cX2_facesOfKind : ByteArray := prog_4_method_11_code
def yX2_facesOfKind : MethodName := ⟨RX2, "facesOfKind", "(I)I"⟩
abbrev cX2_firstToGo : ByteArray := prog_4_method_12_code
def yX2_firstToGo : MethodName := ⟨RX2, "firstToGo", "()I"⟩
abbrev cX2_partsOf : ByteArray := prog_4_method_13_code
def yX2_partsOf : MethodName := ⟨RX2, "partsOf", "(LKnotRows$Rows;)I"⟩
abbrev cX2_partWith : ByteArray := prog_4_method_14_code
def yX2_partWith : MethodName := ⟨RX2, "partWith", "(LKnotRows$Rows;I)I"⟩
abbrev cX2_isPlane : ByteArray := prog_4_method_15_code
def yX2_isPlane : MethodName := ⟨RX2, "isPlane", "(LKnotRows$Rows;)Z"⟩
abbrev cX2_loopsOf : ByteArray := prog_4_method_16_code
def yX2_loopsOf : MethodName := ⟨RX2, "loopsOf", "(LKnotRows$Rows;I)I"⟩
def RX3 : String := "KnotRows$Past"
def TX3 : u_T := fun k => match k with
  | 0 => ("KnotRows$Past", "kept", "I", false)
  | 1 => ("KnotRows$Past", "next", "I", false)
  | _ => ("KnotRows$Past", "earlier", "[LKnotRows$Rows;", true)
def tyX3 : Nat → FieldType := fun k => match k with
  | 0 => .int
  | 1 => .int
  | _ => .array (.object "KnotRows$Rows")
abbrev wsX30 : List Cond := u_ws RX3 TX3 3
theorem nmX3 : ∀ a, a < 3 → ∀ b, b < 3 → a ≠ b → (TX3 a).2.1 ≠ (TX3 b).2.1 := by decide +kernel
theorem tyX3_ok : ∀ k, k < 3 → parseFieldDescriptor (TX3 k).2.2.1 = some (tyX3 k) := by decide +kernel
abbrev cX3_init : ByteArray := prog_5_method_1_code
def yX3_init : MethodName := ⟨RX3, "<init>", "()V"⟩
abbrev cX3_forget : ByteArray := prog_5_method_2_code
def yX3_forget : MethodName := ⟨RX3, "forget", "()V"⟩
abbrev cX3_keep : ByteArray := prog_5_method_3_code
def yX3_keep : MethodName := ⟨RX3, "keep", "(LKnotRows$Rows;)V"⟩
abbrev cX3_bringBack : ByteArray := prog_5_method_4_code
def yX3_bringBack : MethodName := ⟨RX3, "bringBack", "(LKnotRows$Rows;)Z"⟩
def RX4 : String := "KnotRows$Reader"
def TX4 : u_T := fun k => match k with
  | 0 => ("KnotRows$Reader", "fault", "I", false)
  | 1 => ("KnotRows$Reader", "faultAt", "I", false)
  | 2 => ("KnotRows$Reader", "braid", "Z", false)
  | 3 => ("KnotRows$Reader", "rings", "I", false)
  | 4 => ("KnotRows$Reader", "strands", "I", false)
  | 5 => ("KnotRows$Reader", "strandsAt", "I", false)
  | 6 => ("KnotRows$Reader", "unlike", "I", false)
  | 7 => ("KnotRows$Reader", "told", "I", false)
  | 8 => ("KnotRows$Reader", "over", "Z", false)
  | 9 => ("KnotRows$Reader", "first", "[I", true)
  | 10 => ("KnotRows$Reader", "number", "[I", true)
  | 11 => ("KnotRows$Reader", "numberAt", "[I", true)
  | 12 => ("KnotRows$Reader", "crossingOf", "[I", true)
  | 13 => ("KnotRows$Reader", "isOver", "[Z", true)
  | 14 => ("KnotRows$Reader", "isPlus", "[Z", true)
  | 15 => ("KnotRows$Reader", "unlikeNumber", "[I", true)
  | 16 => ("KnotRows$Reader", "times", "[I", true)
  | _ => ("KnotRows$Reader", "earlier", "[I", true)
def tyX4 : Nat → FieldType := fun k => match k with
  | 0 => .int
  | 1 => .int
  | 2 => .boolean
  | 3 => .int
  | 4 => .int
  | 5 => .int
  | 6 => .int
  | 7 => .int
  | 8 => .boolean
  | 9 => .array .int
  | 10 => .array .int
  | 11 => .array .int
  | 12 => .array .int
  | 13 => .array .boolean
  | 14 => .array .boolean
  | 15 => .array .int
  | 16 => .array .int
  | _ => .array .int
abbrev wsX40 : List Cond := u_ws RX4 TX4 18
theorem nmX4 : ∀ a, a < 18 → ∀ b, b < 18 → a ≠ b → (TX4 a).2.1 ≠ (TX4 b).2.1 := by decide +kernel
theorem tyX4_ok : ∀ k, k < 18 → parseFieldDescriptor (TX4 k).2.2.1 = some (tyX4 k) := by decide +kernel
abbrev cX4_init : ByteArray := prog_6_method_1_code
def yX4_init : MethodName := ⟨RX4, "<init>", "()V"⟩
abbrev cX4_reads : ByteArray := prog_6_method_2_code
def yX4_reads : MethodName := ⟨RX4, "reads", "(LKnotRows$Tape;LKnotRows$Rows;LKnotRows$Drawing;)Z"⟩
abbrev cX4_fails : ByteArray := prog_6_method_3_code
def yX4_fails : MethodName := ⟨RX4, "fails", "(II)Z"⟩
abbrev cX4_takesTokens : ByteArray := prog_6_method_4_code
def yX4_takesTokens : MethodName := ⟨RX4, "takesTokens", "(LKnotRows$Tape;)Z"⟩
abbrev cX4_stateBehind : ByteArray := prog_6_method_5_code
def yX4_stateBehind : MethodName := ⟨RX4, "stateBehind", "(II)I"⟩
abbrev cX4_takes : ByteArray := prog_6_method_6_code
def yX4_takes : MethodName := ⟨RX4, "takes", "(ILKnotRows$Tape;)Z"⟩
abbrev cX4_takesRing : ByteArray := prog_6_method_7_code
def yX4_takesRing : MethodName := ⟨RX4, "takesRing", "()Z"⟩
abbrev cX4_takesSign : ByteArray := prog_6_method_8_code
def yX4_takesSign : MethodName := ⟨RX4, "takesSign", "(Z)Z"⟩
abbrev cX4_takesInt : ByteArray := prog_6_method_9_code
def yX4_takesInt : MethodName := ⟨RX4, "takesInt", "(ILKnotRows$Tape;)Z"⟩
abbrev cX4_takesNumber : ByteArray := prog_6_method_10_code
def yX4_takesNumber : MethodName := ⟨RX4, "takesNumber", "()Z"⟩
abbrev cX4_ringsStand : ByteArray := prog_6_method_11_code
def yX4_ringsStand : MethodName := ⟨RX4, "ringsStand", "()Z"⟩
abbrev cX4_isPartner : ByteArray := prog_6_method_12_code
def yX4_isPartner : MethodName := ⟨RX4, "isPartner", "(III)Z"⟩
abbrev cX4_string : ByteArray := prog_6_method_13_code
def yX4_string : MethodName := ⟨RX4, "string", "(LKnotRows$Rows;)V"⟩
abbrev cX4_braidStands : ByteArray := prog_6_method_14_code
def yX4_braidStands : MethodName := ⟨RX4, "braidStands", "()Z"⟩
abbrev cX4_weave : ByteArray := prog_6_method_15_code
def yX4_weave : MethodName := ⟨RX4, "weave", "(LKnotRows$Rows;)V"⟩
abbrev cX4_placeBehind : ByteArray := prog_6_method_16_code
def yX4_placeBehind : MethodName := ⟨RX4, "placeBehind", "(II)I"⟩
def RX5 : String := "KnotRows$Rows"
def TX5 : u_T := fun k => match k with
  | 0 => ("KnotRows$Rows", "rings", "I", false)
  | 1 => ("KnotRows$Rows", "crossings", "I", false)
  | 2 => ("KnotRows$Rows", "first", "[I", true)
  | 3 => ("KnotRows$Rows", "pass", "[I", true)
  | _ => ("KnotRows$Rows", "sign", "[I", true)
def tyX5 : Nat → FieldType := fun k => match k with
  | 0 => .int
  | 1 => .int
  | 2 => .array .int
  | 3 => .array .int
  | _ => .array .int
abbrev wsX50 : List Cond := u_ws RX5 TX5 5
theorem nmX5 : ∀ a, a < 5 → ∀ b, b < 5 → a ≠ b → (TX5 a).2.1 ≠ (TX5 b).2.1 := by decide +kernel
theorem tyX5_ok : ∀ k, k < 5 → parseFieldDescriptor (TX5 k).2.2.1 = some (tyX5 k) := by decide +kernel
abbrev cX5_init : ByteArray := prog_7_method_1_code
def yX5_init : MethodName := ⟨RX5, "<init>", "()V"⟩
abbrev cX5_copy : ByteArray := prog_7_method_2_code
def yX5_copy : MethodName := ⟨RX5, "copy", "(LKnotRows$Rows;)V"⟩
abbrev cX5_same : ByteArray := prog_7_method_3_code
def yX5_same : MethodName := ⟨RX5, "same", "(LKnotRows$Rows;)Z"⟩
abbrev cX5_edges : ByteArray := prog_7_method_4_code
def yX5_edges : MethodName := ⟨RX5, "edges", "()I"⟩
abbrev cX5_allCrossings : ByteArray := prog_7_method_5_code
def yX5_allCrossings : MethodName := ⟨RX5, "allCrossings", "()I"⟩
abbrev cX5_crossingOf : ByteArray := prog_7_method_6_code
def yX5_crossingOf : MethodName := ⟨RX5, "crossingOf", "(I)I"⟩
abbrev cX5_isOver : ByteArray := prog_7_method_7_code
def yX5_isOver : MethodName := ⟨RX5, "isOver", "(I)Z"⟩
abbrev cX5_writhe : ByteArray := prog_7_method_8_code
def yX5_writhe : MethodName := ⟨RX5, "writhe", "()I"⟩
abbrev cX5_looseRings : ByteArray := prog_7_method_9_code
def yX5_looseRings : MethodName := ⟨RX5, "looseRings", "()I"⟩
abbrev cX5_takesTurns : ByteArray := prog_7_method_10_code
def yX5_takesTurns : MethodName := ⟨RX5, "takesTurns", "()Z"⟩
abbrev cX5_turnOver : ByteArray := prog_7_method_11_code
def yX5_turnOver : MethodName := ⟨RX5, "turnOver", "(I)V"⟩
abbrev cX5_reverse : ByteArray := prog_7_method_12_code
def yX5_reverse : MethodName := ⟨RX5, "reverse", "(ILKnotRows$Drawing;)V"⟩
abbrev cX5_exchange : ByteArray := prog_7_method_13_code
def yX5_exchange : MethodName := ⟨RX5, "exchange", "(LKnotRows$Drawing;I)V"⟩
abbrev cX5_swap : ByteArray := prog_7_method_14_code
def yX5_swap : MethodName := ⟨RX5, "swap", "(II)V"⟩
abbrev cX5_curl : ByteArray := prog_7_method_15_code
def yX5_curl : MethodName := ⟨RX5, "curl", "(IZZ)V"⟩
abbrev cX5_drop : ByteArray := prog_7_method_16_code
def yX5_drop : MethodName := ⟨RX5, "drop", "(I)V"⟩
abbrev cX5_goneAhead : ByteArray := prog_7_method_17_code
def yX5_goneAhead : MethodName := ⟨RX5, "goneAhead", "(II)I"⟩
abbrev cX5_shed : ByteArray := prog_7_method_18_code
def yX5_shed : MethodName := ⟨RX5, "shed", "(LKnotRows$Drawing;)I"⟩
abbrev cX5_canTake : ByteArray := prog_7_method_19_code
def yX5_canTake : MethodName := ⟨RX5, "canTake", "(LKnotRows$Rows;)Z"⟩
abbrev cX5_take : ByteArray := prog_7_method_20_code
def yX5_take : MethodName := ⟨RX5, "take", "(LKnotRows$Rows;)V"⟩
def RX6 : String := "KnotRows$Slides"
def TX6 : u_T := fun k => match k with
  | 0 => ("KnotRows$Slides", "rows", "[LKnotRows$Rows;", true)
  | _ => ("KnotRows$Slides", "drawings", "[LKnotRows$Drawing;", true)
def tyX6 : Nat → FieldType := fun k => match k with
  | 0 => .array (.object "KnotRows$Rows")
  | _ => .array (.object "KnotRows$Drawing")
abbrev wsX60 : List Cond := u_ws RX6 TX6 2
theorem nmX6 : ∀ a, a < 2 → ∀ b, b < 2 → a ≠ b → (TX6 a).2.1 ≠ (TX6 b).2.1 := by decide +kernel
theorem tyX6_ok : ∀ k, k < 2 → parseFieldDescriptor (TX6 k).2.2.1 = some (tyX6 k) := by decide +kernel
abbrev cX6_init : ByteArray := prog_8_method_1_code
def yX6_init : MethodName := ⟨RX6, "<init>", "()V"⟩
abbrev cX6_reachFewer : ByteArray := prog_8_method_2_code
def yX6_reachFewer : MethodName := ⟨RX6, "reachFewer", "(LKnotRows$Rows;I)Z"⟩
abbrev cX6_finds : ByteArray := prog_8_method_3_code
def yX6_finds : MethodName := ⟨RX6, "finds", "(LKnotRows$Slides;II)Z"⟩
def RX7 : String := "KnotRows$Tape"
def TX7 : u_T := fun k => match k with
  | 0 => ("KnotRows$Tape", "length", "I", false)
  | 1 => ("KnotRows$Tape", "kind", "I", false)
  | 2 => ("KnotRows$Tape", "value", "I", false)
  | 3 => ("KnotRows$Tape", "place", "I", false)
  | 4 => ("KnotRows$Tape", "next", "I", false)
  | _ => ("KnotRows$Tape", "bytes", "[B", true)
def tyX7 : Nat → FieldType := fun k => match k with
  | 0 => .int
  | 1 => .int
  | 2 => .int
  | 3 => .int
  | 4 => .int
  | _ => .array .byte
abbrev wsX70 : List Cond := u_ws RX7 TX7 6
theorem nmX7 : ∀ a, a < 6 → ∀ b, b < 6 → a ≠ b → (TX7 a).2.1 ≠ (TX7 b).2.1 := by decide +kernel
theorem tyX7_ok : ∀ k, k < 6 → parseFieldDescriptor (TX7 k).2.2.1 = some (tyX7 k) := by decide +kernel
abbrev cX7_init : ByteArray := prog_9_method_1_code
def yX7_init : MethodName := ⟨RX7, "<init>", "()V"⟩
abbrev cX7_put : ByteArray := prog_9_method_2_code
def yX7_put : MethodName := ⟨RX7, "put", "(I)V"⟩
abbrev cX7_begin : ByteArray := prog_9_method_3_code
def yX7_begin : MethodName := ⟨RX7, "begin", "()V"⟩
abbrev cX7_step : ByteArray := prog_9_method_4_code
def yX7_step : MethodName := ⟨RX7, "step", "()V"⟩
abbrev cX7_stepWord : ByteArray := prog_9_method_5_code
def yX7_stepWord : MethodName := ⟨RX7, "stepWord", "()V"⟩
abbrev cX7_spells : ByteArray := prog_9_method_6_code
def yX7_spells : MethodName := ⟨RX7, "spells", "(Ljava/lang/String;)Z"⟩
abbrev cX7_stepInt : ByteArray := prog_9_method_7_code
def yX7_stepInt : MethodName := ⟨RX7, "stepInt", "()V"⟩
abbrev cX7_byteAt : ByteArray := prog_9_method_8_code
def yX7_byteAt : MethodName := ⟨RX7, "byteAt", "(I)I"⟩
abbrev cX7_isBlank : ByteArray := prog_9_method_9_code
def yX7_isBlank : MethodName := ⟨RX7, "isBlank", "(I)Z"⟩
abbrev cX7_isLetter : ByteArray := prog_9_method_10_code
def yX7_isLetter : MethodName := ⟨RX7, "isLetter", "(I)Z"⟩
abbrev cX7_isDigit : ByteArray := prog_9_method_11_code
def yX7_isDigit : MethodName := ⟨RX7, "isDigit", "(I)Z"⟩
def RX8 : String := "KnotRows"
def TX8 : u_T := fun k => match k with
  | 0 => ("KnotRows", "tape", "LKnotRows$Tape;", true)
  | 1 => ("KnotRows", "reader", "LKnotRows$Reader;", true)
  | 2 => ("KnotRows", "rows", "LKnotRows$Rows;", true)
  | 3 => ("KnotRows", "drawing", "LKnotRows$Drawing;", true)
  | 4 => ("KnotRows", "arcs", "LKnotRows$Arcs;", true)
  | 5 => ("KnotRows", "bracket", "LKnotRows$Bracket;", true)
  | 6 => ("KnotRows", "slotBracket", "LKnotRows$Bracket;", true)
  | 7 => ("KnotRows", "past", "LKnotRows$Past;", true)
  | 8 => ("KnotRows", "slots", "[LKnotRows$Rows;", true)
  | 9 => ("KnotRows", "held", "[Z", true)
  | 10 => ("KnotRows", "trial", "LKnotRows$Rows;", true)
  | 11 => ("KnotRows", "trialDrawing", "LKnotRows$Drawing;", true)
  | 12 => ("KnotRows", "slides", "LKnotRows$Slides;", true)
  | 13 => ("KnotRows", "bracketKnown", "Z", false)
  | 14 => ("KnotRows", "freeingKnown", "Z", false)
  | 15 => ("KnotRows", "freeing", "I", false)
  | _ => ("KnotRows", "place", "I", false)
def tyX8 : Nat → FieldType := fun k => match k with
  | 0 => .object "KnotRows$Tape"
  | 1 => .object "KnotRows$Reader"
  | 2 => .object "KnotRows$Rows"
  | 3 => .object "KnotRows$Drawing"
  | 4 => .object "KnotRows$Arcs"
  | 5 => .object "KnotRows$Bracket"
  | 6 => .object "KnotRows$Bracket"
  | 7 => .object "KnotRows$Past"
  | 8 => .array (.object "KnotRows$Rows")
  | 9 => .array .boolean
  | 10 => .object "KnotRows$Rows"
  | 11 => .object "KnotRows$Drawing"
  | 12 => .object "KnotRows$Slides"
  | 13 => .boolean
  | 14 => .boolean
  | 15 => .int
  | _ => .int
abbrev wsX80 : List Cond := u_ws RX8 TX8 17
theorem nmX8 : ∀ a, a < 17 → ∀ b, b < 17 → a ≠ b → (TX8 a).2.1 ≠ (TX8 b).2.1 := by decide +kernel
theorem tyX8_ok : ∀ k, k < 17 → parseFieldDescriptor (TX8 k).2.2.1 = some (tyX8 k) := by decide +kernel
abbrev cX8_init : ByteArray := prog_1_method_1_code
def yX8_init : MethodName := ⟨RX8, "<init>", "()V"⟩
abbrev cX8_feed : ByteArray := prog_1_method_2_code
def yX8_feed : MethodName := ⟨RX8, "feed", "(IIIII)I"⟩
abbrev cX8_back : ByteArray := prog_1_method_3_code
def yX8_back : MethodName := ⟨RX8, "back", "(I)I"⟩
abbrev cX8_read : ByteArray := prog_1_method_4_code
def yX8_read : MethodName := ⟨RX8, "read", "()I"⟩
abbrev cX8_place : ByteArray := prog_1_method_5_code
def yX8_place : MethodName := ⟨RX8, "place", "()I"⟩
abbrev cX8_out : ByteArray := prog_1_method_6_code
def yX8_out : MethodName := ⟨RX8, "out", "(I)I"⟩
abbrev cX8_slide : ByteArray := prog_1_method_7_code
def yX8_slide : MethodName := ⟨RX8, "slide", "(I)Z"⟩
abbrev cX8_kink : ByteArray := prog_1_method_8_code
def yX8_kink : MethodName := ⟨RX8, "kink", "(IZZ)Z"⟩
abbrev cX8_loosen : ByteArray := prog_1_method_9_code
def yX8_loosen : MethodName := ⟨RX8, "loosen", "()I"⟩
abbrev cX8_mirror : ByteArray := prog_1_method_10_code
def yX8_mirror : MethodName := ⟨RX8, "mirror", "()Z"⟩
abbrev cX8_round : ByteArray := prog_1_method_11_code
def yX8_round : MethodName := ⟨RX8, "round", "(I)Z"⟩
abbrev cX8_switches : ByteArray := prog_1_method_12_code
def yX8_switches : MethodName := ⟨RX8, "switches", "(I)Z"⟩
abbrev cX8_sum : ByteArray := prog_1_method_13_code
def yX8_sum : MethodName := ⟨RX8, "sum", "(I)Z"⟩
abbrev cX8_undo : ByteArray := prog_1_method_14_code
def yX8_undo : MethodName := ⟨RX8, "undo", "()Z"⟩
abbrev cX8_ring : ByteArray := prog_1_method_15_code
def yX8_ring : MethodName := ⟨RX8, "ring", "(II)I"⟩
abbrev cX8_crossing : ByteArray := prog_1_method_16_code
def yX8_crossing : MethodName := ⟨RX8, "crossing", "(II)I"⟩
abbrev cX8_face : ByteArray := prog_1_method_17_code
def yX8_face : MethodName := ⟨RX8, "face", "(II)I"⟩
abbrev cX8_loops : ByteArray := prog_1_method_18_code
def yX8_loops : MethodName := ⟨RX8, "loops", "(I)I"⟩
abbrev cX8_coefficient : ByteArray := prog_1_method_19_code
def yX8_coefficient : MethodName := ⟨RX8, "coefficient", "(IZ)I"⟩
abbrev cX8_winding : ByteArray := prog_1_method_20_code
def yX8_winding : MethodName := ⟨RX8, "winding", "(II)I"⟩
abbrev cX8_colourings : ByteArray := prog_1_method_21_code
def yX8_colourings : MethodName := ⟨RX8, "colourings", "(I)J"⟩
abbrev cX8_freed : ByteArray := prog_1_method_22_code
def yX8_freed : MethodName := ⟨RX8, "freed", "(I)I"⟩
abbrev cX8_looser : ByteArray := prog_1_method_23_code
def yX8_looser : MethodName := ⟨RX8, "looser", "(I)I"⟩
abbrev cX8_alike : ByteArray := prog_1_method_24_code
def yX8_alike : MethodName := ⟨RX8, "alike", "(II)I"⟩
abbrev cX8_hold : ByteArray := prog_1_method_25_code
def yX8_hold : MethodName := ⟨RX8, "hold", "(I)Z"⟩
abbrev cX8_restore : ByteArray := prog_1_method_26_code
def yX8_restore : MethodName := ⟨RX8, "restore", "(I)Z"⟩
abbrev cX8_count : ByteArray := prog_1_method_27_code
def yX8_count : MethodName := ⟨RX8, "count", "(I)I"⟩
abbrev cX8_changed : ByteArray := prog_1_method_28_code
def yX8_changed : MethodName := ⟨RX8, "changed", "()V"⟩
abbrev cX8_holds : ByteArray := prog_1_method_29_code
def yX8_holds : MethodName := ⟨RX8, "holds", "(I)Z"⟩
abbrev cX8_slotsHeld : ByteArray := prog_1_method_30_code
def yX8_slotsHeld : MethodName := ⟨RX8, "slotsHeld", "()I"⟩
abbrev cX8_kindOfFace : ByteArray := prog_1_method_31_code
def yX8_kindOfFace : MethodName := ⟨RX8, "kindOfFace", "(I)I"⟩
abbrev cX8_ownBracket : ByteArray := prog_1_method_32_code
def yX8_ownBracket : MethodName := ⟨RX8, "ownBracket", "()LKnotRows$Bracket;"⟩
abbrev cX8_fewestSwitches : ByteArray := prog_1_method_33_code
def yX8_fewestSwitches : MethodName := ⟨RX8, "fewestSwitches", "()I"⟩
abbrev cX8_comesLoose : ByteArray := prog_1_method_34_code
def yX8_comesLoose : MethodName := ⟨RX8, "comesLoose", "(I)Z"⟩
def RX9 : String := "KnotRowsModel"
def TX9 : u_T := fun k => match k with
  | 0 => ("KnotRowsModel", "thrown", "I", false)
  | 1 => ("KnotRowsModel", "tape", "[B", true)
  | 2 => ("KnotRowsModel", "taped", "I", false)
  | 3 => ("KnotRowsModel", "text", "[B", true)
  | 4 => ("KnotRowsModel", "size", "I", false)
  | 5 => ("KnotRowsModel", "tKind", "[I", true)
  | 6 => ("KnotRowsModel", "tPlace", "[I", true)
  | 7 => ("KnotRowsModel", "tValue", "[I", true)
  | 8 => ("KnotRowsModel", "tName", "[J", true)
  | 9 => ("KnotRowsModel", "keys", "[J", true)
  | 10 => ("KnotRowsModel", "tokens", "I", false)
  | 11 => ("KnotRowsModel", "t", "I", false)
  | 12 => ("KnotRowsModel", "fault", "I", false)
  | 13 => ("KnotRowsModel", "faultPlace", "I", false)
  | 14 => ("KnotRowsModel", "worst", "I", false)
  | 15 => ("KnotRowsModel", "worstPlace", "I", false)
  | 16 => ("KnotRowsModel", "place", "I", false)
  | 17 => ("KnotRowsModel", "now", "[I", true)
  | 18 => ("KnotRowsModel", "fresh", "[I", true)
  | 19 => ("KnotRowsModel", "unlikeInts", "[I", true)
  | 20 => ("KnotRowsModel", "unlikeMany", "I", false)
  | 21 => ("KnotRowsModel", "ringLines", "I", false)
  | 22 => ("KnotRowsModel", "stood", "[I", true)
  | 23 => ("KnotRowsModel", "stoodOver", "[I", true)
  | 24 => ("KnotRowsModel", "braidAt", "[I", true)
  | 25 => ("KnotRowsModel", "passMany", "I", false)
  | 26 => ("KnotRowsModel", "passOf", "[I", true)
  | 27 => ("KnotRowsModel", "ringOf", "[I", true)
  | 28 => ("KnotRowsModel", "nextOf", "[I", true)
  | 29 => ("KnotRowsModel", "aheadOf", "[I", true)
  | 30 => ("KnotRowsModel", "endEdge", "[I", true)
  | 31 => ("KnotRowsModel", "endIn", "[Z", true)
  | 32 => ("KnotRowsModel", "faceMany", "I", false)
  | 33 => ("KnotRowsModel", "faceFrom", "[I", true)
  | 34 => ("KnotRowsModel", "corners", "[I", true)
  | 35 => ("KnotRowsModel", "isMet", "[Z", true)
  | 36 => ("KnotRowsModel", "partOf", "[I", true)
  | 37 => ("KnotRowsModel", "earlier", "[I", true)
  | 38 => ("KnotRowsModel", "earliest", "I", false)
  | 39 => ("KnotRowsModel", "undos", "I", false)
  | 40 => ("KnotRowsModel", "held", "[I", true)
  | 41 => ("KnotRowsModel", "isHeld", "[Z", true)
  | 42 => ("KnotRowsModel", "other", "[I", true)
  | 43 => ("KnotRowsModel", "bracket", "[I", true)
  | 44 => ("KnotRowsModel", "one", "[I", true)
  | 45 => ("KnotRowsModel", "moreOne", "[I", true)
  | 46 => ("KnotRowsModel", "kept", "[I", true)
  | 47 => ("KnotRowsModel", "arcAt", "[I", true)
  | 48 => ("KnotRowsModel", "rows", "[J", true)
  | 49 => ("KnotRowsModel", "freedSet", "I", false)
  | 50 => ("KnotRowsModel", "slid", "[I", true)
  | _ => ("KnotRowsModel", "nextFace", "[I", true)
def tyX9 : Nat → FieldType := fun k => match k with
  | 0 => .int
  | 1 => .array .byte
  | 2 => .int
  | 3 => .array .byte
  | 4 => .int
  | 5 => .array .int
  | 6 => .array .int
  | 7 => .array .int
  | 8 => .array .long
  | 9 => .array .long
  | 10 => .int
  | 11 => .int
  | 12 => .int
  | 13 => .int
  | 14 => .int
  | 15 => .int
  | 16 => .int
  | 17 => .array .int
  | 18 => .array .int
  | 19 => .array .int
  | 20 => .int
  | 21 => .int
  | 22 => .array .int
  | 23 => .array .int
  | 24 => .array .int
  | 25 => .int
  | 26 => .array .int
  | 27 => .array .int
  | 28 => .array .int
  | 29 => .array .int
  | 30 => .array .int
  | 31 => .array .boolean
  | 32 => .int
  | 33 => .array .int
  | 34 => .array .int
  | 35 => .array .boolean
  | 36 => .array .int
  | 37 => .array .int
  | 38 => .int
  | 39 => .int
  | 40 => .array .int
  | 41 => .array .boolean
  | 42 => .array .int
  | 43 => .array .int
  | 44 => .array .int
  | 45 => .array .int
  | 46 => .array .int
  | 47 => .array .int
  | 48 => .array .long
  | 49 => .int
  | 50 => .array .int
  | _ => .array .int
abbrev wsX90 : List Cond := u_ws RX9 TX9 52
theorem nmX9 : ∀ a, a < 52 → ∀ b, b < 52 → a ≠ b → (TX9 a).2.1 ≠ (TX9 b).2.1 := by decide +kernel
theorem tyX9_ok : ∀ k, k < 52 → parseFieldDescriptor (TX9 k).2.2.1 = some (tyX9 k) := by decide +kernel
abbrev cX9_init : ByteArray := prog_11_method_2_code
def yX9_init : MethodName := ⟨RX9, "<init>", "()V"⟩
abbrev cX9_feed : ByteArray := prog_11_method_3_code
def yX9_feed : MethodName := ⟨RX9, "feed", "(IIIII)I"⟩
abbrev cX9_lays : ByteArray := prog_11_method_4_code
def yX9_lays : MethodName := ⟨RX9, "lays", "(I)V"⟩
abbrev cX9_back : ByteArray := prog_11_method_5_code
def yX9_back : MethodName := ⟨RX9, "back", "(I)I"⟩
abbrev cX9_byteAt : ByteArray := prog_11_method_6_code
def yX9_byteAt : MethodName := ⟨RX9, "byteAt", "(I)I"⟩
abbrev cX9_isDigit : ByteArray := prog_11_method_7_code
def yX9_isDigit : MethodName := ⟨RX9, "isDigit", "(I)Z"⟩
abbrev cX9_isLetter : ByteArray := prog_11_method_8_code
def yX9_isLetter : MethodName := ⟨RX9, "isLetter", "(I)Z"⟩
abbrev cX9_appends : ByteArray := prog_11_method_9_code
def yX9_appends : MethodName := ⟨RX9, "appends", "(JI)J"⟩
abbrev cX9_letters : ByteArray := prog_11_method_10_code
def yX9_letters : MethodName := ⟨RX9, "letters", "(IIIIIII)J"⟩
abbrev cX9_token : ByteArray := prog_11_method_11_code
def yX9_token : MethodName := ⟨RX9, "token", "(IIIJ)V"⟩
abbrev cX9_cutsText : ByteArray := prog_11_method_12_code
def yX9_cutsText : MethodName := ⟨RX9, "cutsText", "()V"⟩
abbrev cX9_sign : ByteArray := prog_11_method_13_code
def yX9_sign : MethodName := ⟨RX9, "sign", "(II)I"⟩
abbrev cX9_is : ByteArray := prog_11_method_14_code
def yX9_is : MethodName := ⟨RX9, "is", "(I)Z"⟩
abbrev cX9_fail : ByteArray := prog_11_method_15_code
def yX9_fail : MethodName := ⟨RX9, "fail", "(I)V"⟩
abbrev cX9_wrong : ByteArray := prog_11_method_16_code
def yX9_wrong : MethodName := ⟨RX9, "wrong", "(II)V"⟩
abbrev cX9_passes : ByteArray := prog_11_method_17_code
def yX9_passes : MethodName := ⟨RX9, "passes", "()V"⟩
abbrev cX9_must : ByteArray := prog_11_method_18_code
def yX9_must : MethodName := ⟨RX9, "must", "(I)V"⟩
abbrev cX9_read : ByteArray := prog_11_method_19_code
def yX9_read : MethodName := ⟨RX9, "read", "()I"⟩
abbrev cX9_place : ByteArray := prog_11_method_20_code
def yX9_place : MethodName := ⟨RX9, "place", "()I"⟩
abbrev cX9_tellBraid : ByteArray := prog_11_method_21_code
def yX9_tellBraid : MethodName := ⟨RX9, "tellBraid", "()V"⟩
abbrev cX9_tellRing : ByteArray := prog_11_method_22_code
def yX9_tellRing : MethodName := ⟨RX9, "tellRing", "()V"⟩
abbrev cX9_unlikeAt : ByteArray := prog_11_method_23_code
def yX9_unlikeAt : MethodName := ⟨RX9, "unlikeAt", "(I)I"⟩
abbrev cX9_meets : ByteArray := prog_11_method_24_code
def yX9_meets : MethodName := ⟨RX9, "meets", "(I)V"⟩
abbrev cX9_means : ByteArray := prog_11_method_25_code
def yX9_means : MethodName := ⟨RX9, "means", "()V"⟩
abbrev cX9_meansRings : ByteArray := prog_11_method_26_code
def yX9_meansRings : MethodName := ⟨RX9, "meansRings", "()V"⟩
abbrev cX9_adds : ByteArray := prog_11_method_27_code
def yX9_adds : MethodName := ⟨RX9, "adds", "([III)V"⟩
abbrev cX9_lacks : ByteArray := prog_11_method_28_code
def yX9_lacks : MethodName := ⟨RX9, "lacks", "()V"⟩
abbrev cX9_meansBraid : ByteArray := prog_11_method_29_code
def yX9_meansBraid : MethodName := ⟨RX9, "meansBraid", "()V"⟩
abbrev cX9_goesDown : ByteArray := prog_11_method_30_code
def yX9_goesDown : MethodName := ⟨RX9, "goesDown", "(II)I"⟩
abbrev cX9_in : ByteArray := prog_11_method_31_code
def yX9_in : MethodName := ⟨RX9, "in", "(III)Z"⟩
abbrev cX9_has : ByteArray := prog_11_method_32_code
def yX9_has : MethodName := ⟨RX9, "has", "(II)Z"⟩
abbrev cX9_bitsOf : ByteArray := prog_11_method_33_code
def yX9_bitsOf : MethodName := ⟨RX9, "bitsOf", "(I)I"⟩
abbrev cX9_copies : ByteArray := prog_11_method_34_code
def yX9_copies : MethodName := ⟨RX9, "copies", "([I[I)V"⟩
abbrev cX9_laysEdges : ByteArray := prog_11_method_35_code
def yX9_laysEdges : MethodName := ⟨RX9, "laysEdges", "([I)V"⟩
abbrev cX9_endIn : ByteArray := prog_11_method_36_code
def yX9_endIn : MethodName := ⟨RX9, "endIn", "([II)I"⟩
abbrev cX9_turnsTo : ByteArray := prog_11_method_37_code
def yX9_turnsTo : MethodName := ⟨RX9, "turnsTo", "([II)I"⟩
abbrev cX9_crossingBehind : ByteArray := prog_11_method_38_code
def yX9_crossingBehind : MethodName := ⟨RX9, "crossingBehind", "(I)I"⟩
abbrev cX9_laysFaces : ByteArray := prog_11_method_39_code
def yX9_laysFaces : MethodName := ⟨RX9, "laysFaces", "([I)I"⟩
abbrev cX9_partsOf : ByteArray := prog_11_method_40_code
def yX9_partsOf : MethodName := ⟨RX9, "partsOf", "([I)I"⟩
abbrev cX9_joins : ByteArray := prog_11_method_41_code
def yX9_joins : MethodName := ⟨RX9, "joins", "(III)I"⟩
abbrev cX9_canBeDrawn : ByteArray := prog_11_method_42_code
def yX9_canBeDrawn : MethodName := ⟨RX9, "canBeDrawn", "([I)Z"⟩
abbrev cX9_oversOf : ByteArray := prog_11_method_43_code
def yX9_oversOf : MethodName := ⟨RX9, "oversOf", "(I)I"⟩
abbrev cX9_kindOf : ByteArray := prog_11_method_44_code
def yX9_kindOf : MethodName := ⟨RX9, "kindOf", "([II)I"⟩
abbrev cX9_kindMany : ByteArray := prog_11_method_45_code
def yX9_kindMany : MethodName := ⟨RX9, "kindMany", "(I)I"⟩
abbrev cX9_firstOf : ByteArray := prog_11_method_46_code
def yX9_firstOf : MethodName := ⟨RX9, "firstOf", "([II)I"⟩
abbrev cX9_dropsOut : ByteArray := prog_11_method_47_code
def yX9_dropsOut : MethodName := ⟨RX9, "dropsOut", "([II)V"⟩
abbrev cX9_goesOut : ByteArray := prog_11_method_48_code
def yX9_goesOut : MethodName := ⟨RX9, "goesOut", "([II)V"⟩
abbrev cX9_loosens : ByteArray := prog_11_method_49_code
def yX9_loosens : MethodName := ⟨RX9, "loosens", "([I)I"⟩
abbrev cX9_whereOf : ByteArray := prog_11_method_50_code
def yX9_whereOf : MethodName := ⟨RX9, "whereOf", "([II)I"⟩
abbrev cX9_slides : ByteArray := prog_11_method_51_code
def yX9_slides : MethodName := ⟨RX9, "slides", "([II)V"⟩
abbrev cX9_exchanges : ByteArray := prog_11_method_52_code
def yX9_exchanges : MethodName := ⟨RX9, "exchanges", "([II)V"⟩
abbrev cX9_switchesAt : ByteArray := prog_11_method_53_code
def yX9_switchesAt : MethodName := ⟨RX9, "switchesAt", "([II)V"⟩
abbrev cX9_marks : ByteArray := prog_11_method_54_code
def yX9_marks : MethodName := ⟨RX9, "marks", "()V"⟩
abbrev cX9_undo : ByteArray := prog_11_method_55_code
def yX9_undo : MethodName := ⟨RX9, "undo", "()Z"⟩
abbrev cX9_hold : ByteArray := prog_11_method_56_code
def yX9_hold : MethodName := ⟨RX9, "hold", "(I)Z"⟩
abbrev cX9_hasHeld : ByteArray := prog_11_method_57_code
def yX9_hasHeld : MethodName := ⟨RX9, "hasHeld", "(I)Z"⟩
abbrev cX9_restore : ByteArray := prog_11_method_58_code
def yX9_restore : MethodName := ⟨RX9, "restore", "(I)Z"⟩
abbrev cX9_out : ByteArray := prog_11_method_59_code
def yX9_out : MethodName := ⟨RX9, "out", "(I)I"⟩
abbrev cX9_slide : ByteArray := prog_11_method_60_code
def yX9_slide : MethodName := ⟨RX9, "slide", "(I)Z"⟩
abbrev cX9_kink : ByteArray := prog_11_method_61_code
def yX9_kink : MethodName := ⟨RX9, "kink", "(IZZ)Z"⟩
abbrev cX9_loosen : ByteArray := prog_11_method_62_code
def yX9_loosen : MethodName := ⟨RX9, "loosen", "()I"⟩
abbrev cX9_mirror : ByteArray := prog_11_method_63_code
def yX9_mirror : MethodName := ⟨RX9, "mirror", "()Z"⟩
abbrev cX9_round : ByteArray := prog_11_method_64_code
def yX9_round : MethodName := ⟨RX9, "round", "(I)Z"⟩
abbrev cX9_switches : ByteArray := prog_11_method_65_code
def yX9_switches : MethodName := ⟨RX9, "switches", "(I)Z"⟩
abbrev cX9_sum : ByteArray := prog_11_method_66_code
def yX9_sum : MethodName := ⟨RX9, "sum", "(I)Z"⟩
abbrev cX9_ring : ByteArray := prog_11_method_67_code
def yX9_ring : MethodName := ⟨RX9, "ring", "(II)I"⟩
abbrev cX9_passAt : ByteArray := prog_11_method_68_code
def yX9_passAt : MethodName := ⟨RX9, "passAt", "(II)I"⟩
abbrev cX9_crossing : ByteArray := prog_11_method_69_code
def yX9_crossing : MethodName := ⟨RX9, "crossing", "(II)I"⟩
abbrev cX9_face : ByteArray := prog_11_method_70_code
def yX9_face : MethodName := ⟨RX9, "face", "(II)I"⟩
abbrev cX9_looseMany : ByteArray := prog_11_method_71_code
def yX9_looseMany : MethodName := ⟨RX9, "looseMany", "([I)I"⟩
abbrev cX9_loopsOf : ByteArray := prog_11_method_72_code
def yX9_loopsOf : MethodName := ⟨RX9, "loopsOf", "([II)I"⟩
abbrev cX9_loops : ByteArray := prog_11_method_73_code
def yX9_loops : MethodName := ⟨RX9, "loops", "(I)I"⟩
abbrev cX9_laysBracket : ByteArray := prog_11_method_74_code
def yX9_laysBracket : MethodName := ⟨RX9, "laysBracket", "([I)V"⟩
abbrev cX9_timesLoop : ByteArray := prog_11_method_75_code
def yX9_timesLoop : MethodName := ⟨RX9, "timesLoop", "()V"⟩
abbrev cX9_writhe : ByteArray := prog_11_method_76_code
def yX9_writhe : MethodName := ⟨RX9, "writhe", "([I)I"⟩
abbrev cX9_knottedAt : ByteArray := prog_11_method_77_code
def yX9_knottedAt : MethodName := ⟨RX9, "knottedAt", "([II)I"⟩
abbrev cX9_coefficient : ByteArray := prog_11_method_78_code
def yX9_coefficient : MethodName := ⟨RX9, "coefficient", "(IZ)I"⟩
abbrev cX9_span : ByteArray := prog_11_method_79_code
def yX9_span : MethodName := ⟨RX9, "span", "()I"⟩
abbrev cX9_winding : ByteArray := prog_11_method_80_code
def yX9_winding : MethodName := ⟨RX9, "winding", "(II)I"⟩
abbrev cX9_laysArcs : ByteArray := prog_11_method_81_code
def yX9_laysArcs : MethodName := ⟨RX9, "laysArcs", "([I)I"⟩
abbrev cX9_laysRows : ByteArray := prog_11_method_82_code
def yX9_laysRows : MethodName := ⟨RX9, "laysRows", "()I"⟩
abbrev cX9_colourings : ByteArray := prog_11_method_83_code
def yX9_colourings : MethodName := ⟨RX9, "colourings", "(I)J"⟩
abbrev cX9_rest : ByteArray := prog_11_method_84_code
def yX9_rest : MethodName := ⟨RX9, "rest", "(JI)J"⟩
abbrev cX9_exchangesRows : ByteArray := prog_11_method_85_code
def yX9_exchangesRows : MethodName := ⟨RX9, "exchangesRows", "(II)V"⟩
abbrev cX9_clears : ByteArray := prog_11_method_86_code
def yX9_clears : MethodName := ⟨RX9, "clears", "(IIII)V"⟩
abbrev cX9_determinant : ByteArray := prog_11_method_87_code
def yX9_determinant : MethodName := ⟨RX9, "determinant", "()J"⟩
abbrev cX9_fewestSwitches : ByteArray := prog_11_method_88_code
def yX9_fewestSwitches : MethodName := ⟨RX9, "fewestSwitches", "()I"⟩
abbrev cX9_freed : ByteArray := prog_11_method_89_code
def yX9_freed : MethodName := ⟨RX9, "freed", "(I)I"⟩
abbrev cX9_isLooser : ByteArray := prog_11_method_90_code
def yX9_isLooser : MethodName := ⟨RX9, "isLooser", "(I)Z"⟩
abbrev cX9_looser : ByteArray := prog_11_method_91_code
def yX9_looser : MethodName := ⟨RX9, "looser", "(I)I"⟩
abbrev cX9_areRowsAlike : ByteArray := prog_11_method_92_code
def yX9_areRowsAlike : MethodName := ⟨RX9, "areRowsAlike", "()Z"⟩
abbrev cX9_alike : ByteArray := prog_11_method_93_code
def yX9_alike : MethodName := ⟨RX9, "alike", "(II)I"⟩
abbrev cX9_takeTurns : ByteArray := prog_11_method_94_code
def yX9_takeTurns : MethodName := ⟨RX9, "takeTurns", "()I"⟩
abbrev cX9_count : ByteArray := prog_11_method_95_code
def yX9_count : MethodName := ⟨RX9, "count", "(I)I"⟩
def RJ6 : String := "java/lang/Integer"
def TJ6 : u_T := fun k => match k with
  | _ => ("", "", "", false)
def tyJ6 : Nat → FieldType := fun k => match k with
  | _ => .int
abbrev wsJ60 : List Cond := u_ws RJ6 TJ6 0
theorem nmJ6 : ∀ a, a < 0 → ∀ b, b < 0 → a ≠ b → (TJ6 a).2.1 ≠ (TJ6 b).2.1 := by decide +kernel
theorem tyJ6_ok : ∀ k, k < 0 → parseFieldDescriptor (TJ6 k).2.2.1 = some (tyJ6 k) := by decide +kernel
abbrev cJ6_bitCount_0f7a4 : ByteArray := prog_12_method_49_code
def yJ6_bitCount_0f7a4 : MethodName := ⟨RJ6, "bitCount", "(I)I"⟩
def RJ9 : String := "java/lang/Math"
def TJ9 : u_T := fun k => match k with
  | _ => ("", "", "", false)
def tyJ9 : Nat → FieldType := fun k => match k with
  | _ => .int
abbrev wsJ90 : List Cond := u_ws RJ9 TJ9 0
theorem nmJ9 : ∀ a, a < 0 → ∀ b, b < 0 → a ≠ b → (TJ9 a).2.1 ≠ (TJ9 b).2.1 := by decide +kernel
theorem tyJ9_ok : ∀ k, k < 0 → parseFieldDescriptor (TJ9 k).2.2.1 = some (tyJ9 k) := by decide +kernel
abbrev cJ9_floorMod_f86c9 : ByteArray := prog_13_method_52_code
def yJ9_floorMod_f86c9 : MethodName := ⟨RJ9, "floorMod", "(JJ)J"⟩
abbrev cJ9_abs_067f4 : ByteArray := prog_13_method_61_code
def yJ9_abs_067f4 : MethodName := ⟨RJ9, "abs", "(J)J"⟩
abbrev cJ9_max_7cf53 : ByteArray := prog_13_method_65_code
def yJ9_max_7cf53 : MethodName := ⟨RJ9, "max", "(II)I"⟩
abbrev cJ9_min_7cf53 : ByteArray := prog_13_method_69_code
def yJ9_min_7cf53 : MethodName := ⟨RJ9, "min", "(II)I"⟩
def RJ0 : String := "java/lang/String"
def TJ0 : u_T := fun k => match k with
  | _ => ("", "", "", false)
def tyJ0 : Nat → FieldType := fun k => match k with
  | _ => .int
abbrev wsJ00 : List Cond := u_ws RJ0 TJ0 0
theorem nmJ0 : ∀ a, a < 0 → ∀ b, b < 0 → a ≠ b → (TJ0 a).2.1 ≠ (TJ0 b).2.1 := by decide +kernel
theorem tyJ0_ok : ∀ k, k < 0 → parseFieldDescriptor (TJ0 k).2.2.1 = some (tyJ0 k) := by decide +kernel
abbrev cJ0_length_8abf5 : ByteArray := prog_14_method_54_code
def yJ0_length_8abf5 : MethodName := ⟨RJ0, "length", "()I"⟩
abbrev cJ0_charAt_5068e : ByteArray := prog_14_method_56_code
def yJ0_charAt_5068e : MethodName := ⟨RJ0, "charAt", "(I)C"⟩
abbrev cJ0_coder_7d493 : ByteArray := prog_14_method_152_code
def yJ0_coder_7d493 : MethodName := ⟨RJ0, "coder", "()B"⟩
abbrev cJ0_isLatin1_aae02 : ByteArray := prog_14_method_154_code
def yJ0_isLatin1_aae02 : MethodName := ⟨RJ0, "isLatin1", "()Z"⟩
abbrev cJ0_checkIndex_df160 : ByteArray := prog_14_method_155_code
def yJ0_checkIndex_df160 : MethodName := ⟨RJ0, "checkIndex", "(II)V"⟩
def RJ1 : String := "java/lang/StringLatin1"
def TJ1 : u_T := fun k => match k with
  | _ => ("", "", "", false)
def tyJ1 : Nat → FieldType := fun k => match k with
  | _ => .int
abbrev wsJ10 : List Cond := u_ws RJ1 TJ1 0
theorem nmJ1 : ∀ a, a < 0 → ∀ b, b < 0 → a ≠ b → (TJ1 a).2.1 ≠ (TJ1 b).2.1 := by decide +kernel
theorem tyJ1_ok : ∀ k, k < 0 → parseFieldDescriptor (TJ1 k).2.2.1 = some (tyJ1 k) := by decide +kernel
abbrev cJ1_charAt_3b067 : ByteArray := prog_15_method_2_code
def yJ1_charAt_3b067 : MethodName := ⟨RJ1, "charAt", "([BI)C"⟩
def RJ2 : String := "java/lang/StringUTF16"
def TJ2 : u_T := fun k => match k with
  | _ => ("", "", "", false)
def tyJ2 : Nat → FieldType := fun k => match k with
  | _ => .int
abbrev wsJ20 : List Cond := u_ws RJ2 TJ2 0
theorem nmJ2 : ∀ a, a < 0 → ∀ b, b < 0 → a ≠ b → (TJ2 a).2.1 ≠ (TJ2 b).2.1 := by decide +kernel
theorem tyJ2_ok : ∀ k, k < 0 → parseFieldDescriptor (TJ2 k).2.2.1 = some (tyJ2 k) := by decide +kernel
abbrev cJ2_getChar_3b067 : ByteArray := prog_16_method_5_code
def yJ2_getChar_3b067 : MethodName := ⟨RJ2, "getChar", "([BI)C"⟩
abbrev cJ2_length_9d52b : ByteArray := prog_16_method_6_code
def yJ2_length_9d52b : MethodName := ⟨RJ2, "length", "([B)I"⟩
abbrev cJ2_charAt_3b067 : ByteArray := prog_16_method_83_code
def yJ2_charAt_3b067 : MethodName := ⟨RJ2, "charAt", "([BI)C"⟩
abbrev cJ2_checkIndex_2214a : ByteArray := prog_16_method_91_code
def yJ2_checkIndex_2214a : MethodName := ⟨RJ2, "checkIndex", "(I[B)V"⟩
def RJ10 : String := "java/lang/System"
def TJ10 : u_T := fun k => match k with
  | _ => ("", "", "", false)
def tyJ10 : Nat → FieldType := fun k => match k with
  | _ => .int
abbrev wsJ100 : List Cond := u_ws RJ10 TJ10 0
theorem nmJ10 : ∀ a, a < 0 → ∀ b, b < 0 → a ≠ b → (TJ10 a).2.1 ≠ (TJ10 b).2.1 := by decide +kernel
theorem tyJ10_ok : ∀ k, k < 0 → parseFieldDescriptor (TJ10 k).2.2.1 = some (tyJ10 k) := by decide +kernel
def RJ3 : String := "jdk/internal/util/Preconditions"
def TJ3 : u_T := fun k => match k with
  | _ => ("", "", "", false)
def tyJ3 : Nat → FieldType := fun k => match k with
  | _ => .int
abbrev wsJ30 : List Cond := u_ws RJ3 TJ3 0
theorem nmJ3 : ∀ a, a < 0 → ∀ b, b < 0 → a ≠ b → (TJ3 a).2.1 ≠ (TJ3 b).2.1 := by decide +kernel
theorem tyJ3_ok : ∀ k, k < 0 → parseFieldDescriptor (TJ3 k).2.2.1 = some (tyJ3 k) := by decide +kernel
abbrev cJ3_checkIndex_8e157 : ByteArray := prog_18_method_11_code
def yJ3_checkIndex_8e157 : MethodName := ⟨RJ3, "checkIndex", "(IILjava/util/function/BiFunction;)I"⟩
def RL : String := "KnotRowsLaw"
abbrev cL_law : ByteArray := code
def yL_law : MethodName := ⟨RL, "law", "([I)Z"⟩
abbrev vwCl : List vw_C := [(RX0, TX0, 3), (RX1, TX1, 3), (RX2, TX2, 11), (RX3, TX3, 3), (RX4, TX4, 18), (RX5, TX5, 5), (RX6, TX6, 2), (RX7, TX7, 6), (RX8, TX8, 17), (RX9, TX9, 52)]
end
section
/-! the table of methods, by program (wip/whole/gen_table.py) out of the printed names, decode rows and tables -/
def km_len : Jvm.ClassFile.Instr → Nat
  | .iload _ => 2 | .istore _ => 2 | .aload _ => 2 | .astore _ => 2 | .lload _ => 2 | .lstore _ => 2
  | .bipush _ => 2 | .ldc _ => 2 | .newarray _ => 2
  | .sipush _ => 3 | .ldc_w _ => 3 | .ldc2_w _ => 3 | .iinc _ _ => 3 | .getfield _ => 3 | .putfield _ => 3
  | .goto _ => 3 | .ifCond _ _ => 3 | .if_icmp _ _ => 3 | .invokevirtual _ => 3 | .invokestatic _ => 3 | .invokespecial _ => 3
  | .new _ => 3 | .anewarray _ => 3 | .multianewarray _ _ => 4
  | .tableswitch _ _ _ _ => 0
  | _ => 1
abbrev km_Q : Type := MethodName × ByteArray × Nat × Option FieldType × Nat × Nat × Bool × List (Nat × Jvm.ClassFile.Instr)
def km_okd (cc : ByteArray) (e : Nat × Jvm.ClassFile.Instr) : Bool := match decode cc e.1 with
  | .ok (i, n) => decide (i = e.2) && (Nat.beq n (km_len i) || Nat.beq (km_len i) 0)
  | _ => false
def km_okc (q : km_Q) : Bool := q.2.2.2.2.2.2.2.all (km_okd q.2.1)
theorem km_dall {q : km_Q} (h : (q.2.2.2.2.2.2.2.drop 0).all (km_okd q.2.1) = true) : km_okc q = true := h
theorem km_dlast {l : List (Nat × Jvm.ClassFile.Instr)} {p : Nat × Jvm.ClassFile.Instr → Bool} {a n : Nat} (h : Nat.ble l.length (a + n) = true) (h1 : ((l.drop a).take n).all p = true) : (l.drop a).all p = true := by
  have h2 : (l.drop a).take n = l.drop a := List.take_of_length_le (by rw [List.length_drop]; have := Nat.le_of_ble_eq_true h; omega)
  rw [h2] at h1
  exact h1
theorem km_dstep {l : List (Nat × Jvm.ClassFile.Instr)} {p : Nat × Jvm.ClassFile.Instr → Bool} {a n : Nat} (h1 : ((l.drop a).take n).all p = true) (h2 : (l.drop (a + n)).all p = true) : (l.drop a).all p = true := by
  rw [← List.take_append_drop n (l.drop a), List.all_append, h1, List.drop_drop, h2]
  rfl
def km_c0 : List (Nat × Jvm.ClassFile.Instr) := [(0, .aload_n 0), (1, .invokespecial 3), (4, .aload_n 0), (5, .bipush 16), (7, .newarray .int), (9, .putfield 9), (12, .aload_n 0), (13, .bipush 8), (15, .bipush 12), (17, .multianewarray 15 2), (21, .putfield 17), (24, .return_)]
def km_q0 : km_Q := (yX0_init, cX0_init, 1, none, 0, 1, false, km_c0)
def km_c1 : List (Nat × Jvm.ClassFile.Instr) := [(0, .iconst 0), (1, .istore_n 2), (2, .aload_n 0), (3, .aload_n 1), (4, .getfield 20), (7, .putfield 26), (10, .iconst 0), (11, .istore_n 3), (12, .iload_n 3), (13, .aload_n 1), (14, .getfield 29), (17, .if_icmp .ge 106), (20, .iconst 0), (21, .istore 4), (23, .aload_n 1), (24, .getfield 32), (27, .iload_n 3), (28, .iaload), (29, .istore 5), (31, .iload 5), (33, .aload_n 1), (34, .getfield 32), (37, .iload_n 3), (38, .iconst 1), (39, .iadd), (40, .iaload), (41, .if_icmp .ge 28), (44, .iload 4), (46, .aload_n 1), (47, .iload 5), (49, .invokevirtual 35), (52, .ifCond .eq 7), (55, .iconst 0), (56, .goto 4), (59, .iconst 1), (60, .iadd), (61, .istore 4), (63, .iinc 5 1), (66, .goto (-35)), (69, .iload 4), (71, .ifCond .ne 26), (74, .aload_n 0), (75, .aload_n 1), (76, .iload_n 3), (77, .aload_n 0), (78, .getfield 26), (81, .invokevirtual 39), (84, .aload_n 0), (85, .dup), (86, .getfield 26), (89, .iconst 1), (90, .iadd), (91, .putfield 26), (94, .goto 23), (97, .aload_n 0), (98, .aload_n 1), (99, .iload_n 3), (100, .iload_n 2), (101, .iload 4), (103, .iadd), (104, .iconst 1), (105, .isub), (106, .invokevirtual 39), (109, .aload_n 0), (110, .aload_n 1), (111, .iload_n 3), (112, .iload_n 2), (113, .invokevirtual 43), (116, .istore_n 2), (117, .iinc 3 1), (120, .goto (-108)), (123, .return_)]
def km_q1 : km_Q := (yX0_number, cX0_number, 6, none, 0, 2, false, km_c1)
def km_c2 : List (Nat × Jvm.ClassFile.Instr) := [(0, .aload_n 1), (1, .getfield 32), (4, .iload_n 2), (5, .iaload), (6, .istore 4), (8, .iload 4), (10, .aload_n 1), (11, .getfield 32), (14, .iload_n 2), (15, .iconst 1), (16, .iadd), (17, .iaload), (18, .if_icmp .ge 17), (21, .aload_n 0), (22, .getfield 9), (25, .iload 4), (27, .iload_n 3), (28, .iastore), (29, .iinc 4 1), (32, .goto (-24)), (35, .return_)]
def km_q2 : km_Q := (yX0_fill, cX0_fill, 5, none, 0, 4, false, km_c2)
def km_c3 : List (Nat × Jvm.ClassFile.Instr) := [(0, .iload_n 3), (1, .istore 4), (3, .aload_n 1), (4, .getfield 32), (7, .iload_n 2), (8, .iaload), (9, .istore 5), (11, .iload 5), (13, .aload_n 1), (14, .getfield 32), (17, .iload_n 2), (18, .iconst 1), (19, .iadd), (20, .iaload), (21, .if_icmp .ge 45), (24, .iload 4), (26, .aload_n 1), (27, .iload 5), (29, .invokevirtual 35), (32, .ifCond .eq 7), (35, .iconst 0), (36, .goto 4), (39, .iconst 1), (40, .iadd), (41, .istore 4), (43, .iload 4), (45, .iload_n 3), (46, .if_icmp .le 14), (49, .aload_n 0), (50, .getfield 9), (53, .iload 5), (55, .iload 4), (57, .iconst 1), (58, .isub), (59, .iastore), (60, .iinc 5 1), (63, .goto (-52)), (66, .iload 4), (68, .ireturn)]
def km_q3 : km_Q := (yX0_numberRing, cX0_numberRing, 6, (some .int), 0, 4, false, km_c3)
def km_c4 : List (Nat × Jvm.ClassFile.Instr) := [(0, .iconst 0), (1, .istore_n 3), (2, .iload_n 3), (3, .aload_n 1), (4, .getfield 20), (7, .if_icmp .ge 108), (10, .iconst 0), (11, .istore 4), (13, .iload 4), (15, .bipush 12), (17, .if_icmp .ge 19), (20, .aload_n 0), (21, .getfield 17), (24, .iload_n 3), (25, .aaload), (26, .iload 4), (28, .lconst 0), (29, .lastore), (30, .iinc 4 1), (33, .goto (-20)), (36, .aload_n 2), (37, .getfield 47), (40, .iload_n 3), (41, .iaload), (42, .istore 4), (44, .aload_n 0), (45, .getfield 17), (48, .iload_n 3), (49, .aaload), (50, .aload_n 0), (51, .getfield 9), (54, .aload_n 2), (55, .getfield 52), (58, .iload_n 3), (59, .iaload), (60, .iaload), (61, .dup2), (62, .laload), (63, .ldc2_w 55), (66, .ladd), (67, .lastore), (68, .aload_n 0), (69, .getfield 17), (72, .iload_n 3), (73, .aaload), (74, .aload_n 0), (75, .getfield 9), (78, .iload 4), (80, .iaload), (81, .dup2), (82, .laload), (83, .lconst 1), (84, .lsub), (85, .lastore), (86, .aload_n 0), (87, .getfield 17), (90, .iload_n 3), (91, .aaload), (92, .aload_n 0), (93, .getfield 9), (96, .aload_n 2), (97, .getfield 57), (100, .iload 4), (102, .iaload), (103, .iaload), (104, .dup2), (105, .laload), (106, .lconst 1), (107, .lsub), (108, .lastore), (109, .iinc 3 1), (112, .goto (-110)), (115, .return_)]
def km_q4 : km_Q := (yX0_writeRows, cX0_writeRows, 5, none, 0, 3, false, km_c4)
def km_c5 : List (Nat × Jvm.ClassFile.Instr) := [(0, .aload_n 1), (1, .getfield 20), (4, .ifCond .ne 17), (7, .aload_n 1), (8, .getfield 29), (11, .iconst 1), (12, .if_icmp .ne 7), (15, .iconst 1), (16, .goto 4), (19, .iconst 0), (20, .ireturn), (21, .aload_n 0), (22, .getfield 26), (25, .aload_n 1), (26, .getfield 20), (29, .if_icmp .le 5), (32, .iconst 0), (33, .ireturn), (34, .aload_n 0), (35, .aload_n 1), (36, .aload_n 2), (37, .invokevirtual 60), (40, .aload_n 0), (41, .aload_n 1), (42, .getfield 20), (45, .iconst 1), (46, .isub), (47, .invokevirtual 64), (50, .invokestatic 68), (53, .l2i), (54, .ireturn)]
def km_q5 : km_Q := (yX0_determinant, cX0_determinant, 3, (some .int), 0, 3, false, km_c5)
def km_c6 : List (Nat × Jvm.ClassFile.Instr) := [(0, .lconst 1), (1, .lstore_n 2), (2, .lconst 1), (3, .lstore 4), (5, .iconst 0), (6, .istore 6), (8, .iload 6), (10, .iload_n 1), (11, .if_icmp .ge 164), (14, .aload_n 0), (15, .iload 6), (17, .iload 6), (19, .iload_n 1), (20, .invokevirtual 74), (23, .istore 7), (25, .iload 7), (27, .iconst (-1)), (28, .if_icmp .ne 5), (31, .lconst 0), (32, .lreturn), (33, .iload 7), (35, .iload 6), (37, .if_icmp .eq 16), (40, .aload_n 0), (41, .iload 7), (43, .iload 6), (45, .invokevirtual 78), (48, .lload 4), (50, .lneg), (51, .lstore 4), (53, .iload 6), (55, .iconst 1), (56, .iadd), (57, .istore 8), (59, .iload 8), (61, .iload_n 1), (62, .if_icmp .ge 96), (65, .iload 6), (67, .iconst 1), (68, .iadd), (69, .istore 9), (71, .iload 9), (73, .iload_n 1), (74, .if_icmp .ge 78), (77, .aload_n 0), (78, .getfield 17), (81, .iload 8), (83, .aaload), (84, .iload 9), (86, .laload), (87, .aload_n 0), (88, .getfield 17), (91, .iload 6), (93, .aaload), (94, .iload 6), (96, .laload), (97, .lmul), (98, .aload_n 0), (99, .getfield 17), (102, .iload 8), (104, .aaload), (105, .iload 6), (107, .laload), (108, .aload_n 0), (109, .getfield 17), (112, .iload 6), (114, .aaload), (115, .iload 9), (117, .laload), (118, .lmul), (119, .lsub), (120, .lstore 10), (122, .aload_n 0), (123, .getfield 17), (126, .iload 8), (128, .aaload), (129, .iload 9), (131, .lload_n 2), (132, .lconst 0), (133, .lcmp), (134, .ifCond .ne 7), (137, .lconst 0), (138, .goto 7), (141, .lload 10), (143, .lload_n 2), (144, .ldiv), (145, .lastore), (146, .iinc 9 1), (149, .goto (-78)), (152, .iinc 8 1), (155, .goto (-96)), (158, .aload_n 0), (159, .getfield 17), (162, .iload 6), (164, .aaload), (165, .iload 6), (167, .laload), (168, .lstore_n 2), (169, .iinc 6 1), (172, .goto (-164)), (175, .lload 4), (177, .lload_n 2), (178, .lmul), (179, .lreturn)]
def km_q6 : km_Q := (yX0_eliminated, cX0_eliminated, 12, (some .long), 0, 2, false, km_c6)
def km_c7 : List (Nat × Jvm.ClassFile.Instr) := [(0, .iload_n 2), (1, .istore 4), (3, .iload 4), (5, .iload_n 3), (6, .if_icmp .ge 26), (9, .aload_n 0), (10, .getfield 17), (13, .iload 4), (15, .aaload), (16, .iload_n 1), (17, .laload), (18, .lconst 0), (19, .lcmp), (20, .ifCond .eq 6), (23, .iload 4), (25, .ireturn), (26, .iinc 4 1), (29, .goto (-26)), (32, .iconst (-1)), (33, .ireturn)]
def km_q7 : km_Q := (yX0_pivotRow, cX0_pivotRow, 5, (some .int), 0, 4, false, km_c7)
def km_c8 : List (Nat × Jvm.ClassFile.Instr) := [(0, .iconst 0), (1, .istore_n 3), (2, .iload_n 3), (3, .bipush 12), (5, .if_icmp .ge 45), (8, .aload_n 0), (9, .getfield 17), (12, .iload_n 1), (13, .aaload), (14, .iload_n 3), (15, .laload), (16, .lstore 4), (18, .aload_n 0), (19, .getfield 17), (22, .iload_n 1), (23, .aaload), (24, .iload_n 3), (25, .aload_n 0), (26, .getfield 17), (29, .iload_n 2), (30, .aaload), (31, .iload_n 3), (32, .laload), (33, .lastore), (34, .aload_n 0), (35, .getfield 17), (38, .iload_n 2), (39, .aaload), (40, .iload_n 3), (41, .lload 4), (43, .lastore), (44, .iinc 3 1), (47, .goto (-45)), (50, .return_)]
def km_q8 : km_Q := (yX0_swapRows, cX0_swapRows, 6, none, 0, 3, false, km_c8)
def km_c9 : List (Nat × Jvm.ClassFile.Instr) := [(0, .aload_n 0), (1, .aload_n 2), (2, .aload_n 3), (3, .invokevirtual 60), (6, .iconst 0), (7, .istore 4), (9, .iload 4), (11, .aload_n 2), (12, .getfield 20), (15, .if_icmp .ge 52), (18, .iconst 0), (19, .istore 5), (21, .iload 5), (23, .aload_n 0), (24, .getfield 26), (27, .if_icmp .ge 34), (30, .aload_n 0), (31, .getfield 17), (34, .iload 4), (36, .aaload), (37, .iload 5), (39, .aload_n 0), (40, .getfield 17), (43, .iload 4), (45, .aaload), (46, .iload 5), (48, .laload), (49, .iload_n 1), (50, .i2l), (51, .invokestatic 82), (54, .lastore), (55, .iinc 5 1), (58, .goto (-37)), (61, .iinc 4 1), (64, .goto (-55)), (67, .aload_n 0), (68, .getfield 26), (71, .aload_n 0), (72, .iload_n 1), (73, .aload_n 2), (74, .getfield 20), (77, .invokevirtual 86), (80, .isub), (81, .istore 4), (83, .lconst 1), (84, .lstore 5), (86, .iconst 0), (87, .istore 7), (89, .iload 7), (91, .iload 4), (93, .if_icmp .ge 16), (96, .lload 5), (98, .iload_n 1), (99, .i2l), (100, .lmul), (101, .lstore 5), (103, .iinc 7 1), (106, .goto (-17)), (109, .lload 5), (111, .lreturn)]
def km_q9 : km_Q := (yX0_colouringsBy, cX0_colouringsBy, 8, (some .long), 0, 4, false, km_c9)
def km_c10 : List (Nat × Jvm.ClassFile.Instr) := [(0, .iconst 0), (1, .istore_n 3), (2, .iconst 0), (3, .istore 4), (5, .iload 4), (7, .aload_n 0), (8, .getfield 26), (11, .if_icmp .ge 70), (14, .iload_n 3), (15, .iload_n 2), (16, .if_icmp .ge 65), (19, .aload_n 0), (20, .iload 4), (22, .iload_n 3), (23, .iload_n 2), (24, .invokevirtual 74), (27, .istore 5), (29, .iload 5), (31, .iconst (-1)), (32, .if_icmp .ne 6), (35, .goto 40), (38, .aload_n 0), (39, .iload 5), (41, .iload_n 3), (42, .invokevirtual 78), (45, .iload_n 3), (46, .iconst 1), (47, .iadd), (48, .istore 6), (50, .iload 6), (52, .iload_n 2), (53, .if_icmp .ge 19), (56, .aload_n 0), (57, .iload 6), (59, .iload_n 3), (60, .iload 4), (62, .iload_n 1), (63, .invokevirtual 90), (66, .iinc 6 1), (69, .goto (-19)), (72, .iinc 3 1), (75, .iinc 4 1), (78, .goto (-73)), (81, .iload_n 3), (82, .ireturn)]
def km_q10 : km_Q := (yX0_rank, cX0_rank, 7, (some .int), 0, 3, false, km_c10)
def km_c11 : List (Nat × Jvm.ClassFile.Instr) := [(0, .aload_n 0), (1, .getfield 17), (4, .iload_n 1), (5, .aaload), (6, .iload_n 3), (7, .laload), (8, .lstore 5), (10, .aload_n 0), (11, .getfield 17), (14, .iload_n 2), (15, .aaload), (16, .iload_n 3), (17, .laload), (18, .lstore 7), (20, .iload_n 3), (21, .istore 9), (23, .iload 9), (25, .aload_n 0), (26, .getfield 26), (29, .if_icmp .ge 49), (32, .aload_n 0), (33, .getfield 17), (36, .iload_n 1), (37, .aaload), (38, .iload 9), (40, .aload_n 0), (41, .getfield 17), (44, .iload_n 1), (45, .aaload), (46, .iload 9), (48, .laload), (49, .lload 7), (51, .lmul), (52, .aload_n 0), (53, .getfield 17), (56, .iload_n 2), (57, .aaload), (58, .iload 9), (60, .laload), (61, .lload 5), (63, .lmul), (64, .lsub), (65, .iload 4), (67, .i2l), (68, .invokestatic 82), (71, .lastore), (72, .iinc 9 1), (75, .goto (-52)), (78, .return_)]
def km_q11 : km_Q := (yX0_clear, cX0_clear, 10, none, 0, 5, false, km_c11)
def km_c12 : List (Nat × Jvm.ClassFile.Instr) := [(0, .aload_n 0), (1, .invokespecial 3), (4, .aload_n 0), (5, .bipush 121), (7, .newarray .int), (9, .putfield 11), (12, .aload_n 0), (13, .bipush 117), (15, .newarray .int), (17, .putfield 15), (20, .return_)]
def km_q12 : km_Q := (yX1_init, cX1_init, 1, none, 1, 1, false, km_c12)
def km_c13 : List (Nat × Jvm.ClassFile.Instr) := [(0, .iconst 0), (1, .istore_n 3), (2, .iload_n 3), (3, .aload_n 0), (4, .getfield 11), (7, .arraylength), (8, .if_icmp .ge 16), (11, .aload_n 0), (12, .getfield 11), (15, .iload_n 3), (16, .iconst 0), (17, .iastore), (18, .iinc 3 1), (21, .goto (-19)), (24, .aload_n 0), (25, .aload_n 1), (26, .invokevirtual 18), (29, .putfield 24), (32, .aload_n 1), (33, .getfield 27), (36, .ifCond .ne 4), (39, .return_), (40, .aload_n 0), (41, .aload_n 1), (42, .aload_n 2), (43, .invokevirtual 30), (46, .iconst 0), (47, .istore_n 3), (48, .iload_n 3), (49, .aload_n 1), (50, .getfield 34), (53, .if_icmp .gt 62), (56, .iconst 1), (57, .istore 4), (59, .iload 4), (61, .bipush 12), (63, .if_icmp .gt 46), (66, .aload_n 0), (67, .getfield 15), (70, .iload_n 3), (71, .bipush 13), (73, .imul), (74, .iload 4), (76, .iadd), (77, .iaload), (78, .istore 5), (80, .iload 5), (82, .ifCond .le 21), (85, .aload_n 0), (86, .iload 5), (88, .aload_n 1), (89, .getfield 34), (92, .iconst 2), (93, .iload_n 3), (94, .imul), (95, .isub), (96, .iload 4), (98, .iconst 1), (99, .isub), (100, .invokevirtual 37), (103, .iinc 4 1), (106, .goto (-47)), (109, .iinc 3 1), (112, .goto (-64)), (115, .return_)]
def km_q13 : km_Q := (yX1_addUp, cX1_addUp, 6, none, 1, 3, false, km_c13)
def km_c14 : List (Nat × Jvm.ClassFile.Instr) := [(0, .iconst 0), (1, .istore_n 3), (2, .iload_n 3), (3, .aload_n 0), (4, .getfield 15), (7, .arraylength), (8, .if_icmp .ge 16), (11, .aload_n 0), (12, .getfield 15), (15, .iload_n 3), (16, .iconst 0), (17, .iastore), (18, .iinc 3 1), (21, .goto (-19)), (24, .iconst 0), (25, .istore_n 3), (26, .iload_n 3), (27, .aload_n 1), (28, .invokevirtual 41), (31, .if_icmp .gt 43), (34, .aload_n 2), (35, .aload_n 1), (36, .iload_n 3), (37, .invokevirtual 44), (40, .istore 4), (42, .iload 4), (44, .bipush 12), (46, .if_icmp .gt 22), (49, .aload_n 0), (50, .getfield 15), (53, .iload_n 3), (54, .invokestatic 50), (57, .bipush 13), (59, .imul), (60, .iload 4), (62, .iadd), (63, .dup2), (64, .iaload), (65, .iconst 1), (66, .iadd), (67, .iastore), (68, .iinc 3 1), (71, .goto (-45)), (74, .return_)]
def km_q14 : km_Q := (yX1_tallyStates, cX1_tallyStates, 5, none, 1, 3, false, km_c14)
def km_c15 : List (Nat × Jvm.ClassFile.Instr) := [(0, .iload_n 3), (1, .iconst 2), (2, .irem), (3, .ifCond .ne 7), (6, .iload_n 1), (7, .goto 5), (10, .iload_n 1), (11, .ineg), (12, .istore 4), (14, .iconst 0), (15, .istore 5), (17, .iload 5), (19, .iload_n 3), (20, .if_icmp .gt 65), (23, .bipush 60), (25, .iload_n 2), (26, .iadd), (27, .iconst 2), (28, .iload_n 3), (29, .imul), (30, .iadd), (31, .iconst 4), (32, .iload 5), (34, .imul), (35, .isub), (36, .istore 6), (38, .iload 6), (40, .ifCond .lt 25), (43, .iload 6), (45, .aload_n 0), (46, .getfield 11), (49, .arraylength), (50, .if_icmp .ge 15), (53, .aload_n 0), (54, .getfield 11), (57, .iload 6), (59, .dup2), (60, .iaload), (61, .iload 4), (63, .iadd), (64, .iastore), (65, .iload 4), (67, .iload_n 3), (68, .iload 5), (70, .isub), (71, .imul), (72, .iload 5), (74, .iconst 1), (75, .iadd), (76, .idiv), (77, .istore 4), (79, .iinc 5 1), (82, .goto (-65)), (85, .return_)]
def km_q15 : km_Q := (yX1_addPower, cX1_addPower, 7, none, 1, 4, false, km_c15)
def km_c16 : List (Nat × Jvm.ClassFile.Instr) := [(0, .iload_n 1), (1, .bipush (-60)), (3, .if_icmp .lt 9), (6, .iload_n 1), (7, .bipush 60), (9, .if_icmp .le 7), (12, .iconst 0), (13, .goto 12), (16, .aload_n 0), (17, .getfield 11), (20, .bipush 60), (22, .iload_n 1), (23, .iadd), (24, .iaload), (25, .ireturn)]
def km_q16 : km_Q := (yX1_at, cX1_at, 2, (some .int), 1, 2, false, km_c16)
def km_c17 : List (Nat × Jvm.ClassFile.Instr) := [(0, .iload_n 1), (1, .bipush (-60)), (3, .if_icmp .lt 9), (6, .iload_n 1), (7, .bipush 60), (9, .if_icmp .le 5), (12, .iconst 0), (13, .ireturn), (14, .aload_n 0), (15, .iload_n 1), (16, .iconst 3), (17, .aload_n 0), (18, .getfield 24), (21, .imul), (22, .iadd), (23, .invokevirtual 56), (26, .istore_n 2), (27, .aload_n 0), (28, .getfield 24), (31, .iconst 2), (32, .irem), (33, .ifCond .ne 7), (36, .iload_n 2), (37, .goto 5), (40, .iload_n 2), (41, .ineg), (42, .ireturn)]
def km_q17 : km_Q := (yX1_knottedAt, cX1_knottedAt, 3, (some .int), 1, 2, false, km_c17)
def km_c18 : List (Nat × Jvm.ClassFile.Instr) := [(0, .bipush (-60)), (2, .istore_n 3), (3, .iload_n 3), (4, .bipush 60), (6, .if_icmp .gt 33), (9, .aload_n 0), (10, .iload_n 3), (11, .invokevirtual 59), (14, .aload_n 1), (15, .iload_n 2), (16, .ifCond .eq 8), (19, .iload_n 3), (20, .ineg), (21, .goto 4), (24, .iload_n 3), (25, .invokevirtual 59), (28, .if_icmp .eq 5), (31, .iconst 0), (32, .ireturn), (33, .iinc 3 1), (36, .goto (-33)), (39, .iconst 1), (40, .ireturn)]
def km_q18 : km_Q := (yX1_knottedAlike, cX1_knottedAlike, 4, (some .boolean), 1, 3, false, km_c18)
def km_c19 : List (Nat × Jvm.ClassFile.Instr) := [(0, .iconst 0), (1, .istore_n 1), (2, .iconst 0), (3, .istore_n 2), (4, .iconst 0), (5, .istore_n 3), (6, .bipush (-60)), (8, .istore 4), (10, .iload 4), (12, .bipush 60), (14, .if_icmp .gt 34), (17, .aload_n 0), (18, .iload 4), (20, .invokevirtual 56), (23, .ifCond .eq 19), (26, .iload_n 3), (27, .ifCond .eq 7), (30, .iload_n 1), (31, .goto 5), (34, .iload 4), (36, .istore_n 1), (37, .iload 4), (39, .istore_n 2), (40, .iconst 1), (41, .istore_n 3), (42, .iinc 4 1), (45, .goto (-35)), (48, .iload_n 2), (49, .iload_n 1), (50, .isub), (51, .ireturn)]
def km_q19 : km_Q := (yX1_span, cX1_span, 5, (some .int), 1, 1, false, km_c19)
def km_c20 : List (Nat × Jvm.ClassFile.Instr) := [(0, .aload_n 0), (1, .invokespecial 3), (4, .aload_n 0), (5, .bipush 16), (7, .newarray .int), (9, .putfield 9), (12, .aload_n 0), (13, .bipush 16), (15, .newarray .int), (17, .putfield 15), (20, .aload_n 0), (21, .bipush 16), (23, .newarray .int), (25, .putfield 18), (28, .aload_n 0), (29, .bipush 8), (31, .newarray .int), (33, .putfield 21), (36, .aload_n 0), (37, .bipush 8), (39, .newarray .int), (41, .putfield 24), (44, .aload_n 0), (45, .bipush 32), (47, .newarray .int), (49, .putfield 27), (52, .aload_n 0), (53, .bipush 32), (55, .newarray .int), (57, .putfield 30), (60, .aload_n 0), (61, .bipush 32), (63, .newarray .int), (65, .putfield 33), (68, .aload_n 0), (69, .bipush 33), (71, .newarray .int), (73, .putfield 36), (76, .aload_n 0), (77, .bipush 32), (79, .newarray .int), (81, .putfield 39), (84, .return_)]
def km_q20 : km_Q := (yX2_init, cX2_init, 1, none, 2, 1, false, km_c20)
def km_c21 : List (Nat × Jvm.ClassFile.Instr) := [(0, .aload_n 0), (1, .aload_n 1), (2, .invokevirtual 42), (5, .aload_n 0), (6, .aload_n 1), (7, .invokevirtual 46), (10, .aload_n 0), (11, .iconst 2), (12, .aload_n 1), (13, .invokevirtual 49), (16, .imul), (17, .invokevirtual 55), (20, .iconst 0), (21, .istore_n 2), (22, .iload_n 2), (23, .aload_n 0), (24, .getfield 59), (27, .if_icmp .ge 21), (30, .aload_n 0), (31, .getfield 39), (34, .iload_n 2), (35, .aload_n 0), (36, .aload_n 1), (37, .iload_n 2), (38, .invokevirtual 63), (41, .iastore), (42, .iinc 2 1), (45, .goto (-23)), (48, .return_)]
def km_q21 : km_Q := (yX2_trace, cX2_trace, 3, none, 2, 2, false, km_c21)
def km_c22 : List (Nat × Jvm.ClassFile.Instr) := [(0, .iconst 0), (1, .istore_n 2), (2, .iload_n 2), (3, .aload_n 1), (4, .getfield 67), (7, .if_icmp .ge 87), (10, .aload_n 1), (11, .getfield 70), (14, .iload_n 2), (15, .iaload), (16, .istore_n 3), (17, .aload_n 1), (18, .getfield 70), (21, .iload_n 2), (22, .iconst 1), (23, .iadd), (24, .iaload), (25, .istore 4), (27, .iload_n 3), (28, .istore 5), (30, .iload 5), (32, .iload 4), (34, .if_icmp .ge 54), (37, .iload 5), (39, .iconst 1), (40, .iadd), (41, .iload 4), (43, .if_icmp .ge 10), (46, .iload 5), (48, .iconst 1), (49, .iadd), (50, .goto 4), (53, .iload_n 3), (54, .istore 6), (56, .aload_n 0), (57, .getfield 9), (60, .iload 5), (62, .iload 6), (64, .iastore), (65, .aload_n 0), (66, .getfield 15), (69, .iload 6), (71, .iload 5), (73, .iastore), (74, .aload_n 0), (75, .getfield 18), (78, .iload 5), (80, .iload_n 2), (81, .iastore), (82, .iinc 5 1), (85, .goto (-55)), (88, .iinc 2 1), (91, .goto (-89)), (94, .return_)]
def km_q22 : km_Q := (yX2_joinPasses, cX2_joinPasses, 7, none, 2, 2, false, km_c22)
def km_c23 : List (Nat × Jvm.ClassFile.Instr) := [(0, .iconst 0), (1, .istore_n 2), (2, .iload_n 2), (3, .aload_n 1), (4, .invokevirtual 49), (7, .if_icmp .ge 94), (10, .aload_n 1), (11, .iload_n 2), (12, .invokevirtual 73), (15, .istore_n 3), (16, .iconst 0), (17, .istore 4), (19, .aload_n 1), (20, .iload_n 2), (21, .invokevirtual 77), (24, .ifCond .eq 29), (27, .aload_n 1), (28, .getfield 81), (31, .iload_n 3), (32, .iaload), (33, .ifCond .le 7), (36, .iconst 3), (37, .goto 4), (40, .iconst 1), (41, .istore 4), (43, .aload_n 0), (44, .getfield 21), (47, .iload_n 3), (48, .iload_n 2), (49, .iastore), (50, .goto 10), (53, .aload_n 0), (54, .getfield 24), (57, .iload_n 3), (58, .iload_n 2), (59, .iastore), (60, .aload_n 0), (61, .iconst 4), (62, .iload_n 3), (63, .imul), (64, .iload 4), (66, .iadd), (67, .iconst 2), (68, .aload_n 0), (69, .getfield 15), (72, .iload_n 2), (73, .iaload), (74, .imul), (75, .iconst 1), (76, .iadd), (77, .invokevirtual 84), (80, .aload_n 0), (81, .iconst 4), (82, .iload_n 3), (83, .imul), (84, .iload 4), (86, .iconst 2), (87, .ixor), (88, .iadd), (89, .iconst 2), (90, .iload_n 2), (91, .imul), (92, .invokevirtual 84), (95, .iinc 2 1), (98, .goto (-96)), (101, .return_)]
def km_q23 : km_Q := (yX2_joinEnds, cX2_joinEnds, 5, none, 2, 2, false, km_c23)
def km_c24 : List (Nat × Jvm.ClassFile.Instr) := [(0, .aload_n 0), (1, .getfield 27), (4, .iload_n 1), (5, .iload_n 2), (6, .iastore), (7, .aload_n 0), (8, .getfield 30), (11, .iload_n 2), (12, .iconst 1), (13, .ixor), (14, .iload_n 1), (15, .iastore), (16, .return_)]
def km_q24 : km_Q := (yX2_joinEnd, cX2_joinEnd, 3, none, 2, 3, false, km_c24)
def km_c25 : List (Nat × Jvm.ClassFile.Instr) := [(0, .lconst 0), (1, .lstore_n 2), (2, .iconst 0), (3, .istore 4), (5, .aload_n 0), (6, .iconst 0), (7, .putfield 59), (10, .iconst 0), (11, .istore 5), (13, .iload 5), (15, .iload_n 1), (16, .if_icmp .ge 121), (19, .lload_n 2), (20, .iload 5), (22, .lshr), (23, .lconst 1), (24, .land), (25, .lconst 1), (26, .lcmp), (27, .ifCond .ne 6), (30, .goto 101), (33, .aload_n 0), (34, .getfield 36), (37, .aload_n 0), (38, .getfield 59), (41, .iload 4), (43, .iastore), (44, .iload 5), (46, .istore 6), (48, .iconst 0), (49, .istore 7), (51, .iload 7), (53, .iload_n 1), (54, .if_icmp .ge 67), (57, .lload_n 2), (58, .iload 6), (60, .lshr), (61, .lconst 1), (62, .land), (63, .lconst 0), (64, .lcmp), (65, .ifCond .ne 56), (68, .lload_n 2), (69, .lconst 1), (70, .iload 6), (72, .lshl), (73, .lor), (74, .lstore_n 2), (75, .aload_n 0), (76, .getfield 33), (79, .iload 4), (81, .iload 6), (83, .iastore), (84, .iinc 4 1), (87, .aload_n 0), (88, .getfield 30), (91, .iload 6), (93, .iaload), (94, .istore 8), (96, .aload_n 0), (97, .getfield 27), (100, .iload 8), (102, .bipush (-4)), (104, .iand), (105, .iload 8), (107, .iconst 1), (108, .iadd), (109, .iconst 3), (110, .iand), (111, .ior), (112, .iaload), (113, .istore 6), (115, .iinc 7 1), (118, .goto (-67)), (121, .aload_n 0), (122, .dup), (123, .getfield 59), (126, .iconst 1), (127, .iadd), (128, .putfield 59), (131, .iinc 5 1), (134, .goto (-121)), (137, .aload_n 0), (138, .getfield 36), (141, .aload_n 0), (142, .getfield 59), (145, .iload 4), (147, .iastore), (148, .return_)]
def km_q25 : km_Q := (yX2_walkFaces, cX2_walkFaces, 9, none, 2, 2, false, km_c25)
def km_c26 : List (Nat × Jvm.ClassFile.Instr) := [(0, .aload_n 0), (1, .iload_n 2), (2, .invokevirtual 88), (5, .istore_n 3), (6, .iload_n 3), (7, .iconst 1), (8, .if_icmp .ne 5), (11, .iconst 1), (12, .ireturn), (13, .iload_n 3), (14, .iconst 3), (15, .if_icmp .gt 15), (18, .aload_n 0), (19, .iload_n 2), (20, .invokevirtual 91), (23, .invokestatic 94), (26, .iload_n 3), (27, .if_icmp .eq 5), (30, .iconst 0), (31, .ireturn), (32, .iconst 0), (33, .istore 4), (35, .aload_n 0), (36, .getfield 36), (39, .iload_n 2), (40, .iaload), (41, .istore 5), (43, .iload 5), (45, .aload_n 0), (46, .getfield 36), (49, .iload_n 2), (50, .iconst 1), (51, .iadd), (52, .iaload), (53, .if_icmp .ge 51), (56, .aload_n 0), (57, .getfield 33), (60, .iload 5), (62, .iaload), (63, .iconst 1), (64, .ishr), (65, .istore 6), (67, .iload 4), (69, .iconst 1), (70, .aload_n 1), (71, .getfield 99), (74, .iload 6), (76, .iaload), (77, .iconst 1), (78, .iand), (79, .aload_n 1), (80, .getfield 99), (83, .aload_n 0), (84, .getfield 9), (87, .iload 6), (89, .iaload), (90, .iaload), (91, .iconst 1), (92, .iand), (93, .iadd), (94, .ishl), (95, .ior), (96, .istore 4), (98, .iinc 5 1), (101, .goto (-58)), (104, .iload_n 3), (105, .iconst 2), (106, .if_icmp .ne 15), (109, .iload 4), (111, .iconst 5), (112, .if_icmp .ne 7), (115, .iconst 2), (116, .goto 4), (119, .iconst 0), (120, .ireturn), (121, .iload 4), (123, .bipush 7), (125, .if_icmp .ne 7), (128, .iconst 3), (129, .goto 4), (132, .iconst 0), (133, .ireturn)]
def km_q26 : km_Q := (yX2_judged, cX2_judged, 7, (some .int), 2, 3, false, km_c26)
def km_c27 : List (Nat × Jvm.ClassFile.Instr) := [(0, .aload_n 0), (1, .getfield 36), (4, .iload_n 1), (5, .iconst 1), (6, .iadd), (7, .iaload), (8, .aload_n 0), (9, .getfield 36), (12, .iload_n 1), (13, .iaload), (14, .isub), (15, .ireturn)]
def km_q27 : km_Q := (yX2_corners, cX2_corners, 2, (some .int), 2, 2, false, km_c27)
def km_c28 : List (Nat × Jvm.ClassFile.Instr) := [(0, .iconst 0), (1, .istore_n 2), (2, .aload_n 0), (3, .getfield 36), (6, .iload_n 1), (7, .iaload), (8, .istore_n 3), (9, .iload_n 3), (10, .aload_n 0), (11, .getfield 36), (14, .iload_n 1), (15, .iconst 1), (16, .iadd), (17, .iaload), (18, .if_icmp .ge 27), (21, .iload_n 2), (22, .iconst 1), (23, .aload_n 0), (24, .getfield 30), (27, .aload_n 0), (28, .getfield 33), (31, .iload_n 3), (32, .iaload), (33, .iaload), (34, .iconst 2), (35, .ishr), (36, .ishl), (37, .ior), (38, .istore_n 2), (39, .iinc 3 1), (42, .goto (-33)), (45, .iload_n 2), (46, .ireturn)]
def km_q28 : km_Q := (yX2_crossingsAt, cX2_crossingsAt, 4, (some .int), 2, 2, false, km_c28)
def km_c29 : List (Nat × Jvm.ClassFile.Instr) := [(0, .aload_n 0), (1, .getfield 27), (4, .iconst 4), (5, .iload_n 1), (6, .imul), (7, .iload_n 2), (8, .iadd), (9, .iaload), (10, .iconst 1), (11, .ishr), (12, .ireturn)]
def km_q29 : km_Q := (yX2_edgeAt, cX2_edgeAt, 3, (some .int), 2, 3, false, km_c29)
def km_c30 : List (Nat × Jvm.ClassFile.Instr) := [(0, .iconst 0), (1, .istore_n 2), (2, .iconst 0), (3, .istore_n 3), (4, .iload_n 3), (5, .aload_n 0), (6, .getfield 59), (9, .if_icmp .ge 27), (12, .iload_n 2), (13, .aload_n 0), (14, .getfield 39), (17, .iload_n 3), (18, .iaload), (19, .iload_n 1), (20, .if_icmp .ne 7), (23, .iconst 1), (24, .goto 4), (27, .iconst 0), (28, .iadd), (29, .istore_n 2), (30, .iinc 3 1), (33, .goto (-29)), (36, .iload_n 2), (37, .ireturn)]
def km_q30 : km_Q := (yX2_facesOfKind, cX2_facesOfKind, 4, (some .int), 2, 2, false, km_c30)
def km_c31 : List (Nat × Jvm.ClassFile.Instr) := [(0, .iconst (-1)), (1, .istore_n 1), (2, .iconst 0), (3, .istore_n 2), (4, .iload_n 2), (5, .aload_n 0), (6, .getfield 59), (9, .if_icmp .ge 38), (12, .aload_n 0), (13, .getfield 39), (16, .iload_n 2), (17, .iaload), (18, .iconst 1), (19, .if_icmp .ne 5), (22, .iload_n 2), (23, .ireturn), (24, .aload_n 0), (25, .getfield 39), (28, .iload_n 2), (29, .iaload), (30, .iconst 2), (31, .if_icmp .ne 10), (34, .iload_n 1), (35, .iconst (-1)), (36, .if_icmp .ne 5), (39, .iload_n 2), (40, .istore_n 1), (41, .iinc 2 1), (44, .goto (-40)), (47, .iload_n 1), (48, .ireturn)]
def km_q31 : km_Q := (yX2_firstToGo, cX2_firstToGo, 3, (some .int), 2, 1, false, km_c31)
def km_c32 : List (Nat × Jvm.ClassFile.Instr) := [(0, .iconst 0), (1, .istore_n 2), (2, .iconst 0), (3, .istore_n 3), (4, .iconst 0), (5, .istore 4), (7, .iload 4), (9, .aload_n 1), (10, .getfield 67), (13, .if_icmp .ge 50), (16, .aload_n 1), (17, .getfield 70), (20, .iload 4), (22, .iaload), (23, .aload_n 1), (24, .getfield 70), (27, .iload 4), (29, .iconst 1), (30, .iadd), (31, .iaload), (32, .if_icmp .ge 25), (35, .iload_n 3), (36, .iload 4), (38, .ishr), (39, .iconst 1), (40, .iand), (41, .ifCond .ne 16), (44, .iload_n 3), (45, .aload_n 0), (46, .aload_n 1), (47, .iload 4), (49, .invokevirtual 102), (52, .ior), (53, .istore_n 3), (54, .iinc 2 1), (57, .iinc 4 1), (60, .goto (-53)), (63, .iload_n 2), (64, .ireturn)]
def km_q32 : km_Q := (yX2_partsOf, cX2_partsOf, 5, (some .int), 2, 2, false, km_c32)
def km_c33 : List (Nat × Jvm.ClassFile.Instr) := [(0, .iconst 1), (1, .iload_n 2), (2, .ishl), (3, .istore_n 3), (4, .iconst 1), (5, .istore 4), (7, .iload 4), (9, .iconst 4), (10, .if_icmp .ge 74), (13, .iconst 0), (14, .istore 5), (16, .iload 5), (18, .aload_n 1), (19, .getfield 105), (22, .if_icmp .ge 56), (25, .iconst 1), (26, .aload_n 0), (27, .getfield 18), (30, .aload_n 0), (31, .getfield 21), (34, .iload 5), (36, .iaload), (37, .iaload), (38, .ishl), (39, .iconst 1), (40, .aload_n 0), (41, .getfield 18), (44, .aload_n 0), (45, .getfield 24), (48, .iload 5), (50, .iaload), (51, .iaload), (52, .ishl), (53, .ior), (54, .istore 6), (56, .iload_n 3), (57, .iload_n 3), (58, .iload 6), (60, .iand), (61, .ifCond .eq 8), (64, .iload 6), (66, .goto 4), (69, .iconst 0), (70, .ior), (71, .istore_n 3), (72, .iinc 5 1), (75, .goto (-59)), (78, .iinc 4 1), (81, .goto (-74)), (84, .iload_n 3), (85, .ireturn)]
def km_q33 : km_Q := (yX2_partWith, cX2_partWith, 7, (some .int), 2, 3, false, km_c33)
def km_c34 : List (Nat × Jvm.ClassFile.Instr) := [(0, .aload_n 0), (1, .getfield 59), (4, .aload_n 1), (5, .getfield 105), (8, .iconst 2), (9, .aload_n 0), (10, .aload_n 1), (11, .invokevirtual 108), (14, .imul), (15, .iadd), (16, .if_icmp .ne 7), (19, .iconst 1), (20, .goto 4), (23, .iconst 0), (24, .ireturn)]
def km_q34 : km_Q := (yX2_isPlane, cX2_isPlane, 2, (some .boolean), 2, 2, false, km_c34)
def km_c35 : List (Nat × Jvm.ClassFile.Instr) := [(0, .aload_n 1), (1, .invokevirtual 112), (4, .istore_n 3), (5, .aload_n 1), (6, .invokevirtual 49), (9, .istore 4), (11, .iconst 0), (12, .istore 5), (14, .iconst 0), (15, .istore 6), (17, .iload 6), (19, .iload 4), (21, .if_icmp .ge 110), (24, .iload 5), (26, .iload 6), (28, .ishr), (29, .iconst 1), (30, .iand), (31, .iconst 1), (32, .if_icmp .ne 6), (35, .goto 90), (38, .iconst 2), (39, .iload 6), (41, .imul), (42, .istore 7), (44, .iconst 0), (45, .istore 8), (47, .iload 8), (49, .iload 4), (51, .if_icmp .ge 71), (54, .iload 5), (56, .iload 7), (58, .iconst 1), (59, .ishr), (60, .ishr), (61, .iconst 1), (62, .iand), (63, .ifCond .ne 59), (66, .iload 5), (68, .iconst 1), (69, .iload 7), (71, .iconst 1), (72, .ishr), (73, .ishl), (74, .ior), (75, .istore 5), (77, .aload_n 0), (78, .getfield 30), (81, .iload 7), (83, .iaload), (84, .istore 9), (86, .aload_n 0), (87, .getfield 27), (90, .iload_n 2), (91, .iload 9), (93, .iconst 2), (94, .ishr), (95, .ishr), (96, .iconst 1), (97, .iand), (98, .iconst 1), (99, .if_icmp .ne 10), (102, .iload 9), (104, .iconst 3), (105, .ixor), (106, .goto 7), (109, .iload 9), (111, .iconst 1), (112, .ixor), (113, .iaload), (114, .istore 7), (116, .iinc 8 1), (119, .goto (-72)), (122, .iinc 3 1), (125, .iinc 6 1), (128, .goto (-111)), (131, .iload_n 3), (132, .ireturn)]
def km_q35 : km_Q := (yX2_loopsOf, cX2_loopsOf, 10, (some .int), 2, 3, false, km_c35)
def km_c36 : List (Nat × Jvm.ClassFile.Instr) := [(0, .aload_n 0), (1, .invokespecial 3), (4, .aload_n 0), (5, .bipush 40), (7, .anewarray 9), (10, .putfield 11), (13, .iconst 0), (14, .istore_n 1), (15, .iload_n 1), (16, .bipush 40), (18, .if_icmp .ge 22), (21, .aload_n 0), (22, .getfield 11), (25, .iload_n 1), (26, .new 9), (29, .dup), (30, .invokespecial 17), (33, .aastore), (34, .iinc 1 1), (37, .goto (-22)), (40, .return_)]
def km_q36 : km_Q := (yX3_init, cX3_init, 2, none, 3, 1, false, km_c36)
def km_c37 : List (Nat × Jvm.ClassFile.Instr) := [(0, .aload_n 0), (1, .iconst 0), (2, .putfield 18), (5, .return_)]
def km_q37 : km_Q := (yX3_forget, cX3_forget, 1, none, 3, 1, false, km_c37)
def km_c38 : List (Nat × Jvm.ClassFile.Instr) := [(0, .aload_n 0), (1, .getfield 11), (4, .aload_n 0), (5, .getfield 22), (8, .aaload), (9, .aload_n 1), (10, .invokevirtual 25), (13, .aload_n 0), (14, .aload_n 0), (15, .getfield 22), (18, .iconst 1), (19, .iadd), (20, .bipush 40), (22, .if_icmp .ge 12), (25, .aload_n 0), (26, .getfield 22), (29, .iconst 1), (30, .iadd), (31, .goto 4), (34, .iconst 0), (35, .putfield 22), (38, .aload_n 0), (39, .aload_n 0), (40, .getfield 18), (43, .iconst 1), (44, .iadd), (45, .bipush 40), (47, .invokestatic 29), (50, .putfield 18), (53, .return_)]
def km_q38 : km_Q := (yX3_keep, cX3_keep, 2, none, 3, 2, false, km_c38)
def km_c39 : List (Nat × Jvm.ClassFile.Instr) := [(0, .aload_n 0), (1, .getfield 18), (4, .ifCond .ne 5), (7, .iconst 0), (8, .ireturn), (9, .aload_n 0), (10, .aload_n 0), (11, .getfield 22), (14, .ifCond .le 12), (17, .aload_n 0), (18, .getfield 22), (21, .iconst 1), (22, .isub), (23, .goto 5), (26, .bipush 39), (28, .putfield 22), (31, .aload_n 0), (32, .dup), (33, .getfield 18), (36, .iconst 1), (37, .isub), (38, .putfield 18), (41, .aload_n 1), (42, .aload_n 0), (43, .getfield 11), (46, .aload_n 0), (47, .getfield 22), (50, .aaload), (51, .invokevirtual 25), (54, .iconst 1), (55, .ireturn)]
def km_q39 : km_Q := (yX3_bringBack, cX3_bringBack, 2, (some .boolean), 3, 2, false, km_c39)
def km_c40 : List (Nat × Jvm.ClassFile.Instr) := [(0, .aload_n 0), (1, .invokespecial 3), (4, .aload_n 0), (5, .iconst 5), (6, .newarray .int), (8, .putfield 9), (11, .aload_n 0), (12, .sipush 134), (15, .newarray .int), (17, .putfield 15), (20, .aload_n 0), (21, .sipush 134), (24, .newarray .int), (26, .putfield 18), (29, .aload_n 0), (30, .sipush 134), (33, .newarray .int), (35, .putfield 21), (38, .aload_n 0), (39, .sipush 134), (42, .newarray .boolean), (44, .putfield 24), (47, .aload_n 0), (48, .sipush 134), (51, .newarray .boolean), (53, .putfield 28), (56, .aload_n 0), (57, .bipush 8), (59, .newarray .int), (61, .putfield 31), (64, .aload_n 0), (65, .bipush 8), (67, .newarray .int), (69, .putfield 34), (72, .aload_n 0), (73, .bipush 8), (75, .newarray .int), (77, .putfield 37), (80, .return_)]
def km_q40 : km_Q := (yX4_init, cX4_init, 1, none, 4, 1, false, km_c40)
def km_c41 : List (Nat × Jvm.ClassFile.Instr) := [(0, .aload_n 0), (1, .iconst 0), (2, .putfield 40), (5, .aload_n 0), (6, .iconst 0), (7, .putfield 44), (10, .aload_n 0), (11, .iconst 0), (12, .putfield 48), (15, .aload_n 0), (16, .iconst 0), (17, .putfield 51), (20, .aload_n 0), (21, .aload_n 1), (22, .invokevirtual 54), (25, .ifCond .ne 5), (28, .iconst 0), (29, .ireturn), (30, .aload_n 0), (31, .getfield 40), (34, .ifCond .eq 20), (37, .aload_n 0), (38, .invokevirtual 58), (41, .ifCond .ne 5), (44, .iconst 0), (45, .ireturn), (46, .aload_n 0), (47, .aload_n 2), (48, .invokevirtual 62), (51, .goto 17), (54, .aload_n 0), (55, .invokevirtual 66), (58, .ifCond .ne 5), (61, .iconst 0), (62, .ireturn), (63, .aload_n 0), (64, .aload_n 2), (65, .invokevirtual 69), (68, .aload_n 3), (69, .aload_n 2), (70, .invokevirtual 72), (73, .aload_n 3), (74, .aload_n 2), (75, .invokevirtual 77), (78, .ifCond .ne 16), (81, .aload_n 0), (82, .bipush 6), (84, .aload_n 1), (85, .getfield 81), (88, .invokevirtual 86), (91, .ifCond .eq 7), (94, .iconst 1), (95, .goto 4), (98, .iconst 0), (99, .ireturn)]
def km_q41 : km_Q := (yX4_reads, cX4_reads, 4, (some .boolean), 4, 4, false, km_c41)
def km_c42 : List (Nat × Jvm.ClassFile.Instr) := [(0, .aload_n 0), (1, .iload_n 1), (2, .putfield 90), (5, .aload_n 0), (6, .iload_n 2), (7, .putfield 93), (10, .iconst 0), (11, .ireturn)]
def km_q42 : km_Q := (yX4_fails, cX4_fails, 3, (some .boolean), 4, 3, false, km_c42)
def km_c43 : List (Nat × Jvm.ClassFile.Instr) := [(0, .iconst 0), (1, .istore_n 2), (2, .aload_n 1), (3, .invokevirtual 96), (6, .iconst 0), (7, .istore_n 3), (8, .iload_n 3), (9, .sipush 400), (12, .if_icmp .gt 120), (15, .aload_n 1), (16, .invokevirtual 99), (19, .aload_n 1), (20, .getfield 102), (23, .ifCond .ne 48), (26, .iload_n 2), (27, .ifCond .eq 14), (30, .iload_n 2), (31, .iconst 4), (32, .if_icmp .eq 9), (35, .iload_n 2), (36, .bipush 8), (38, .if_icmp .ne 7), (41, .iconst 1), (42, .goto 4), (45, .iconst 0), (46, .istore 4), (48, .iload 4), (50, .ifCond .ne 15), (53, .aload_n 0), (54, .iconst 1), (55, .aload_n 1), (56, .getfield 81), (59, .invokevirtual 86), (62, .ifCond .eq 7), (65, .iconst 1), (66, .goto 4), (69, .iconst 0), (70, .ireturn), (71, .iload_n 2), (72, .aload_n 1), (73, .getfield 102), (76, .invokestatic 105), (79, .istore 4), (81, .iload 4), (83, .iconst (-1)), (84, .if_icmp .ne 13), (87, .aload_n 0), (88, .iconst 1), (89, .aload_n 1), (90, .getfield 109), (93, .invokevirtual 86), (96, .ireturn), (97, .iload_n 3), (98, .sipush 400), (101, .if_icmp .eq 12), (104, .aload_n 0), (105, .iload_n 2), (106, .aload_n 1), (107, .invokevirtual 112), (110, .ifCond .ne 13), (113, .aload_n 0), (114, .iconst 2), (115, .aload_n 1), (116, .getfield 109), (119, .invokevirtual 86), (122, .ireturn), (123, .iload 4), (125, .istore_n 2), (126, .iinc 3 1), (129, .goto (-121)), (132, .iconst 0), (133, .ireturn)]
def km_q43 : km_Q := (yX4_takesTokens, cX4_takesTokens, 5, (some .boolean), 4, 2, false, km_c43)
def km_c44 : List (Nat × Jvm.ClassFile.Instr) := [(0, .iload_n 0), (1, .tableswitch 191 0 7 #[47, 67, 91, 103, 121, 132, 145, 178]), (48, .iload_n 1), (49, .iconst 2), (50, .if_icmp .ne 7), (53, .iconst 1), (54, .goto 13), (57, .iload_n 1), (58, .iconst 3), (59, .if_icmp .ne 7), (62, .iconst 5), (63, .goto 4), (66, .iconst (-1)), (67, .ireturn), (68, .iload_n 1), (69, .bipush 7), (71, .if_icmp .ne 5), (74, .iconst 4), (75, .ireturn), (76, .iload_n 1), (77, .iconst 4), (78, .if_icmp .eq 8), (81, .iload_n 1), (82, .iconst 5), (83, .if_icmp .ne 7), (86, .iconst 2), (87, .goto 4), (90, .iconst (-1)), (91, .ireturn), (92, .iload_n 1), (93, .bipush 6), (95, .if_icmp .ne 7), (98, .iconst 3), (99, .goto 4), (102, .iconst (-1)), (103, .ireturn), (104, .iload_n 1), (105, .bipush 8), (107, .if_icmp .eq 9), (110, .iload_n 1), (111, .bipush 9), (113, .if_icmp .ne 7), (116, .iconst 1), (117, .goto 4), (120, .iconst (-1)), (121, .ireturn), (122, .iload_n 1), (123, .iconst 2), (124, .if_icmp .ne 7), (127, .iconst 1), (128, .goto 4), (131, .iconst (-1)), (132, .ireturn), (133, .iload_n 1), (134, .bipush 6), (136, .if_icmp .ne 8), (139, .bipush 6), (141, .goto 4), (144, .iconst (-1)), (145, .ireturn), (146, .iload_n 1), (147, .bipush 7), (149, .if_icmp .ne 6), (152, .bipush 8), (154, .ireturn), (155, .iload_n 1), (156, .bipush 9), (158, .if_icmp .ne 8), (161, .bipush 7), (163, .goto 15), (166, .iload_n 1), (167, .bipush 6), (169, .if_icmp .ne 8), (172, .bipush 6), (174, .goto 4), (177, .iconst (-1)), (178, .ireturn), (179, .iload_n 1), (180, .bipush 6), (182, .if_icmp .ne 8), (185, .bipush 6), (187, .goto 4), (190, .iconst (-1)), (191, .ireturn), (192, .iconst (-1)), (193, .ireturn)]
def km_q44 : km_Q := (yX4_stateBehind, cX4_stateBehind, 2, (some .int), 4, 2, true, km_c44)
def km_c45 : List (Nat × Jvm.ClassFile.Instr) := [(0, .aload_n 2), (1, .getfield 102), (4, .tableswitch 121 2 9 #[48, 53, 60, 60, 114, 121, 79, 85]), (52, .aload_n 0), (53, .invokevirtual 116), (56, .ireturn), (57, .aload_n 0), (58, .iconst 1), (59, .putfield 40), (62, .iconst 1), (63, .ireturn), (64, .aload_n 0), (65, .aload_n 2), (66, .getfield 102), (69, .iconst 4), (70, .if_icmp .ne 7), (73, .iconst 1), (74, .goto 4), (77, .iconst 0), (78, .putfield 119), (81, .iconst 1), (82, .ireturn), (83, .aload_n 0), (84, .iconst 1), (85, .invokevirtual 122), (88, .ireturn), (89, .iload_n 1), (90, .bipush 6), (92, .if_icmp .ne 20), (95, .aload_n 0), (96, .getfield 51), (99, .bipush 8), (101, .if_icmp .ge 7), (104, .iconst 1), (105, .goto 12), (108, .iconst 0), (109, .goto 8), (112, .aload_n 0), (113, .iconst 0), (114, .invokevirtual 122), (117, .ireturn), (118, .aload_n 0), (119, .iload_n 1), (120, .aload_n 2), (121, .invokevirtual 126), (124, .ireturn), (125, .iconst 1), (126, .ireturn)]
def km_q45 : km_Q := (yX4_takes, cX4_takes, 3, (some .boolean), 4, 3, false, km_c45)
def km_c46 : List (Nat × Jvm.ClassFile.Instr) := [(0, .aload_n 0), (1, .getfield 44), (4, .iconst 4), (5, .if_icmp .lt 5), (8, .iconst 0), (9, .ireturn), (10, .aload_n 0), (11, .getfield 9), (14, .aload_n 0), (15, .getfield 44), (18, .aload_n 0), (19, .getfield 51), (22, .iastore), (23, .aload_n 0), (24, .dup), (25, .getfield 44), (28, .iconst 1), (29, .iadd), (30, .putfield 44), (33, .iconst 1), (34, .ireturn)]
def km_q46 : km_Q := (yX4_takesRing, cX4_takesRing, 1, (some .boolean), 4, 1, false, km_c46)
def km_c47 : List (Nat × Jvm.ClassFile.Instr) := [(0, .aload_n 0), (1, .getfield 51), (4, .sipush 134), (7, .if_icmp .lt 5), (10, .iconst 0), (11, .ireturn), (12, .aload_n 0), (13, .getfield 28), (16, .aload_n 0), (17, .getfield 51), (20, .iload_n 1), (21, .bastore), (22, .aload_n 0), (23, .dup), (24, .getfield 51), (27, .iconst 1), (28, .iadd), (29, .putfield 51), (32, .iconst 1), (33, .ireturn)]
def km_q47 : km_Q := (yX4_takesSign, cX4_takesSign, 2, (some .boolean), 4, 2, false, km_c47)
def km_c48 : List (Nat × Jvm.ClassFile.Instr) := [(0, .iload_n 1), (1, .iconst 5), (2, .if_icmp .ne 21), (5, .aload_n 0), (6, .aload_n 2), (7, .getfield 129), (10, .putfield 132), (13, .aload_n 0), (14, .aload_n 2), (15, .getfield 109), (18, .putfield 135), (21, .iconst 1), (22, .ireturn), (23, .aload_n 0), (24, .getfield 51), (27, .sipush 134), (30, .if_icmp .lt 5), (33, .iconst 0), (34, .ireturn), (35, .aload_n 0), (36, .getfield 15), (39, .aload_n 0), (40, .getfield 51), (43, .aload_n 2), (44, .getfield 129), (47, .iastore), (48, .aload_n 0), (49, .getfield 18), (52, .aload_n 0), (53, .getfield 51), (56, .aload_n 2), (57, .getfield 109), (60, .iastore), (61, .iload_n 1), (62, .iconst 2), (63, .if_icmp .ne 21), (66, .aload_n 0), (67, .getfield 24), (70, .aload_n 0), (71, .getfield 51), (74, .aload_n 0), (75, .getfield 119), (78, .bastore), (79, .aload_n 0), (80, .invokevirtual 138), (83, .ireturn), (84, .aload_n 0), (85, .getfield 51), (88, .bipush 8), (90, .if_icmp .ge 25), (93, .aload_n 0), (94, .iload_n 1), (95, .bipush 6), (97, .if_icmp .ne 7), (100, .iconst 1), (101, .goto 4), (104, .iconst 0), (105, .invokevirtual 122), (108, .ifCond .eq 7), (111, .iconst 1), (112, .goto 4), (115, .iconst 0), (116, .ireturn)]
def km_q48 : km_Q := (yX4_takesInt, cX4_takesInt, 3, (some .boolean), 4, 3, false, km_c48)
def km_c49 : List (Nat × Jvm.ClassFile.Instr) := [(0, .iconst 0), (1, .istore_n 1), (2, .iload_n 1), (3, .aload_n 0), (4, .getfield 48), (7, .if_icmp .ge 30), (10, .aload_n 0), (11, .getfield 31), (14, .iload_n 1), (15, .iaload), (16, .aload_n 0), (17, .getfield 15), (20, .aload_n 0), (21, .getfield 51), (24, .iaload), (25, .if_icmp .ne 6), (28, .goto 9), (31, .iinc 1 1), (34, .goto (-32)), (37, .iload_n 1), (38, .bipush 8), (40, .if_icmp .lt 5), (43, .iconst 0), (44, .ireturn), (45, .aload_n 0), (46, .getfield 31), (49, .iload_n 1), (50, .aload_n 0), (51, .getfield 15), (54, .aload_n 0), (55, .getfield 51), (58, .iaload), (59, .iastore), (60, .aload_n 0), (61, .aload_n 0), (62, .getfield 48), (65, .iload_n 1), (66, .iconst 1), (67, .iadd), (68, .invokestatic 141), (71, .putfield 48), (74, .aload_n 0), (75, .getfield 21), (78, .aload_n 0), (79, .getfield 51), (82, .iload_n 1), (83, .iastore), (84, .iconst 1), (85, .ireturn)]
def km_q49 : km_Q := (yX4_takesNumber, cX4_takesNumber, 2, (some .boolean), 4, 1, false, km_c49)
def km_c50 : List (Nat × Jvm.ClassFile.Instr) := [(0, .iconst 0), (1, .istore_n 1), (2, .iload_n 1), (3, .aload_n 0), (4, .getfield 48), (7, .if_icmp .ge 16), (10, .aload_n 0), (11, .getfield 34), (14, .iload_n 1), (15, .iconst 0), (16, .iastore), (17, .iinc 1 1), (20, .goto (-18)), (23, .iconst 0), (24, .istore_n 1), (25, .iload_n 1), (26, .aload_n 0), (27, .getfield 51), (30, .if_icmp .ge 97), (33, .aload_n 0), (34, .getfield 21), (37, .iload_n 1), (38, .iaload), (39, .istore_n 2), (40, .aload_n 0), (41, .getfield 15), (44, .iload_n 1), (45, .iaload), (46, .bipush 99), (48, .if_icmp .le 15), (51, .aload_n 0), (52, .iconst 5), (53, .aload_n 0), (54, .getfield 18), (57, .iload_n 1), (58, .iaload), (59, .invokevirtual 86), (62, .ireturn), (63, .aload_n 0), (64, .getfield 34), (67, .iload_n 2), (68, .iaload), (69, .ifCond .le 35), (72, .aload_n 0), (73, .aload_n 0), (74, .getfield 37), (77, .iload_n 2), (78, .iaload), (79, .iload_n 1), (80, .aload_n 0), (81, .getfield 34), (84, .iload_n 2), (85, .iaload), (86, .invokevirtual 146), (89, .ifCond .ne 15), (92, .aload_n 0), (93, .iconst 3), (94, .aload_n 0), (95, .getfield 18), (98, .iload_n 1), (99, .iaload), (100, .invokevirtual 86), (103, .ireturn), (104, .aload_n 0), (105, .getfield 37), (108, .iload_n 2), (109, .iload_n 1), (110, .iastore), (111, .aload_n 0), (112, .getfield 34), (115, .iload_n 2), (116, .dup2), (117, .iaload), (118, .iconst 1), (119, .iadd), (120, .iastore), (121, .iinc 1 1), (124, .goto (-99)), (127, .iconst 0), (128, .istore_n 1), (129, .iload_n 1), (130, .aload_n 0), (131, .getfield 51), (134, .if_icmp .ge 36), (137, .aload_n 0), (138, .getfield 34), (141, .aload_n 0), (142, .getfield 21), (145, .iload_n 1), (146, .iaload), (147, .iaload), (148, .iconst 1), (149, .if_icmp .ne 15), (152, .aload_n 0), (153, .iconst 4), (154, .aload_n 0), (155, .getfield 18), (158, .iload_n 1), (159, .iaload), (160, .invokevirtual 86), (163, .ireturn), (164, .iinc 1 1), (167, .goto (-38)), (170, .iconst 1), (171, .ireturn)]
def km_q50 : km_Q := (yX4_ringsStand, cX4_ringsStand, 3, (some .boolean), 4, 1, false, km_c50)
def km_c51 : List (Nat × Jvm.ClassFile.Instr) := [(0, .iload_n 3), (1, .iconst 1), (2, .if_icmp .ne 37), (5, .aload_n 0), (6, .getfield 24), (9, .iload_n 1), (10, .baload), (11, .aload_n 0), (12, .getfield 24), (15, .iload_n 2), (16, .baload), (17, .if_icmp .eq 22), (20, .aload_n 0), (21, .getfield 28), (24, .iload_n 1), (25, .baload), (26, .aload_n 0), (27, .getfield 28), (30, .iload_n 2), (31, .baload), (32, .if_icmp .ne 7), (35, .iconst 1), (36, .goto 4), (39, .iconst 0), (40, .ireturn)]
def km_q51 : km_Q := (yX4_isPartner, cX4_isPartner, 4, (some .boolean), 4, 4, false, km_c51)
def km_c52 : List (Nat × Jvm.ClassFile.Instr) := [(0, .aload_n 1), (1, .aload_n 0), (2, .getfield 44), (5, .putfield 150), (8, .aload_n 1), (9, .aload_n 0), (10, .getfield 48), (13, .putfield 153), (16, .aload_n 0), (17, .getfield 9), (20, .aload_n 0), (21, .getfield 44), (24, .aload_n 0), (25, .getfield 51), (28, .iastore), (29, .iconst 0), (30, .istore_n 2), (31, .iload_n 2), (32, .aload_n 0), (33, .getfield 44), (36, .if_icmp .gt 21), (39, .aload_n 1), (40, .getfield 156), (43, .iload_n 2), (44, .aload_n 0), (45, .getfield 9), (48, .iload_n 2), (49, .iaload), (50, .iastore), (51, .iinc 2 1), (54, .goto (-23)), (57, .iconst 0), (58, .istore_n 2), (59, .iload_n 2), (60, .aload_n 0), (61, .getfield 51), (64, .if_icmp .ge 69), (67, .iload_n 2), (68, .bipush 16), (70, .if_icmp .ge 63), (73, .aload_n 1), (74, .getfield 157), (77, .iload_n 2), (78, .iconst 2), (79, .aload_n 0), (80, .getfield 21), (83, .iload_n 2), (84, .iaload), (85, .imul), (86, .aload_n 0), (87, .getfield 24), (90, .iload_n 2), (91, .baload), (92, .ifCond .eq 7), (95, .iconst 1), (96, .goto 4), (99, .iconst 0), (100, .iadd), (101, .iastore), (102, .aload_n 1), (103, .getfield 160), (106, .aload_n 0), (107, .getfield 21), (110, .iload_n 2), (111, .iaload), (112, .aload_n 0), (113, .getfield 28), (116, .iload_n 2), (117, .baload), (118, .ifCond .eq 7), (121, .iconst 1), (122, .goto 4), (125, .iconst (-1)), (126, .iastore), (127, .iinc 2 1), (130, .goto (-71)), (133, .return_)]
def km_q52 : km_Q := (yX4_string, cX4_string, 3, none, 4, 2, false, km_c52)
def km_c53 : List (Nat × Jvm.ClassFile.Instr) := [(0, .aload_n 0), (1, .getfield 132), (4, .iconst 2), (5, .if_icmp .lt 11), (8, .aload_n 0), (9, .getfield 132), (12, .iconst 4), (13, .if_icmp .le 13), (16, .aload_n 0), (17, .iconst 5), (18, .aload_n 0), (19, .getfield 135), (22, .invokevirtual 86), (25, .ireturn), (26, .iconst 0), (27, .istore_n 1), (28, .iload_n 1), (29, .aload_n 0), (30, .getfield 51), (33, .if_icmp .ge 44), (36, .aload_n 0), (37, .getfield 15), (40, .iload_n 1), (41, .iaload), (42, .iconst 1), (43, .if_icmp .lt 16), (46, .aload_n 0), (47, .getfield 15), (50, .iload_n 1), (51, .iaload), (52, .aload_n 0), (53, .getfield 132), (56, .if_icmp .lt 15), (59, .aload_n 0), (60, .iconst 5), (61, .aload_n 0), (62, .getfield 18), (65, .iload_n 1), (66, .iaload), (67, .invokevirtual 86), (70, .ireturn), (71, .iinc 1 1), (74, .goto (-46)), (77, .iconst 1), (78, .ireturn)]
def km_q53 : km_Q := (yX4_braidStands, cX4_braidStands, 2, (some .boolean), 4, 1, false, km_c53)
def km_c54 : List (Nat × Jvm.ClassFile.Instr) := [(0, .aload_n 1), (1, .iconst 0), (2, .putfield 150), (5, .aload_n 1), (6, .aload_n 0), (7, .getfield 51), (10, .putfield 153), (13, .iconst 0), (14, .istore_n 2), (15, .iload_n 2), (16, .aload_n 0), (17, .getfield 51), (20, .if_icmp .ge 29), (23, .aload_n 1), (24, .getfield 160), (27, .iload_n 2), (28, .aload_n 0), (29, .getfield 28), (32, .iload_n 2), (33, .baload), (34, .ifCond .eq 7), (37, .iconst 1), (38, .goto 4), (41, .iconst (-1)), (42, .iastore), (43, .iinc 2 1), (46, .goto (-31)), (49, .iconst 0), (50, .istore_n 2), (51, .iconst 0), (52, .istore_n 3), (53, .iconst 1), (54, .istore 4), (56, .iload 4), (58, .aload_n 0), (59, .getfield 132), (62, .if_icmp .gt 160), (65, .iload_n 2), (66, .iload 4), (68, .ishr), (69, .iconst 1), (70, .iand), (71, .iconst 1), (72, .if_icmp .ne 6), (75, .goto 141), (78, .aload_n 1), (79, .getfield 156), (82, .aload_n 1), (83, .getfield 150), (86, .iload_n 3), (87, .iastore), (88, .aload_n 1), (89, .dup), (90, .getfield 150), (93, .iconst 1), (94, .iadd), (95, .putfield 150), (98, .iload 4), (100, .istore 5), (102, .iconst 0), (103, .istore 6), (105, .iload 6), (107, .aload_n 0), (108, .getfield 132), (111, .if_icmp .ge 105), (114, .iload_n 2), (115, .iload 5), (117, .ishr), (118, .iconst 1), (119, .iand), (120, .ifCond .ne 96), (123, .iload_n 2), (124, .iconst 1), (125, .iload 5), (127, .ishl), (128, .ior), (129, .istore_n 2), (130, .iconst 0), (131, .istore 7), (133, .iload 7), (135, .aload_n 0), (136, .getfield 51), (139, .if_icmp .ge 71), (142, .aload_n 0), (143, .iload 7), (145, .iload 5), (147, .invokevirtual 163), (150, .istore 8), (152, .iload 8), (154, .iload 5), (156, .if_icmp .eq 44), (159, .aload_n 1), (160, .getfield 157), (163, .iload_n 3), (164, .iconst 2), (165, .iload 7), (167, .imul), (168, .aload_n 0), (169, .getfield 28), (172, .iload 7), (174, .baload), (175, .iload 8), (177, .iload 5), (179, .if_icmp .le 7), (182, .iconst 1), (183, .goto 4), (186, .iconst 0), (187, .if_icmp .ne 7), (190, .iconst 1), (191, .goto 4), (194, .iconst 0), (195, .iadd), (196, .iastore), (197, .iinc 3 1), (200, .iload 8), (202, .istore 5), (204, .iinc 7 1), (207, .goto (-74)), (210, .iinc 6 1), (213, .goto (-108)), (216, .iinc 4 1), (219, .goto (-163)), (222, .aload_n 1), (223, .getfield 156), (226, .aload_n 1), (227, .getfield 150), (230, .iload_n 3), (231, .iastore), (232, .return_)]
def km_q54 : km_Q := (yX4_weave, cX4_weave, 9, none, 4, 2, false, km_c54)
def km_c55 : List (Nat × Jvm.ClassFile.Instr) := [(0, .iload_n 2), (1, .aload_n 0), (2, .getfield 15), (5, .iload_n 1), (6, .iaload), (7, .if_icmp .ne 7), (10, .iload_n 2), (11, .iconst 1), (12, .iadd), (13, .ireturn), (14, .iload_n 2), (15, .aload_n 0), (16, .getfield 15), (19, .iload_n 1), (20, .iaload), (21, .iconst 1), (22, .iadd), (23, .if_icmp .ne 9), (26, .iload_n 2), (27, .iconst 1), (28, .isub), (29, .goto 4), (32, .iload_n 2), (33, .ireturn)]
def km_q55 : km_Q := (yX4_placeBehind, cX4_placeBehind, 3, (some .int), 4, 3, false, km_c55)
def km_c56 : List (Nat × Jvm.ClassFile.Instr) := [(0, .aload_n 0), (1, .invokespecial 3), (4, .aload_n 0), (5, .iconst 5), (6, .newarray .int), (8, .putfield 9), (11, .aload_n 0), (12, .bipush 16), (14, .newarray .int), (16, .putfield 15), (19, .aload_n 0), (20, .bipush 8), (22, .newarray .int), (24, .putfield 18), (27, .return_)]
def km_q56 : km_Q := (yX5_init, cX5_init, 1, none, 5, 1, false, km_c56)
def km_c57 : List (Nat × Jvm.ClassFile.Instr) := [(0, .aload_n 0), (1, .aload_n 1), (2, .getfield 21), (5, .putfield 21), (8, .aload_n 0), (9, .aload_n 1), (10, .getfield 25), (13, .putfield 25), (16, .aload_n 1), (17, .getfield 9), (20, .iconst 0), (21, .aload_n 0), (22, .getfield 9), (25, .iconst 0), (26, .iconst 5), (27, .invokestatic 28), (30, .aload_n 1), (31, .getfield 15), (34, .iconst 0), (35, .aload_n 0), (36, .getfield 15), (39, .iconst 0), (40, .bipush 16), (42, .invokestatic 28), (45, .aload_n 1), (46, .getfield 18), (49, .iconst 0), (50, .aload_n 0), (51, .getfield 18), (54, .iconst 0), (55, .bipush 8), (57, .invokestatic 28), (60, .return_)]
def km_q57 : km_Q := (yX5_copy, cX5_copy, 2, none, 5, 2, false, km_c57)
def km_c58 : List (Nat × Jvm.ClassFile.Instr) := [(0, .aload_n 0), (1, .getfield 21), (4, .aload_n 1), (5, .getfield 21), (8, .if_icmp .ne 18), (11, .aload_n 0), (12, .getfield 25), (15, .aload_n 1), (16, .getfield 25), (19, .if_icmp .ne 7), (22, .iconst 1), (23, .goto 4), (26, .iconst 0), (27, .istore_n 2), (28, .iconst 0), (29, .istore_n 3), (30, .iload_n 2), (31, .ifCond .eq 38), (34, .iload_n 3), (35, .aload_n 0), (36, .getfield 21), (39, .if_icmp .gt 30), (42, .aload_n 0), (43, .getfield 9), (46, .iload_n 3), (47, .iaload), (48, .aload_n 1), (49, .getfield 9), (52, .iload_n 3), (53, .iaload), (54, .if_icmp .ne 7), (57, .iconst 1), (58, .goto 4), (61, .iconst 0), (62, .istore_n 2), (63, .iinc 3 1), (66, .goto (-36)), (69, .iconst 0), (70, .istore_n 3), (71, .iload_n 2), (72, .ifCond .eq 38), (75, .iload_n 3), (76, .aload_n 0), (77, .invokevirtual 34), (80, .if_icmp .ge 30), (83, .aload_n 0), (84, .getfield 15), (87, .iload_n 3), (88, .iaload), (89, .aload_n 1), (90, .getfield 15), (93, .iload_n 3), (94, .iaload), (95, .if_icmp .ne 7), (98, .iconst 1), (99, .goto 4), (102, .iconst 0), (103, .istore_n 2), (104, .iinc 3 1), (107, .goto (-36)), (110, .iconst 0), (111, .istore_n 3), (112, .iload_n 2), (113, .ifCond .eq 38), (116, .iload_n 3), (117, .aload_n 0), (118, .getfield 25), (121, .if_icmp .ge 30), (124, .aload_n 0), (125, .getfield 18), (128, .iload_n 3), (129, .iaload), (130, .aload_n 1), (131, .getfield 18), (134, .iload_n 3), (135, .iaload), (136, .if_icmp .ne 7), (139, .iconst 1), (140, .goto 4), (143, .iconst 0), (144, .istore_n 2), (145, .iinc 3 1), (148, .goto (-36)), (151, .iload_n 2), (152, .ireturn)]
def km_q58 : km_Q := (yX5_same, cX5_same, 4, (some .boolean), 5, 2, false, km_c58)
def km_c59 : List (Nat × Jvm.ClassFile.Instr) := [(0, .iconst 2), (1, .aload_n 0), (2, .getfield 25), (5, .imul), (6, .ireturn)]
def km_q59 : km_Q := (yX5_edges, cX5_edges, 1, (some .int), 5, 1, false, km_c59)
def km_c60 : List (Nat × Jvm.ClassFile.Instr) := [(0, .iconst 1), (1, .aload_n 0), (2, .getfield 25), (5, .ishl), (6, .iconst 1), (7, .isub), (8, .ireturn)]
def km_q60 : km_Q := (yX5_allCrossings, cX5_allCrossings, 1, (some .int), 5, 1, false, km_c60)
def km_c61 : List (Nat × Jvm.ClassFile.Instr) := [(0, .aload_n 0), (1, .getfield 15), (4, .iload_n 1), (5, .iaload), (6, .iconst 1), (7, .ishr), (8, .ireturn)]
def km_q61 : km_Q := (yX5_crossingOf, cX5_crossingOf, 2, (some .int), 5, 2, false, km_c61)
def km_c62 : List (Nat × Jvm.ClassFile.Instr) := [(0, .aload_n 0), (1, .getfield 15), (4, .iload_n 1), (5, .iaload), (6, .iconst 1), (7, .iand), (8, .iconst 1), (9, .if_icmp .ne 7), (12, .iconst 1), (13, .goto 4), (16, .iconst 0), (17, .ireturn)]
def km_q62 : km_Q := (yX5_isOver, cX5_isOver, 2, (some .boolean), 5, 2, false, km_c62)
def km_c63 : List (Nat × Jvm.ClassFile.Instr) := [(0, .iconst 0), (1, .istore_n 1), (2, .iconst 0), (3, .istore_n 2), (4, .iload_n 2), (5, .aload_n 0), (6, .getfield 25), (9, .if_icmp .ge 18), (12, .iload_n 1), (13, .aload_n 0), (14, .getfield 18), (17, .iload_n 2), (18, .iaload), (19, .iadd), (20, .istore_n 1), (21, .iinc 2 1), (24, .goto (-20)), (27, .iload_n 1), (28, .ireturn)]
def km_q63 : km_Q := (yX5_writhe, cX5_writhe, 3, (some .int), 5, 1, false, km_c63)
def km_c64 : List (Nat × Jvm.ClassFile.Instr) := [(0, .iconst 0), (1, .istore_n 1), (2, .iconst 0), (3, .istore_n 2), (4, .iload_n 2), (5, .aload_n 0), (6, .getfield 21), (9, .if_icmp .ge 34), (12, .iload_n 1), (13, .aload_n 0), (14, .getfield 9), (17, .iload_n 2), (18, .iaload), (19, .aload_n 0), (20, .getfield 9), (23, .iload_n 2), (24, .iconst 1), (25, .iadd), (26, .iaload), (27, .if_icmp .ne 7), (30, .iconst 1), (31, .goto 4), (34, .iconst 0), (35, .iadd), (36, .istore_n 1), (37, .iinc 2 1), (40, .goto (-36)), (43, .iload_n 1), (44, .ireturn)]
def km_q64 : km_Q := (yX5_looseRings, cX5_looseRings, 3, (some .int), 5, 1, false, km_c64)
def km_c65 : List (Nat × Jvm.ClassFile.Instr) := [(0, .iconst 0), (1, .istore_n 1), (2, .iload_n 1), (3, .aload_n 0), (4, .getfield 21), (7, .if_icmp .ge 73), (10, .aload_n 0), (11, .getfield 9), (14, .iload_n 1), (15, .iconst 1), (16, .iadd), (17, .iaload), (18, .iconst 1), (19, .isub), (20, .istore_n 2), (21, .aload_n 0), (22, .getfield 9), (25, .iload_n 1), (26, .iaload), (27, .istore_n 3), (28, .iload_n 3), (29, .iload_n 2), (30, .if_icmp .gt 44), (33, .iload_n 3), (34, .iload_n 2), (35, .if_icmp .ge 9), (38, .iload_n 3), (39, .iconst 1), (40, .iadd), (41, .goto 9), (44, .aload_n 0), (45, .getfield 9), (48, .iload_n 1), (49, .iaload), (50, .istore 4), (52, .aload_n 0), (53, .iload_n 3), (54, .invokevirtual 38), (57, .aload_n 0), (58, .iload 4), (60, .invokevirtual 38), (63, .if_icmp .ne 5), (66, .iconst 0), (67, .ireturn), (68, .iinc 3 1), (71, .goto (-43)), (74, .iinc 1 1), (77, .goto (-75)), (80, .iconst 1), (81, .ireturn)]
def km_q65 : km_Q := (yX5_takesTurns, cX5_takesTurns, 5, (some .boolean), 5, 1, false, km_c65)
def km_c66 : List (Nat × Jvm.ClassFile.Instr) := [(0, .iconst 0), (1, .istore_n 2), (2, .iload_n 2), (3, .aload_n 0), (4, .invokevirtual 34), (7, .if_icmp .ge 27), (10, .aload_n 0), (11, .getfield 15), (14, .iload_n 2), (15, .dup2), (16, .iaload), (17, .iload_n 1), (18, .aload_n 0), (19, .iload_n 2), (20, .invokevirtual 42), (23, .ishr), (24, .iconst 1), (25, .iand), (26, .ixor), (27, .iastore), (28, .iinc 2 1), (31, .goto (-29)), (34, .iconst 0), (35, .istore_n 2), (36, .iload_n 2), (37, .aload_n 0), (38, .getfield 25), (41, .if_icmp .ge 40), (44, .aload_n 0), (45, .getfield 18), (48, .iload_n 2), (49, .iload_n 1), (50, .iload_n 2), (51, .ishr), (52, .iconst 1), (53, .iand), (54, .iconst 1), (55, .if_icmp .ne 13), (58, .aload_n 0), (59, .getfield 18), (62, .iload_n 2), (63, .iaload), (64, .ineg), (65, .goto 9), (68, .aload_n 0), (69, .getfield 18), (72, .iload_n 2), (73, .iaload), (74, .iastore), (75, .iinc 2 1), (78, .goto (-42)), (81, .return_)]
def km_q66 : km_Q := (yX5_turnOver, cX5_turnOver, 3, none, 5, 2, false, km_c66)
def km_c67 : List (Nat × Jvm.ClassFile.Instr) := [(0, .iconst 0), (1, .istore_n 3), (2, .iload_n 3), (3, .aload_n 0), (4, .getfield 25), (7, .if_icmp .ge 82), (10, .aload_n 2), (11, .getfield 46), (14, .aload_n 2), (15, .getfield 51), (18, .iload_n 3), (19, .iaload), (20, .iaload), (21, .iload_n 1), (22, .if_icmp .ne 7), (25, .iconst 1), (26, .goto 4), (29, .iconst 0), (30, .istore 4), (32, .aload_n 2), (33, .getfield 46), (36, .aload_n 2), (37, .getfield 54), (40, .iload_n 3), (41, .iaload), (42, .iaload), (43, .iload_n 1), (44, .if_icmp .ne 7), (47, .iconst 1), (48, .goto 4), (51, .iconst 0), (52, .istore 5), (54, .aload_n 0), (55, .getfield 18), (58, .iload_n 3), (59, .iload 4), (61, .iload 5), (63, .if_icmp .eq 13), (66, .aload_n 0), (67, .getfield 18), (70, .iload_n 3), (71, .iaload), (72, .ineg), (73, .goto 9), (76, .aload_n 0), (77, .getfield 18), (80, .iload_n 3), (81, .iaload), (82, .iastore), (83, .iinc 3 1), (86, .goto (-84)), (89, .aload_n 0), (90, .getfield 9), (93, .iload_n 1), (94, .iaload), (95, .iconst 1), (96, .iadd), (97, .istore_n 3), (98, .aload_n 0), (99, .getfield 9), (102, .iload_n 1), (103, .iconst 1), (104, .iadd), (105, .iaload), (106, .iconst 1), (107, .isub), (108, .istore 4), (110, .iload_n 3), (111, .iload 4), (113, .if_icmp .ge 19), (116, .aload_n 0), (117, .iload_n 3), (118, .iload 4), (120, .invokevirtual 57), (123, .iinc 3 1), (126, .iinc 4 (-1)), (129, .goto (-19)), (132, .return_)]
def km_q67 : km_Q := (yX5_reverse, cX5_reverse, 6, none, 5, 3, false, km_c67)
def km_c68 : List (Nat × Jvm.ClassFile.Instr) := [(0, .aload_n 1), (1, .getfield 61), (4, .iload_n 2), (5, .iaload), (6, .istore_n 3), (7, .iload_n 3), (8, .aload_n 1), (9, .getfield 61), (12, .iload_n 2), (13, .iconst 1), (14, .iadd), (15, .iaload), (16, .if_icmp .ge 32), (19, .aload_n 1), (20, .getfield 64), (23, .iload_n 3), (24, .iaload), (25, .iconst 1), (26, .ishr), (27, .istore 4), (29, .aload_n 0), (30, .iload 4), (32, .aload_n 1), (33, .getfield 67), (36, .iload 4), (38, .iaload), (39, .invokevirtual 57), (42, .iinc 3 1), (45, .goto (-38)), (48, .return_)]
def km_q68 : km_Q := (yX5_exchange, cX5_exchange, 5, none, 5, 3, false, km_c68)
def km_c69 : List (Nat × Jvm.ClassFile.Instr) := [(0, .aload_n 0), (1, .getfield 15), (4, .iload_n 1), (5, .iaload), (6, .istore_n 3), (7, .aload_n 0), (8, .getfield 15), (11, .iload_n 1), (12, .aload_n 0), (13, .getfield 15), (16, .iload_n 2), (17, .iaload), (18, .iastore), (19, .aload_n 0), (20, .getfield 15), (23, .iload_n 2), (24, .iload_n 3), (25, .iastore), (26, .return_)]
def km_q69 : km_Q := (yX5_swap, cX5_swap, 4, none, 5, 3, false, km_c69)
def km_c70 : List (Nat × Jvm.ClassFile.Instr) := [(0, .aload_n 0), (1, .invokevirtual 34), (4, .iconst 1), (5, .isub), (6, .istore 4), (8, .iload 4), (10, .iload_n 1), (11, .if_icmp .le 25), (14, .aload_n 0), (15, .getfield 15), (18, .iload 4), (20, .iconst 2), (21, .iadd), (22, .aload_n 0), (23, .getfield 15), (26, .iload 4), (28, .iaload), (29, .iastore), (30, .iinc 4 (-1)), (33, .goto (-25)), (36, .aload_n 0), (37, .getfield 15), (40, .iload_n 1), (41, .iconst 1), (42, .iadd), (43, .iconst 2), (44, .aload_n 0), (45, .getfield 25), (48, .imul), (49, .iload_n 2), (50, .ifCond .eq 7), (53, .iconst 1), (54, .goto 4), (57, .iconst 0), (58, .iadd), (59, .iastore), (60, .aload_n 0), (61, .getfield 15), (64, .iload_n 1), (65, .iconst 2), (66, .iadd), (67, .iconst 2), (68, .aload_n 0), (69, .getfield 25), (72, .imul), (73, .iload_n 2), (74, .ifCond .eq 7), (77, .iconst 0), (78, .goto 4), (81, .iconst 1), (82, .iadd), (83, .iastore), (84, .iconst 1), (85, .istore 4), (87, .iload 4), (89, .aload_n 0), (90, .getfield 21), (93, .if_icmp .gt 35), (96, .aload_n 0), (97, .getfield 9), (100, .iload 4), (102, .dup2), (103, .iaload), (104, .aload_n 0), (105, .getfield 9), (108, .iload 4), (110, .iaload), (111, .iload_n 1), (112, .if_icmp .le 7), (115, .iconst 2), (116, .goto 4), (119, .iconst 0), (120, .iadd), (121, .iastore), (122, .iinc 4 1), (125, .goto (-38)), (128, .aload_n 0), (129, .getfield 18), (132, .aload_n 0), (133, .getfield 25), (136, .iload_n 3), (137, .ifCond .eq 7), (140, .iconst 1), (141, .goto 4), (144, .iconst (-1)), (145, .iastore), (146, .aload_n 0), (147, .dup), (148, .getfield 25), (151, .iconst 1), (152, .iadd), (153, .putfield 25), (156, .return_)]
def km_q70 : km_Q := (yX5_curl, cX5_curl, 5, none, 5, 4, false, km_c70)
def km_c71 : List (Nat × Jvm.ClassFile.Instr) := [(0, .iconst 0), (1, .istore_n 2), (2, .iconst 0), (3, .istore_n 3), (4, .iconst 0), (5, .istore 4), (7, .iload 4), (9, .aload_n 0), (10, .getfield 21), (13, .if_icmp .ge 80), (16, .aload_n 0), (17, .getfield 9), (20, .iload 4), (22, .iconst 1), (23, .iadd), (24, .iaload), (25, .istore 5), (27, .aload_n 0), (28, .getfield 9), (31, .iload 4), (33, .iload_n 3), (34, .iastore), (35, .iload_n 2), (36, .iload 5), (38, .if_icmp .ge 49), (41, .aload_n 0), (42, .iload_n 2), (43, .invokevirtual 42), (46, .istore 6), (48, .iload_n 1), (49, .iload 6), (51, .ishr), (52, .iconst 1), (53, .iand), (54, .ifCond .ne 27), (57, .aload_n 0), (58, .getfield 15), (61, .iload_n 3), (62, .aload_n 0), (63, .getfield 15), (66, .iload_n 2), (67, .iaload), (68, .iconst 2), (69, .iload_n 1), (70, .iload 6), (72, .invokestatic 70), (75, .imul), (76, .isub), (77, .iastore), (78, .iinc 3 1), (81, .iinc 2 1), (84, .goto (-49)), (87, .iinc 4 1), (90, .goto (-83)), (93, .aload_n 0), (94, .getfield 9), (97, .aload_n 0), (98, .getfield 21), (101, .iload_n 3), (102, .iastore), (103, .iconst 0), (104, .istore 4), (106, .iload 4), (108, .aload_n 0), (109, .getfield 25), (112, .if_icmp .ge 39), (115, .iload_n 1), (116, .iload 4), (118, .ishr), (119, .iconst 1), (120, .iand), (121, .ifCond .ne 24), (124, .aload_n 0), (125, .getfield 18), (128, .iload 4), (130, .iload_n 1), (131, .iload 4), (133, .invokestatic 70), (136, .isub), (137, .aload_n 0), (138, .getfield 18), (141, .iload 4), (143, .iaload), (144, .iastore), (145, .iinc 4 1), (148, .goto (-42)), (151, .aload_n 0), (152, .iload_n 3), (153, .iconst 2), (154, .idiv), (155, .putfield 25), (158, .return_)]
def km_q71 : km_Q := (yX5_drop, cX5_drop, 7, none, 5, 2, false, km_c71)
def km_c72 : List (Nat × Jvm.ClassFile.Instr) := [(0, .iload_n 0), (1, .iconst 1), (2, .iload_n 1), (3, .ishl), (4, .iconst 1), (5, .isub), (6, .iand), (7, .invokestatic 74), (10, .ireturn)]
def km_q72 : km_Q := (yX5_goneAhead, cX5_goneAhead, 2, (some .int), 5, 2, true, km_c72)
def km_c73 : List (Nat × Jvm.ClassFile.Instr) := [(0, .aload_n 0), (1, .getfield 25), (4, .istore_n 2), (5, .iconst 0), (6, .istore_n 3), (7, .iload_n 3), (8, .bipush 8), (10, .if_icmp .ge 46), (13, .aload_n 0), (14, .getfield 25), (17, .ifCond .le 39), (20, .aload_n 1), (21, .aload_n 0), (22, .invokevirtual 79), (25, .aload_n 1), (26, .invokevirtual 83), (29, .istore 4), (31, .iload 4), (33, .iconst (-1)), (34, .if_icmp .ne 6), (37, .goto 19), (40, .aload_n 0), (41, .aload_n 1), (42, .iload 4), (44, .invokevirtual 86), (47, .invokevirtual 89), (50, .iinc 3 1), (53, .goto (-46)), (56, .iload_n 2), (57, .aload_n 0), (58, .getfield 25), (61, .isub), (62, .ireturn)]
def km_q73 : km_Q := (yX5_shed, cX5_shed, 5, (some .int), 5, 2, false, km_c73)
def km_c74 : List (Nat × Jvm.ClassFile.Instr) := [(0, .aload_n 0), (1, .getfield 21), (4, .ifCond .le 43), (7, .aload_n 1), (8, .getfield 21), (11, .ifCond .le 36), (14, .aload_n 0), (15, .getfield 21), (18, .aload_n 1), (19, .getfield 21), (22, .iadd), (23, .iconst 1), (24, .isub), (25, .iconst 4), (26, .if_icmp .gt 21), (29, .aload_n 0), (30, .getfield 25), (33, .aload_n 1), (34, .getfield 25), (37, .iadd), (38, .bipush 8), (40, .if_icmp .gt 7), (43, .iconst 1), (44, .goto 4), (47, .iconst 0), (48, .ireturn)]
def km_q74 : km_Q := (yX5_canTake, cX5_canTake, 2, (some .boolean), 5, 2, false, km_c74)
def km_c75 : List (Nat × Jvm.ClassFile.Instr) := [(0, .aload_n 0), (1, .invokevirtual 34), (4, .istore_n 2), (5, .aload_n 0), (6, .getfield 9), (9, .iconst 1), (10, .iaload), (11, .istore_n 3), (12, .aload_n 1), (13, .getfield 9), (16, .iconst 1), (17, .iaload), (18, .istore 4), (20, .iload_n 2), (21, .iconst 1), (22, .isub), (23, .istore 5), (25, .iload 5), (27, .iload_n 3), (28, .if_icmp .lt 26), (31, .aload_n 0), (32, .getfield 15), (35, .iload 5), (37, .iload 4), (39, .iadd), (40, .aload_n 0), (41, .getfield 15), (44, .iload 5), (46, .iaload), (47, .iastore), (48, .iinc 5 (-1)), (51, .goto (-26)), (54, .iconst 0), (55, .istore 5), (57, .iload 5), (59, .aload_n 1), (60, .invokevirtual 34), (63, .if_icmp .ge 46), (66, .aload_n 0), (67, .getfield 15), (70, .iload 5), (72, .iload 4), (74, .if_icmp .ge 10), (77, .iload_n 3), (78, .iload 5), (80, .iadd), (81, .goto 7), (84, .iload_n 2), (85, .iload 5), (87, .iadd), (88, .aload_n 1), (89, .getfield 15), (92, .iload 5), (94, .iaload), (95, .iconst 2), (96, .aload_n 0), (97, .getfield 25), (100, .imul), (101, .iadd), (102, .iastore), (103, .iinc 5 1), (106, .goto (-49)), (109, .iconst 1), (110, .istore 5), (112, .iload 5), (114, .aload_n 0), (115, .getfield 21), (118, .if_icmp .gt 21), (121, .aload_n 0), (122, .getfield 9), (125, .iload 5), (127, .dup2), (128, .iaload), (129, .iload 4), (131, .iadd), (132, .iastore), (133, .iinc 5 1), (136, .goto (-24)), (139, .iconst 1), (140, .istore 5), (142, .iload 5), (144, .aload_n 1), (145, .getfield 21), (148, .if_icmp .ge 32), (151, .aload_n 0), (152, .getfield 9), (155, .aload_n 0), (156, .getfield 21), (159, .iload 5), (161, .iadd), (162, .iload_n 2), (163, .aload_n 1), (164, .getfield 9), (167, .iload 5), (169, .iconst 1), (170, .iadd), (171, .iaload), (172, .iadd), (173, .iastore), (174, .iinc 5 1), (177, .goto (-35)), (180, .iconst 0), (181, .istore 5), (183, .iload 5), (185, .aload_n 1), (186, .getfield 25), (189, .if_icmp .ge 28), (192, .aload_n 0), (193, .getfield 18), (196, .aload_n 0), (197, .getfield 25), (200, .iload 5), (202, .iadd), (203, .aload_n 1), (204, .getfield 18), (207, .iload 5), (209, .iaload), (210, .iastore), (211, .iinc 5 1), (214, .goto (-31)), (217, .aload_n 0), (218, .dup), (219, .getfield 21), (222, .aload_n 1), (223, .getfield 21), (226, .iconst 1), (227, .isub), (228, .iadd), (229, .putfield 21), (232, .aload_n 0), (233, .dup), (234, .getfield 25), (237, .aload_n 1), (238, .getfield 25), (241, .iadd), (242, .putfield 25), (245, .return_)]
def km_q75 : km_Q := (yX5_take, cX5_take, 6, none, 5, 2, false, km_c75)
def km_c76 : List (Nat × Jvm.ClassFile.Instr) := [(0, .aload_n 0), (1, .invokespecial 3), (4, .aload_n 0), (5, .iconst 4), (6, .anewarray 9), (9, .putfield 11), (12, .aload_n 0), (13, .iconst 4), (14, .anewarray 17), (17, .putfield 19), (20, .iconst 0), (21, .istore_n 1), (22, .iload_n 1), (23, .iconst 3), (24, .if_icmp .gt 35), (27, .aload_n 0), (28, .getfield 11), (31, .iload_n 1), (32, .new 9), (35, .dup), (36, .invokespecial 23), (39, .aastore), (40, .aload_n 0), (41, .getfield 19), (44, .iload_n 1), (45, .new 17), (48, .dup), (49, .invokespecial 24), (52, .aastore), (53, .iinc 1 1), (56, .goto (-34)), (59, .return_)]
def km_q76 : km_Q := (yX6_init, cX6_init, 2, none, 6, 1, false, km_c76)
def km_c77 : List (Nat × Jvm.ClassFile.Instr) := [(0, .aload_n 0), (1, .getfield 11), (4, .iconst 0), (5, .aaload), (6, .aload_n 1), (7, .invokevirtual 25), (10, .aload_n 0), (11, .iconst 0), (12, .iload_n 2), (13, .invokestatic 29), (16, .ireturn)]
def km_q77 : km_Q := (yX6_reachFewer, cX6_reachFewer, 3, (some .boolean), 6, 3, false, km_c77)
def km_c78 : List (Nat × Jvm.ClassFile.Instr) := [(0, .aload_n 0), (1, .getfield 11), (4, .iload_n 1), (5, .aaload), (6, .astore_n 3), (7, .aload_n 0), (8, .getfield 19), (11, .iload_n 1), (12, .aaload), (13, .astore 4), (15, .aload 4), (17, .aload_n 3), (18, .invokevirtual 33), (21, .aload 4), (23, .invokevirtual 36), (26, .iconst (-1)), (27, .if_icmp .eq 5), (30, .iconst 1), (31, .ireturn), (32, .iload_n 1), (33, .iload_n 2), (34, .if_icmp .ge 8), (37, .iload_n 1), (38, .iconst 3), (39, .if_icmp .lt 5), (42, .iconst 0), (43, .ireturn), (44, .iconst 0), (45, .istore 5), (47, .iload 5), (49, .aload 4), (51, .getfield 40), (54, .if_icmp .ge 61), (57, .aload 4), (59, .getfield 44), (62, .iload 5), (64, .iaload), (65, .iconst 3), (66, .if_icmp .ne 43), (69, .aload_n 0), (70, .getfield 11), (73, .iload_n 1), (74, .iconst 1), (75, .iadd), (76, .aaload), (77, .aload_n 3), (78, .invokevirtual 25), (81, .aload_n 0), (82, .getfield 11), (85, .iload_n 1), (86, .iconst 1), (87, .iadd), (88, .aaload), (89, .aload 4), (91, .iload 5), (93, .invokevirtual 48), (96, .aload_n 0), (97, .iload_n 1), (98, .iconst 1), (99, .iadd), (100, .iload_n 2), (101, .invokestatic 29), (104, .ifCond .eq 5), (107, .iconst 1), (108, .ireturn), (109, .iinc 5 1), (112, .goto (-65)), (115, .iconst 0), (116, .ireturn)]
def km_q78 : km_Q := (yX6_finds, cX6_finds, 6, (some .boolean), 6, 3, true, km_c78)
def km_c79 : List (Nat × Jvm.ClassFile.Instr) := [(0, .aload_n 0), (1, .invokespecial 3), (4, .aload_n 0), (5, .sipush 2000), (8, .newarray .byte), (10, .putfield 9), (13, .return_)]
def km_q79 : km_Q := (yX7_init, cX7_init, 1, none, 7, 1, false, km_c79)
def km_c80 : List (Nat × Jvm.ClassFile.Instr) := [(0, .bipush 24), (2, .istore_n 2), (3, .iload_n 2), (4, .ifCond .lt 42), (7, .aload_n 0), (8, .getfield 15), (11, .sipush 2000), (14, .if_icmp .ge 32), (17, .aload_n 0), (18, .getfield 9), (21, .aload_n 0), (22, .getfield 15), (25, .iload_n 1), (26, .iload_n 2), (27, .ishr), (28, .i2b), (29, .bastore), (30, .aload_n 0), (31, .dup), (32, .getfield 15), (35, .iconst 1), (36, .iadd), (37, .putfield 15), (40, .iinc 2 (-8)), (43, .goto (-40)), (46, .return_)]
def km_q80 : km_Q := (yX7_put, cX7_put, 3, none, 7, 2, false, km_c80)
def km_c81 : List (Nat × Jvm.ClassFile.Instr) := [(0, .aload_n 0), (1, .iconst 0), (2, .putfield 19), (5, .return_)]
def km_q81 : km_Q := (yX7_begin, cX7_begin, 1, none, 7, 1, false, km_c81)
def km_c82 : List (Nat × Jvm.ClassFile.Instr) := [(0, .iconst 0), (1, .istore_n 1), (2, .iload_n 1), (3, .sipush 2000), (6, .if_icmp .ge 33), (9, .aload_n 0), (10, .aload_n 0), (11, .getfield 19), (14, .invokevirtual 22), (17, .invokestatic 26), (20, .ifCond .eq 19), (23, .aload_n 0), (24, .dup), (25, .getfield 19), (28, .iconst 1), (29, .iadd), (30, .putfield 19), (33, .iinc 1 1), (36, .goto (-34)), (39, .aload_n 0), (40, .aload_n 0), (41, .getfield 19), (44, .putfield 30), (47, .aload_n 0), (48, .aload_n 0), (49, .getfield 19), (52, .invokevirtual 22), (55, .istore_n 1), (56, .iload_n 1), (57, .iconst (-1)), (58, .if_icmp .ne 11), (61, .aload_n 0), (62, .iconst 0), (63, .putfield 33), (66, .goto 79), (69, .iload_n 1), (70, .invokestatic 36), (73, .ifCond .eq 10), (76, .aload_n 0), (77, .invokevirtual 39), (80, .goto 65), (83, .iload_n 1), (84, .invokestatic 42), (87, .ifCond .eq 10), (90, .aload_n 0), (91, .invokevirtual 45), (94, .goto 51), (97, .aload_n 0), (98, .dup), (99, .getfield 19), (102, .iconst 1), (103, .iadd), (104, .putfield 19), (107, .aload_n 0), (108, .iload_n 1), (109, .bipush 59), (111, .if_icmp .ne 8), (114, .bipush 7), (116, .goto 26), (119, .iload_n 1), (120, .bipush 43), (122, .if_icmp .ne 8), (125, .bipush 8), (127, .goto 15), (130, .iload_n 1), (131, .bipush 45), (133, .if_icmp .ne 8), (136, .bipush 9), (138, .goto 4), (141, .iconst 1), (142, .putfield 33), (145, .return_)]
def km_q82 : km_Q := (yX7_step, cX7_step, 2, none, 7, 1, false, km_c82)
def km_c83 : List (Nat × Jvm.ClassFile.Instr) := [(0, .iconst 0), (1, .istore_n 1), (2, .iload_n 1), (3, .sipush 2000), (6, .if_icmp .ge 33), (9, .aload_n 0), (10, .aload_n 0), (11, .getfield 19), (14, .invokevirtual 22), (17, .invokestatic 36), (20, .ifCond .eq 19), (23, .aload_n 0), (24, .dup), (25, .getfield 19), (28, .iconst 1), (29, .iadd), (30, .putfield 19), (33, .iinc 1 1), (36, .goto (-34)), (39, .aload_n 0), (40, .ldc 48), (42, .invokevirtual 50), (45, .ifCond .eq 11), (48, .aload_n 0), (49, .iconst 2), (50, .putfield 33), (53, .goto 59), (56, .aload_n 0), (57, .ldc 54), (59, .invokevirtual 50), (62, .ifCond .eq 11), (65, .aload_n 0), (66, .iconst 3), (67, .putfield 33), (70, .goto 42), (73, .aload_n 0), (74, .ldc 56), (76, .invokevirtual 50), (79, .ifCond .eq 11), (82, .aload_n 0), (83, .iconst 4), (84, .putfield 33), (87, .goto 25), (90, .aload_n 0), (91, .ldc 58), (93, .invokevirtual 50), (96, .ifCond .eq 11), (99, .aload_n 0), (100, .iconst 5), (101, .putfield 33), (104, .goto 8), (107, .aload_n 0), (108, .iconst 1), (109, .putfield 33), (112, .return_)]
def km_q83 : km_Q := (yX7_stepWord, cX7_stepWord, 2, none, 7, 1, false, km_c83)
def km_c84 : List (Nat × Jvm.ClassFile.Instr) := [(0, .aload_n 0), (1, .getfield 19), (4, .aload_n 0), (5, .getfield 30), (8, .isub), (9, .aload_n 1), (10, .invokevirtual 60), (13, .if_icmp .ne 7), (16, .iconst 1), (17, .goto 4), (20, .iconst 0), (21, .istore_n 2), (22, .iconst 0), (23, .istore_n 3), (24, .iload_n 2), (25, .ifCond .eq 41), (28, .iload_n 3), (29, .aload_n 1), (30, .invokevirtual 60), (33, .if_icmp .ge 33), (36, .aload_n 0), (37, .aload_n 0), (38, .getfield 30), (41, .iload_n 3), (42, .iadd), (43, .invokevirtual 22), (46, .aload_n 1), (47, .iload_n 3), (48, .invokevirtual 65), (51, .if_icmp .ne 7), (54, .iconst 1), (55, .goto 4), (58, .iconst 0), (59, .istore_n 2), (60, .iinc 3 1), (63, .goto (-39)), (66, .iload_n 2), (67, .ireturn)]
def km_q84 : km_Q := (yX7_spells, cX7_spells, 4, (some .boolean), 7, 2, false, km_c84)
def km_c85 : List (Nat × Jvm.ClassFile.Instr) := [(0, .aload_n 0), (1, .iconst 0), (2, .putfield 69), (5, .iconst 0), (6, .istore_n 1), (7, .iload_n 1), (8, .sipush 2000), (11, .if_icmp .ge 56), (14, .aload_n 0), (15, .aload_n 0), (16, .getfield 19), (19, .invokevirtual 22), (22, .invokestatic 42), (25, .ifCond .eq 42), (28, .aload_n 0), (29, .bipush 10), (31, .aload_n 0), (32, .getfield 69), (35, .imul), (36, .aload_n 0), (37, .aload_n 0), (38, .getfield 19), (41, .invokevirtual 22), (44, .iadd), (45, .bipush 48), (47, .isub), (48, .putfield 69), (51, .aload_n 0), (52, .dup), (53, .getfield 19), (56, .iconst 1), (57, .iadd), (58, .putfield 19), (61, .iinc 1 1), (64, .goto (-57)), (67, .aload_n 0), (68, .aload_n 0), (69, .getfield 19), (72, .aload_n 0), (73, .getfield 30), (76, .isub), (77, .iconst 4), (78, .if_icmp .gt 8), (81, .bipush 6), (83, .goto 4), (86, .iconst 1), (87, .putfield 33), (90, .return_)]
def km_q85 : km_Q := (yX7_stepInt, cX7_stepInt, 2, none, 7, 1, false, km_c85)
def km_c86 : List (Nat × Jvm.ClassFile.Instr) := [(0, .iload_n 1), (1, .ifCond .lt 24), (4, .iload_n 1), (5, .aload_n 0), (6, .getfield 15), (9, .if_icmp .ge 16), (12, .aload_n 0), (13, .getfield 9), (16, .iload_n 1), (17, .baload), (18, .sipush 255), (21, .iand), (22, .goto 4), (25, .iconst (-1)), (26, .ireturn)]
def km_q86 : km_Q := (yX7_byteAt, cX7_byteAt, 2, (some .int), 7, 2, false, km_c86)
def km_c87 : List (Nat × Jvm.ClassFile.Instr) := [(0, .iload_n 0), (1, .bipush 9), (3, .if_icmp .eq 21), (6, .iload_n 0), (7, .bipush 10), (9, .if_icmp .eq 15), (12, .iload_n 0), (13, .bipush 13), (15, .if_icmp .eq 9), (18, .iload_n 0), (19, .bipush 32), (21, .if_icmp .ne 7), (24, .iconst 1), (25, .goto 4), (28, .iconst 0), (29, .ireturn)]
def km_q87 : km_Q := (yX7_isBlank, cX7_isBlank, 1, (some .boolean), 7, 1, true, km_c87)
def km_c88 : List (Nat × Jvm.ClassFile.Instr) := [(0, .iload_n 0), (1, .bipush 97), (3, .if_icmp .lt 13), (6, .iload_n 0), (7, .bipush 122), (9, .if_icmp .gt 7), (12, .iconst 1), (13, .goto 4), (16, .iconst 0), (17, .ireturn)]
def km_q88 : km_Q := (yX7_isLetter, cX7_isLetter, 1, (some .boolean), 7, 1, true, km_c88)
def km_c89 : List (Nat × Jvm.ClassFile.Instr) := [(0, .iload_n 0), (1, .bipush 48), (3, .if_icmp .lt 13), (6, .iload_n 0), (7, .bipush 57), (9, .if_icmp .gt 7), (12, .iconst 1), (13, .goto 4), (16, .iconst 0), (17, .ireturn)]
def km_q89 : km_Q := (yX7_isDigit, cX7_isDigit, 1, (some .boolean), 7, 1, true, km_c89)
def km_c90 : List (Nat × Jvm.ClassFile.Instr) := [(0, .aload_n 0), (1, .invokespecial 1), (4, .aload_n 0), (5, .new 7), (8, .dup), (9, .invokespecial 9), (12, .putfield 10), (15, .aload_n 0), (16, .new 16), (19, .dup), (20, .invokespecial 18), (23, .putfield 19), (26, .aload_n 0), (27, .new 23), (30, .dup), (31, .invokespecial 25), (34, .putfield 26), (37, .aload_n 0), (38, .new 30), (41, .dup), (42, .invokespecial 32), (45, .putfield 33), (48, .aload_n 0), (49, .new 37), (52, .dup), (53, .invokespecial 39), (56, .putfield 40), (59, .aload_n 0), (60, .new 44), (63, .dup), (64, .invokespecial 46), (67, .putfield 47), (70, .aload_n 0), (71, .new 44), (74, .dup), (75, .invokespecial 46), (78, .putfield 51), (81, .aload_n 0), (82, .new 54), (85, .dup), (86, .invokespecial 56), (89, .putfield 57), (92, .aload_n 0), (93, .iconst 3), (94, .anewarray 23), (97, .putfield 61), (100, .aload_n 0), (101, .iconst 3), (102, .newarray .boolean), (104, .putfield 65), (107, .aload_n 0), (108, .new 23), (111, .dup), (112, .invokespecial 25), (115, .putfield 69), (118, .aload_n 0), (119, .new 30), (122, .dup), (123, .invokespecial 32), (126, .putfield 72), (129, .aload_n 0), (130, .new 75), (133, .dup), (134, .invokespecial 77), (137, .putfield 78), (140, .aload_n 0), (141, .iconst (-1)), (142, .putfield 82), (145, .iconst 0), (146, .istore_n 1), (147, .iload_n 1), (148, .iconst 3), (149, .if_icmp .ge 22), (152, .aload_n 0), (153, .getfield 61), (156, .iload_n 1), (157, .new 23), (160, .dup), (161, .invokespecial 25), (164, .aastore), (165, .iinc 1 1), (168, .goto (-21)), (171, .return_)]
def km_q90 : km_Q := (yX8_init, cX8_init, 2, none, 8, 1, false, km_c90)
def km_c91 : List (Nat × Jvm.ClassFile.Instr) := [(0, .aload_n 0), (1, .getfield 10), (4, .getfield 86), (7, .bipush 20), (9, .iadd), (10, .sipush 2000), (13, .if_icmp .le 5), (16, .iconst (-1)), (17, .ireturn), (18, .aload_n 0), (19, .getfield 10), (22, .iload_n 1), (23, .invokevirtual 89), (26, .aload_n 0), (27, .getfield 10), (30, .iload_n 2), (31, .invokevirtual 89), (34, .aload_n 0), (35, .getfield 10), (38, .iload_n 3), (39, .invokevirtual 89), (42, .aload_n 0), (43, .getfield 10), (46, .iload 4), (48, .invokevirtual 89), (51, .aload_n 0), (52, .getfield 10), (55, .iload 5), (57, .invokevirtual 89), (60, .aload_n 0), (61, .getfield 10), (64, .getfield 86), (67, .ireturn)]
def km_q91 : km_Q := (yX8_feed, cX8_feed, 6, (some .int), 8, 6, false, km_c91)
def km_c92 : List (Nat × Jvm.ClassFile.Instr) := [(0, .iload_n 1), (1, .ifCond .lt 14), (4, .iload_n 1), (5, .aload_n 0), (6, .getfield 10), (9, .getfield 86), (12, .if_icmp .le 5), (15, .iconst (-1)), (16, .ireturn), (17, .aload_n 0), (18, .getfield 10), (21, .dup), (22, .getfield 86), (25, .iload_n 1), (26, .isub), (27, .putfield 86), (30, .aload_n 0), (31, .getfield 10), (34, .getfield 86), (37, .ireturn)]
def km_q92 : km_Q := (yX8_back, cX8_back, 2, (some .int), 8, 2, false, km_c92)
def km_c93 : List (Nat × Jvm.ClassFile.Instr) := [(0, .aload_n 0), (1, .getfield 19), (4, .aload_n 0), (5, .getfield 10), (8, .aload_n 0), (9, .getfield 69), (12, .aload_n 0), (13, .getfield 72), (16, .invokevirtual 93), (19, .istore_n 1), (20, .aload_n 0), (21, .getfield 10), (24, .iconst 0), (25, .putfield 86), (28, .iload_n 1), (29, .ifCond .ne 22), (32, .aload_n 0), (33, .aload_n 0), (34, .getfield 19), (37, .getfield 97), (40, .putfield 82), (43, .aload_n 0), (44, .getfield 19), (47, .getfield 100), (50, .ireturn), (51, .aload_n 0), (52, .iconst (-1)), (53, .putfield 82), (56, .aload_n 0), (57, .getfield 57), (60, .invokevirtual 103), (63, .iconst 0), (64, .istore_n 2), (65, .iload_n 2), (66, .iconst 3), (67, .if_icmp .ge 16), (70, .aload_n 0), (71, .getfield 65), (74, .iload_n 2), (75, .iconst 0), (76, .bastore), (77, .iinc 2 1), (80, .goto (-15)), (83, .aload_n 0), (84, .getfield 26), (87, .aload_n 0), (88, .getfield 69), (91, .invokevirtual 106), (94, .aload_n 0), (95, .invokevirtual 110), (98, .iconst 0), (99, .ireturn)]
def km_q93 : km_Q := (yX8_read, cX8_read, 3, (some .int), 8, 1, false, km_c93)
def km_c94 : List (Nat × Jvm.ClassFile.Instr) := [(0, .aload_n 0), (1, .getfield 82), (4, .ireturn)]
def km_q94 : km_Q := (yX8_place, cX8_place, 1, (some .int), 8, 1, false, km_c94)
def km_c95 : List (Nat × Jvm.ClassFile.Instr) := [(0, .aload_n 0), (1, .iload_n 1), (2, .invokevirtual 113), (5, .istore_n 2), (6, .iload_n 2), (7, .iconst 1), (8, .if_icmp .eq 10), (11, .iload_n 2), (12, .iconst 2), (13, .if_icmp .eq 5), (16, .iconst (-1)), (17, .ireturn), (18, .aload_n 0), (19, .getfield 57), (22, .aload_n 0), (23, .getfield 26), (26, .invokevirtual 117), (29, .aload_n 0), (30, .getfield 26), (33, .aload_n 0), (34, .getfield 33), (37, .iload_n 1), (38, .invokevirtual 120), (41, .invokevirtual 123), (44, .aload_n 0), (45, .invokevirtual 110), (48, .aload_n 0), (49, .getfield 26), (52, .getfield 126), (55, .ireturn)]
def km_q95 : km_Q := (yX8_out, cX8_out, 3, (some .int), 8, 2, false, km_c95)
def km_c96 : List (Nat × Jvm.ClassFile.Instr) := [(0, .aload_n 0), (1, .iload_n 1), (2, .invokevirtual 113), (5, .iconst 3), (6, .if_icmp .eq 5), (9, .iconst 0), (10, .ireturn), (11, .aload_n 0), (12, .getfield 57), (15, .aload_n 0), (16, .getfield 26), (19, .invokevirtual 117), (22, .aload_n 0), (23, .getfield 26), (26, .aload_n 0), (27, .getfield 33), (30, .iload_n 1), (31, .invokevirtual 129), (34, .aload_n 0), (35, .invokevirtual 110), (38, .iconst 1), (39, .ireturn)]
def km_q96 : km_Q := (yX8_slide, cX8_slide, 2, (some .boolean), 8, 2, false, km_c96)
def km_c97 : List (Nat × Jvm.ClassFile.Instr) := [(0, .aload_n 0), (1, .getfield 26), (4, .getfield 126), (7, .bipush 8), (9, .if_icmp .ge 18), (12, .iload_n 1), (13, .ifCond .lt 14), (16, .iload_n 1), (17, .aload_n 0), (18, .getfield 26), (21, .invokevirtual 133), (24, .if_icmp .lt 5), (27, .iconst 0), (28, .ireturn), (29, .aload_n 0), (30, .getfield 57), (33, .aload_n 0), (34, .getfield 26), (37, .invokevirtual 117), (40, .aload_n 0), (41, .getfield 26), (44, .iload_n 1), (45, .iload_n 2), (46, .iload_n 3), (47, .invokevirtual 137), (50, .aload_n 0), (51, .invokevirtual 110), (54, .iconst 1), (55, .ireturn)]
def km_q97 : km_Q := (yX8_kink, cX8_kink, 4, (some .boolean), 8, 4, false, km_c97)
def km_c98 : List (Nat × Jvm.ClassFile.Instr) := [(0, .aload_n 0), (1, .getfield 69), (4, .aload_n 0), (5, .getfield 26), (8, .invokevirtual 106), (11, .aload_n 0), (12, .getfield 69), (15, .aload_n 0), (16, .getfield 72), (19, .invokevirtual 141), (22, .istore_n 1), (23, .iload_n 1), (24, .ifCond .le 29), (27, .aload_n 0), (28, .getfield 57), (31, .aload_n 0), (32, .getfield 26), (35, .invokevirtual 117), (38, .aload_n 0), (39, .getfield 26), (42, .aload_n 0), (43, .getfield 69), (46, .invokevirtual 106), (49, .aload_n 0), (50, .invokevirtual 110), (53, .iload_n 1), (54, .ireturn)]
def km_q98 : km_Q := (yX8_loosen, cX8_loosen, 2, (some .int), 8, 1, false, km_c98)
def km_c99 : List (Nat × Jvm.ClassFile.Instr) := [(0, .aload_n 0), (1, .getfield 26), (4, .getfield 145), (7, .ifCond .ne 5), (10, .iconst 0), (11, .ireturn), (12, .aload_n 0), (13, .getfield 57), (16, .aload_n 0), (17, .getfield 26), (20, .invokevirtual 117), (23, .aload_n 0), (24, .getfield 26), (27, .aload_n 0), (28, .getfield 26), (31, .invokevirtual 148), (34, .invokevirtual 151), (37, .aload_n 0), (38, .invokevirtual 110), (41, .iconst 1), (42, .ireturn)]
def km_q99 : km_Q := (yX8_mirror, cX8_mirror, 1, (some .boolean), 8, 1, false, km_c99)
def km_c100 : List (Nat × Jvm.ClassFile.Instr) := [(0, .iload_n 1), (1, .ifCond .lt 14), (4, .iload_n 1), (5, .aload_n 0), (6, .getfield 26), (9, .getfield 145), (12, .if_icmp .lt 5), (15, .iconst 0), (16, .ireturn), (17, .aload_n 0), (18, .getfield 57), (21, .aload_n 0), (22, .getfield 26), (25, .invokevirtual 117), (28, .aload_n 0), (29, .getfield 26), (32, .iload_n 1), (33, .aload_n 0), (34, .getfield 33), (37, .invokevirtual 154), (40, .aload_n 0), (41, .invokevirtual 110), (44, .iconst 1), (45, .ireturn)]
def km_q100 : km_Q := (yX8_round, cX8_round, 2, (some .boolean), 8, 2, false, km_c100)
def km_c101 : List (Nat × Jvm.ClassFile.Instr) := [(0, .iload_n 1), (1, .ifCond .lt 14), (4, .iload_n 1), (5, .aload_n 0), (6, .getfield 26), (9, .getfield 126), (12, .if_icmp .lt 5), (15, .iconst 0), (16, .ireturn), (17, .aload_n 0), (18, .getfield 57), (21, .aload_n 0), (22, .getfield 26), (25, .invokevirtual 117), (28, .aload_n 0), (29, .getfield 26), (32, .iconst 1), (33, .iload_n 1), (34, .ishl), (35, .invokevirtual 151), (38, .aload_n 0), (39, .invokevirtual 110), (42, .iconst 1), (43, .ireturn)]
def km_q101 : km_Q := (yX8_switches, cX8_switches, 2, (some .boolean), 8, 2, false, km_c101)
def km_c102 : List (Nat × Jvm.ClassFile.Instr) := [(0, .aload_n 0), (1, .iload_n 1), (2, .invokevirtual 158), (5, .ifCond .eq 19), (8, .aload_n 0), (9, .getfield 26), (12, .aload_n 0), (13, .getfield 61), (16, .iload_n 1), (17, .aaload), (18, .invokevirtual 162), (21, .ifCond .ne 5), (24, .iconst 0), (25, .ireturn), (26, .aload_n 0), (27, .getfield 57), (30, .aload_n 0), (31, .getfield 26), (34, .invokevirtual 117), (37, .aload_n 0), (38, .getfield 26), (41, .aload_n 0), (42, .getfield 61), (45, .iload_n 1), (46, .aaload), (47, .invokevirtual 166), (50, .aload_n 0), (51, .invokevirtual 110), (54, .iconst 1), (55, .ireturn)]
def km_q102 : km_Q := (yX8_sum, cX8_sum, 2, (some .boolean), 8, 2, false, km_c102)
def km_c103 : List (Nat × Jvm.ClassFile.Instr) := [(0, .aload_n 0), (1, .getfield 57), (4, .aload_n 0), (5, .getfield 26), (8, .invokevirtual 169), (11, .ifCond .ne 5), (14, .iconst 0), (15, .ireturn), (16, .aload_n 0), (17, .invokevirtual 110), (20, .iconst 1), (21, .ireturn)]
def km_q103 : km_Q := (yX8_undo, cX8_undo, 1, (some .boolean), 8, 1, false, km_c103)
def km_c104 : List (Nat × Jvm.ClassFile.Instr) := [(0, .iload_n 1), (1, .ifCond .lt 14), (4, .iload_n 1), (5, .aload_n 0), (6, .getfield 26), (9, .getfield 145), (12, .if_icmp .lt 5), (15, .iconst (-1)), (16, .ireturn), (17, .aload_n 0), (18, .getfield 26), (21, .getfield 172), (24, .iload_n 1), (25, .iconst 1), (26, .iadd), (27, .iaload), (28, .aload_n 0), (29, .getfield 26), (32, .getfield 172), (35, .iload_n 1), (36, .iaload), (37, .isub), (38, .istore_n 3), (39, .iload_n 2), (40, .iconst (-1)), (41, .if_icmp .ne 5), (44, .iload_n 3), (45, .ireturn), (46, .iload_n 2), (47, .ifCond .lt 8), (50, .iload_n 2), (51, .iload_n 3), (52, .if_icmp .lt 5), (55, .iconst (-1)), (56, .ireturn), (57, .aload_n 0), (58, .getfield 26), (61, .getfield 172), (64, .iload_n 1), (65, .iaload), (66, .iload_n 2), (67, .iadd), (68, .istore 4), (70, .iconst 2), (71, .aload_n 0), (72, .getfield 26), (75, .getfield 176), (78, .iload 4), (80, .iaload), (81, .imul), (82, .aload_n 0), (83, .getfield 26), (86, .getfield 179), (89, .aload_n 0), (90, .getfield 26), (93, .iload 4), (95, .invokevirtual 182), (98, .iaload), (99, .ifCond .le 7), (102, .iconst 1), (103, .goto 4), (106, .iconst 0), (107, .iadd), (108, .ireturn)]
def km_q104 : km_Q := (yX8_ring, cX8_ring, 5, (some .int), 8, 3, false, km_c104)
def km_c105 : List (Nat × Jvm.ClassFile.Instr) := [(0, .iload_n 1), (1, .ifCond .lt 14), (4, .iload_n 1), (5, .aload_n 0), (6, .getfield 26), (9, .getfield 126), (12, .if_icmp .lt 6), (15, .ldc 185), (17, .ireturn), (18, .iload_n 2), (19, .tableswitch 121 0 7 #[45, 55, 55, 55, 55, 67, 85, 103]), (64, .aload_n 0), (65, .getfield 26), (68, .getfield 179), (71, .iload_n 1), (72, .iaload), (73, .ireturn), (74, .aload_n 0), (75, .getfield 33), (78, .iload_n 1), (79, .iload_n 2), (80, .iconst 1), (81, .isub), (82, .invokevirtual 186), (85, .ireturn), (86, .aload_n 0), (87, .getfield 33), (90, .getfield 190), (93, .aload_n 0), (94, .getfield 33), (97, .getfield 193), (100, .iload_n 1), (101, .iaload), (102, .iaload), (103, .ireturn), (104, .aload_n 0), (105, .getfield 33), (108, .getfield 190), (111, .aload_n 0), (112, .getfield 33), (115, .getfield 196), (118, .iload_n 1), (119, .iaload), (120, .iaload), (121, .ireturn), (122, .aload_n 0), (123, .getfield 40), (126, .getfield 199), (129, .aload_n 0), (130, .getfield 33), (133, .getfield 193), (136, .iload_n 1), (137, .iaload), (138, .iaload), (139, .ireturn), (140, .ldc 185), (142, .ireturn)]
def km_q105 : km_Q := (yX8_crossing, cX8_crossing, 3, (some .int), 8, 3, false, km_c105)
def km_c106 : List (Nat × Jvm.ClassFile.Instr) := [(0, .iload_n 1), (1, .iconst (-1)), (2, .if_icmp .ne 11), (5, .aload_n 0), (6, .getfield 33), (9, .getfield 202), (12, .ireturn), (13, .iload_n 1), (14, .ifCond .lt 18), (17, .iload_n 1), (18, .aload_n 0), (19, .getfield 33), (22, .getfield 202), (25, .if_icmp .ge 7), (28, .iload_n 2), (29, .ifCond .ge 5), (32, .iconst (-1)), (33, .ireturn), (34, .aload_n 0), (35, .getfield 33), (38, .iload_n 1), (39, .invokevirtual 205), (42, .istore_n 3), (43, .iload_n 2), (44, .ifCond .ne 5), (47, .iload_n 3), (48, .ireturn), (49, .iload_n 2), (50, .iconst 1), (51, .if_icmp .ne 13), (54, .aload_n 0), (55, .getfield 33), (58, .getfield 208), (61, .iload_n 1), (62, .iaload), (63, .ireturn), (64, .iload_n 2), (65, .iconst 2), (66, .isub), (67, .iload_n 3), (68, .if_icmp .ge 27), (71, .aload_n 0), (72, .getfield 33), (75, .getfield 211), (78, .aload_n 0), (79, .getfield 33), (82, .getfield 214), (85, .iload_n 1), (86, .iaload), (87, .iload_n 2), (88, .iadd), (89, .iconst 2), (90, .isub), (91, .iaload), (92, .goto 4), (95, .iconst (-1)), (96, .ireturn)]
def km_q106 : km_Q := (yX8_face, cX8_face, 4, (some .int), 8, 3, false, km_c106)
def km_c107 : List (Nat × Jvm.ClassFile.Instr) := [(0, .aload_n 0), (1, .getfield 26), (4, .getfield 145), (7, .ifCond .eq 18), (10, .iload_n 1), (11, .ifCond .lt 14), (14, .iload_n 1), (15, .aload_n 0), (16, .getfield 26), (19, .invokevirtual 148), (22, .if_icmp .le 5), (25, .iconst (-1)), (26, .ireturn), (27, .aload_n 0), (28, .getfield 33), (31, .aload_n 0), (32, .getfield 26), (35, .iload_n 1), (36, .invokevirtual 217), (39, .ireturn)]
def km_q107 : km_Q := (yX8_loops, cX8_loops, 2, (some .int), 8, 2, false, km_c107)
def km_c108 : List (Nat × Jvm.ClassFile.Instr) := [(0, .aload_n 0), (1, .invokevirtual 221), (4, .astore_n 3), (5, .iload_n 2), (6, .ifCond .eq 11), (9, .aload_n 3), (10, .iload_n 1), (11, .invokevirtual 225), (14, .goto 8), (17, .aload_n 3), (18, .iload_n 1), (19, .invokevirtual 228), (22, .ireturn)]
def km_q108 : km_Q := (yX8_coefficient, cX8_coefficient, 4, (some .int), 8, 3, false, km_c108)
def km_c109 : List (Nat × Jvm.ClassFile.Instr) := [(0, .iload_n 1), (1, .ifCond .lt 34), (4, .iload_n 1), (5, .aload_n 0), (6, .getfield 26), (9, .getfield 145), (12, .if_icmp .ge 23), (15, .iload_n 2), (16, .ifCond .lt 19), (19, .iload_n 2), (20, .aload_n 0), (21, .getfield 26), (24, .getfield 145), (27, .if_icmp .ge 8), (30, .iload_n 1), (31, .iload_n 2), (32, .if_icmp .ne 6), (35, .ldc 185), (37, .ireturn), (38, .iconst 0), (39, .istore_n 3), (40, .iconst 0), (41, .istore 4), (43, .iload 4), (45, .aload_n 0), (46, .getfield 26), (49, .getfield 126), (52, .if_icmp .ge 86), (55, .aload_n 0), (56, .getfield 33), (59, .getfield 190), (62, .aload_n 0), (63, .getfield 33), (66, .getfield 193), (69, .iload 4), (71, .iaload), (72, .iaload), (73, .istore 5), (75, .aload_n 0), (76, .getfield 33), (79, .getfield 190), (82, .aload_n 0), (83, .getfield 33), (86, .getfield 196), (89, .iload 4), (91, .iaload), (92, .iaload), (93, .istore 6), (95, .iload 5), (97, .iload_n 1), (98, .if_icmp .ne 9), (101, .iload 6), (103, .iload_n 2), (104, .if_icmp .eq 15), (107, .iload 5), (109, .iload_n 2), (110, .if_icmp .ne 22), (113, .iload 6), (115, .iload_n 1), (116, .if_icmp .ne 16), (119, .iload_n 3), (120, .aload_n 0), (121, .getfield 26), (124, .getfield 179), (127, .iload 4), (129, .iaload), (130, .iadd), (131, .istore_n 3), (132, .iinc 4 1), (135, .goto (-92)), (138, .iload_n 3), (139, .iconst 2), (140, .idiv), (141, .ireturn)]
def km_q109 : km_Q := (yX8_winding, cX8_winding, 7, (some .int), 8, 3, false, km_c109)
def km_c110 : List (Nat × Jvm.ClassFile.Instr) := [(0, .iload_n 1), (1, .iconst 2), (2, .if_icmp .eq 35), (5, .iload_n 1), (6, .iconst 3), (7, .if_icmp .eq 30), (10, .iload_n 1), (11, .iconst 5), (12, .if_icmp .eq 25), (15, .iload_n 1), (16, .bipush 7), (18, .if_icmp .eq 19), (21, .iload_n 1), (22, .bipush 11), (24, .if_icmp .eq 13), (27, .iload_n 1), (28, .bipush 13), (30, .if_icmp .eq 7), (33, .ldc2_w 231), (36, .lreturn), (37, .aload_n 0), (38, .getfield 40), (41, .iload_n 1), (42, .aload_n 0), (43, .getfield 26), (46, .aload_n 0), (47, .getfield 33), (50, .invokevirtual 233), (53, .lreturn)]
def km_q110 : km_Q := (yX8_colourings, cX8_colourings, 2, (some .long), 8, 2, false, km_c110)
def km_c111 : List (Nat × Jvm.ClassFile.Instr) := [(0, .iload_n 1), (1, .ifCond .eq 10), (4, .iload_n 1), (5, .iconst 1), (6, .if_icmp .eq 5), (9, .iconst (-1)), (10, .ireturn), (11, .aload_n 0), (12, .getfield 237), (15, .ifCond .ne 16), (18, .aload_n 0), (19, .aload_n 0), (20, .invokevirtual 241), (23, .putfield 244), (26, .aload_n 0), (27, .iconst 1), (28, .putfield 237), (31, .iload_n 1), (32, .ifCond .ne 20), (35, .aload_n 0), (36, .getfield 244), (39, .ifCond .lt 13), (42, .aload_n 0), (43, .getfield 244), (46, .invokestatic 247), (49, .goto 7), (52, .aload_n 0), (53, .getfield 244), (56, .ireturn)]
def km_q111 : km_Q := (yX8_freed, cX8_freed, 2, (some .int), 8, 2, false, km_c111)
def km_c112 : List (Nat × Jvm.ClassFile.Instr) := [(0, .iload_n 1), (1, .ifCond .lt 8), (4, .iload_n 1), (5, .iconst 3), (6, .if_icmp .le 5), (9, .iconst (-1)), (10, .ireturn), (11, .aload_n 0), (12, .getfield 78), (15, .aload_n 0), (16, .getfield 26), (19, .iload_n 1), (20, .invokevirtual 252), (23, .ifCond .eq 7), (26, .iconst 1), (27, .goto 4), (30, .iconst 0), (31, .ireturn)]
def km_q112 : km_Q := (yX8_looser, cX8_looser, 2, (some .int), 8, 2, false, km_c112)
def km_c113 : List (Nat × Jvm.ClassFile.Instr) := [(0, .aload_n 0), (1, .iload_n 1), (2, .invokevirtual 158), (5, .ifCond .eq 12), (8, .iload_n 2), (9, .ifCond .lt 8), (12, .iload_n 2), (13, .iconst 2), (14, .if_icmp .le 5), (17, .iconst (-1)), (18, .ireturn), (19, .iload_n 2), (20, .iconst 2), (21, .if_icmp .ne 25), (24, .aload_n 0), (25, .getfield 26), (28, .aload_n 0), (29, .getfield 61), (32, .iload_n 1), (33, .aaload), (34, .invokevirtual 256), (37, .ifCond .eq 7), (40, .iconst 1), (41, .goto 4), (44, .iconst 0), (45, .ireturn), (46, .aload_n 0), (47, .getfield 72), (50, .aload_n 0), (51, .getfield 61), (54, .iload_n 1), (55, .aaload), (56, .invokevirtual 259), (59, .aload_n 0), (60, .getfield 51), (63, .aload_n 0), (64, .getfield 61), (67, .iload_n 1), (68, .aaload), (69, .aload_n 0), (70, .getfield 72), (73, .invokevirtual 262), (76, .aload_n 0), (77, .invokevirtual 221), (80, .aload_n 0), (81, .getfield 51), (84, .iload_n 2), (85, .iconst 1), (86, .if_icmp .ne 7), (89, .iconst 1), (90, .goto 4), (93, .iconst 0), (94, .invokevirtual 266), (97, .ifCond .eq 7), (100, .iconst 1), (101, .goto 4), (104, .iconst 0), (105, .ireturn)]
def km_q113 : km_Q := (yX8_alike, cX8_alike, 3, (some .int), 8, 3, false, km_c113)
def km_c114 : List (Nat × Jvm.ClassFile.Instr) := [(0, .iload_n 1), (1, .ifCond .lt 8), (4, .iload_n 1), (5, .iconst 3), (6, .if_icmp .lt 5), (9, .iconst 0), (10, .ireturn), (11, .aload_n 0), (12, .getfield 61), (15, .iload_n 1), (16, .aaload), (17, .aload_n 0), (18, .getfield 26), (21, .invokevirtual 106), (24, .aload_n 0), (25, .getfield 65), (28, .iload_n 1), (29, .iconst 1), (30, .bastore), (31, .iconst 1), (32, .ireturn)]
def km_q114 : km_Q := (yX8_hold, cX8_hold, 2, (some .boolean), 8, 2, false, km_c114)
def km_c115 : List (Nat × Jvm.ClassFile.Instr) := [(0, .aload_n 0), (1, .iload_n 1), (2, .invokevirtual 158), (5, .ifCond .ne 5), (8, .iconst 0), (9, .ireturn), (10, .aload_n 0), (11, .getfield 57), (14, .invokevirtual 103), (17, .aload_n 0), (18, .getfield 26), (21, .aload_n 0), (22, .getfield 61), (25, .iload_n 1), (26, .aaload), (27, .invokevirtual 106), (30, .aload_n 0), (31, .invokevirtual 110), (34, .iconst 1), (35, .ireturn)]
def km_q115 : km_Q := (yX8_restore, cX8_restore, 2, (some .boolean), 8, 2, false, km_c115)
def km_c116 : List (Nat × Jvm.ClassFile.Instr) := [(0, .iload_n 1), (1, .tableswitch 239 0 16 #[83, 91, 99, 107, 115, 127, 135, 143, 159, 167, 175, 184, 193, 202, 218, 226, 234]), (84, .aload_n 0), (85, .getfield 26), (88, .getfield 145), (91, .ireturn), (92, .aload_n 0), (93, .getfield 26), (96, .getfield 126), (99, .ireturn), (100, .aload_n 0), (101, .getfield 26), (104, .invokevirtual 133), (107, .ireturn), (108, .aload_n 0), (109, .getfield 33), (112, .getfield 202), (115, .ireturn), (116, .aload_n 0), (117, .getfield 33), (120, .aload_n 0), (121, .getfield 26), (124, .invokevirtual 270), (127, .ireturn), (128, .aload_n 0), (129, .getfield 26), (132, .invokevirtual 274), (135, .ireturn), (136, .aload_n 0), (137, .getfield 40), (140, .getfield 277), (143, .ireturn), (144, .aload_n 0), (145, .getfield 40), (148, .aload_n 0), (149, .getfield 26), (152, .aload_n 0), (153, .getfield 33), (156, .invokevirtual 279), (159, .ireturn), (160, .aload_n 0), (161, .invokevirtual 221), (164, .invokevirtual 283), (167, .ireturn), (168, .aload_n 0), (169, .getfield 26), (172, .invokevirtual 286), (175, .ireturn), (176, .aload_n 0), (177, .getfield 33), (180, .iconst 1), (181, .invokevirtual 289), (184, .ireturn), (185, .aload_n 0), (186, .getfield 33), (189, .iconst 2), (190, .invokevirtual 289), (193, .ireturn), (194, .aload_n 0), (195, .getfield 33), (198, .iconst 3), (199, .invokevirtual 289), (202, .ireturn), (203, .aload_n 0), (204, .getfield 26), (207, .invokevirtual 292), (210, .ifCond .eq 7), (213, .iconst 1), (214, .goto 4), (217, .iconst 0), (218, .ireturn), (219, .aload_n 0), (220, .getfield 10), (223, .getfield 86), (226, .ireturn), (227, .aload_n 0), (228, .getfield 57), (231, .getfield 296), (234, .ireturn), (235, .aload_n 0), (236, .invokevirtual 299), (239, .ireturn), (240, .ldc 185), (242, .ireturn)]
def km_q116 : km_Q := (yX8_count, cX8_count, 2, (some .int), 8, 2, false, km_c116)
def km_c117 : List (Nat × Jvm.ClassFile.Instr) := [(0, .aload_n 0), (1, .getfield 33), (4, .aload_n 0), (5, .getfield 26), (8, .invokevirtual 259), (11, .aload_n 0), (12, .getfield 40), (15, .aload_n 0), (16, .getfield 26), (19, .invokevirtual 302), (22, .aload_n 0), (23, .iconst 0), (24, .putfield 305), (27, .aload_n 0), (28, .iconst 0), (29, .putfield 237), (32, .return_)]
def km_q117 : km_Q := (yX8_changed, cX8_changed, 1, none, 8, 1, false, km_c117)
def km_c118 : List (Nat × Jvm.ClassFile.Instr) := [(0, .iload_n 1), (1, .ifCond .lt 21), (4, .iload_n 1), (5, .iconst 3), (6, .if_icmp .ge 16), (9, .aload_n 0), (10, .getfield 65), (13, .iload_n 1), (14, .baload), (15, .ifCond .eq 7), (18, .iconst 1), (19, .goto 4), (22, .iconst 0), (23, .ireturn)]
def km_q118 : km_Q := (yX8_holds, cX8_holds, 2, (some .boolean), 8, 2, false, km_c118)
def km_c119 : List (Nat × Jvm.ClassFile.Instr) := [(0, .iconst 0), (1, .istore_n 1), (2, .iconst 0), (3, .istore_n 2), (4, .iload_n 2), (5, .iconst 3), (6, .if_icmp .ge 26), (9, .iload_n 1), (10, .aload_n 0), (11, .getfield 65), (14, .iload_n 2), (15, .baload), (16, .ifCond .eq 7), (19, .iconst 1), (20, .goto 4), (23, .iconst 0), (24, .iadd), (25, .istore_n 1), (26, .iinc 2 1), (29, .goto (-25)), (32, .iload_n 1), (33, .ireturn)]
def km_q119 : km_Q := (yX8_slotsHeld, cX8_slotsHeld, 3, (some .int), 8, 1, false, km_c119)
def km_c120 : List (Nat × Jvm.ClassFile.Instr) := [(0, .iload_n 1), (1, .ifCond .lt 26), (4, .iload_n 1), (5, .aload_n 0), (6, .getfield 33), (9, .getfield 202), (12, .if_icmp .ge 15), (15, .aload_n 0), (16, .getfield 33), (19, .getfield 208), (22, .iload_n 1), (23, .iaload), (24, .goto 4), (27, .iconst 0), (28, .ireturn)]
def km_q120 : km_Q := (yX8_kindOfFace, cX8_kindOfFace, 2, (some .int), 8, 2, false, km_c120)
def km_c121 : List (Nat × Jvm.ClassFile.Instr) := [(0, .aload_n 0), (1, .getfield 305), (4, .ifCond .ne 23), (7, .aload_n 0), (8, .getfield 47), (11, .aload_n 0), (12, .getfield 26), (15, .aload_n 0), (16, .getfield 33), (19, .invokevirtual 262), (22, .aload_n 0), (23, .iconst 1), (24, .putfield 305), (27, .aload_n 0), (28, .getfield 47), (31, .areturn)]
def km_q121 : km_Q := (yX8_ownBracket, cX8_ownBracket, 1, (some (.object "KnotRows$Bracket")), 8, 1, false, km_c121)
def km_c122 : List (Nat × Jvm.ClassFile.Instr) := [(0, .iconst 0), (1, .istore_n 1), (2, .iload_n 1), (3, .aload_n 0), (4, .getfield 26), (7, .getfield 126), (10, .if_icmp .gt 46), (13, .iconst 0), (14, .istore_n 2), (15, .iload_n 2), (16, .aload_n 0), (17, .getfield 26), (20, .invokevirtual 148), (23, .if_icmp .gt 27), (26, .iload_n 2), (27, .invokestatic 247), (30, .iload_n 1), (31, .if_icmp .ne 13), (34, .aload_n 0), (35, .iload_n 2), (36, .invokevirtual 308), (39, .ifCond .eq 5), (42, .iload_n 2), (43, .ireturn), (44, .iinc 2 1), (47, .goto (-32)), (50, .iinc 1 1), (53, .goto (-51)), (56, .bipush (-2)), (58, .ireturn)]
def km_q122 : km_Q := (yX8_fewestSwitches, cX8_fewestSwitches, 3, (some .int), 8, 1, false, km_c122)
def km_c123 : List (Nat × Jvm.ClassFile.Instr) := [(0, .aload_n 0), (1, .getfield 69), (4, .aload_n 0), (5, .getfield 26), (8, .invokevirtual 106), (11, .aload_n 0), (12, .getfield 69), (15, .iload_n 1), (16, .invokevirtual 151), (19, .aload_n 0), (20, .getfield 69), (23, .aload_n 0), (24, .getfield 72), (27, .invokevirtual 141), (30, .pop), (31, .aload_n 0), (32, .getfield 69), (35, .getfield 126), (38, .ifCond .ne 7), (41, .iconst 1), (42, .goto 4), (45, .iconst 0), (46, .ireturn)]
def km_q123 : km_Q := (yX8_comesLoose, cX8_comesLoose, 2, (some .boolean), 8, 2, false, km_c123)
def km_c124 : List (Nat × Jvm.ClassFile.Instr) := [(0, .aload_n 0), (1, .invokespecial 7), (4, .aload_n 0), (5, .sipush 2000), (8, .newarray .byte), (10, .putfield 13), (13, .aload_n 0), (14, .sipush 2000), (17, .newarray .byte), (19, .putfield 17), (22, .aload_n 0), (23, .sipush 403), (26, .newarray .int), (28, .putfield 20), (31, .aload_n 0), (32, .sipush 403), (35, .newarray .int), (37, .putfield 24), (40, .aload_n 0), (41, .sipush 403), (44, .newarray .int), (46, .putfield 27), (49, .aload_n 0), (50, .sipush 403), (53, .newarray .long), (55, .putfield 30), (58, .aload_n 0), (59, .iconst 4), (60, .newarray .long), (62, .putfield 34), (65, .aload_n 0), (66, .iconst (-1)), (67, .putfield 37), (70, .aload_n 0), (71, .bipush 78), (73, .newarray .int), (75, .putfield 40), (78, .aload_n 0), (79, .bipush 78), (81, .newarray .int), (83, .putfield 43), (86, .aload_n 0), (87, .bipush 8), (89, .newarray .int), (91, .putfield 46), (94, .aload_n 0), (95, .bipush 8), (97, .newarray .int), (99, .putfield 49), (102, .aload_n 0), (103, .bipush 8), (105, .newarray .int), (107, .putfield 52), (110, .aload_n 0), (111, .bipush 8), (113, .newarray .int), (115, .putfield 55), (118, .aload_n 0), (119, .bipush 16), (121, .newarray .int), (123, .putfield 58), (126, .aload_n 0), (127, .bipush 16), (129, .newarray .int), (131, .putfield 61), (134, .aload_n 0), (135, .bipush 16), (137, .newarray .int), (139, .putfield 64), (142, .aload_n 0), (143, .bipush 16), (145, .newarray .int), (147, .putfield 67), (150, .aload_n 0), (151, .bipush 32), (153, .newarray .int), (155, .putfield 70), (158, .aload_n 0), (159, .bipush 32), (161, .newarray .boolean), (163, .putfield 73), (166, .aload_n 0), (167, .bipush 32), (169, .newarray .int), (171, .putfield 77), (174, .aload_n 0), (175, .bipush 32), (177, .newarray .int), (179, .putfield 80), (182, .aload_n 0), (183, .bipush 32), (185, .newarray .boolean), (187, .putfield 83), (190, .aload_n 0), (191, .bipush 16), (193, .newarray .int), (195, .putfield 86), (198, .aload_n 0), (199, .sipush 3120), (202, .newarray .int), (204, .putfield 89), (207, .aload_n 0), (208, .sipush 234), (211, .newarray .int), (213, .putfield 92), (216, .aload_n 0), (217, .iconst 3), (218, .newarray .boolean), (220, .putfield 95), (223, .aload_n 0), (224, .bipush 78), (226, .newarray .int), (228, .putfield 98), (231, .aload_n 0), (232, .sipush 201), (235, .newarray .int), (237, .putfield 101), (240, .aload_n 0), (241, .sipush 201), (244, .newarray .int), (246, .putfield 104), (249, .aload_n 0), (250, .sipush 201), (253, .newarray .int), (255, .putfield 107), (258, .aload_n 0), (259, .sipush 201), (262, .newarray .int), (264, .putfield 110), (267, .aload_n 0), (268, .bipush 16), (270, .newarray .int), (272, .putfield 113), (275, .aload_n 0), (276, .bipush 96), (278, .newarray .long), (280, .putfield 116), (283, .aload_n 0), (284, .sipush 312), (287, .newarray .int), (289, .putfield 119), (292, .aload_n 0), (293, .iconst 4), (294, .newarray .int), (296, .putfield 122), (299, .aload_n 0), (300, .getfield 34), (303, .iconst 0), (304, .bipush 114), (306, .bipush 105), (308, .bipush 110), (310, .bipush 103), (312, .iconst 0), (313, .iconst 0), (314, .iconst 0), (315, .invokestatic 125), (318, .lastore), (319, .aload_n 0), (320, .getfield 34), (323, .iconst 1), (324, .bipush 111), (326, .bipush 118), (328, .bipush 101), (330, .bipush 114), (332, .iconst 0), (333, .iconst 0), (334, .iconst 0), (335, .invokestatic 125), (338, .lastore), (339, .aload_n 0), (340, .getfield 34), (343, .iconst 2), (344, .bipush 117), (346, .bipush 110), (348, .bipush 100), (350, .bipush 101), (352, .bipush 114), (354, .iconst 0), (355, .iconst 0), (356, .invokestatic 125), (359, .lastore), (360, .aload_n 0), (361, .getfield 34), (364, .iconst 3), (365, .bipush 98), (367, .bipush 114), (369, .bipush 97), (371, .bipush 105), (373, .bipush 100), (375, .iconst 0), (376, .iconst 0), (377, .invokestatic 125), (380, .lastore), (381, .return_)]
def km_q124 : km_Q := (yX9_init, cX9_init, 1, none, 9, 1, false, km_c124)
def km_c125 : List (Nat × Jvm.ClassFile.Instr) := [(0, .aload_n 0), (1, .getfield 129), (4, .bipush 20), (6, .iadd), (7, .sipush 2000), (10, .if_icmp .le 5), (13, .iconst (-1)), (14, .ireturn), (15, .aload_n 0), (16, .iload_n 1), (17, .invokevirtual 132), (20, .aload_n 0), (21, .iload_n 2), (22, .invokevirtual 132), (25, .aload_n 0), (26, .iload_n 3), (27, .invokevirtual 132), (30, .aload_n 0), (31, .iload 4), (33, .invokevirtual 132), (36, .aload_n 0), (37, .iload 5), (39, .invokevirtual 132), (42, .aload_n 0), (43, .getfield 129), (46, .ireturn)]
def km_q125 : km_Q := (yX9_feed, cX9_feed, 6, (some .int), 9, 6, false, km_c125)
def km_c126 : List (Nat × Jvm.ClassFile.Instr) := [(0, .bipush 24), (2, .istore_n 2), (3, .iload_n 2), (4, .ifCond .lt 32), (7, .aload_n 0), (8, .getfield 13), (11, .aload_n 0), (12, .getfield 129), (15, .iload_n 1), (16, .iload_n 2), (17, .ishr), (18, .i2b), (19, .bastore), (20, .aload_n 0), (21, .dup), (22, .getfield 129), (25, .iconst 1), (26, .iadd), (27, .putfield 129), (30, .iinc 2 (-8)), (33, .goto (-30)), (36, .return_)]
def km_q126 : km_Q := (yX9_lays, cX9_lays, 3, none, 9, 2, false, km_c126)
def km_c127 : List (Nat × Jvm.ClassFile.Instr) := [(0, .iload_n 1), (1, .ifCond .lt 11), (4, .iload_n 1), (5, .aload_n 0), (6, .getfield 129), (9, .if_icmp .le 5), (12, .iconst (-1)), (13, .ireturn), (14, .aload_n 0), (15, .dup), (16, .getfield 129), (19, .iload_n 1), (20, .isub), (21, .putfield 129), (24, .aload_n 0), (25, .getfield 129), (28, .ireturn)]
def km_q127 : km_Q := (yX9_back, cX9_back, 2, (some .int), 9, 2, false, km_c127)
def km_c128 : List (Nat × Jvm.ClassFile.Instr) := [(0, .iload_n 1), (1, .aload_n 0), (2, .getfield 136), (5, .if_icmp .ge 16), (8, .aload_n 0), (9, .getfield 17), (12, .iload_n 1), (13, .baload), (14, .sipush 255), (17, .iand), (18, .goto 4), (21, .iconst 0), (22, .ireturn)]
def km_q128 : km_Q := (yX9_byteAt, cX9_byteAt, 2, (some .int), 9, 2, false, km_c128)
def km_c129 : List (Nat × Jvm.ClassFile.Instr) := [(0, .iload_n 0), (1, .bipush 48), (3, .if_icmp .lt 13), (6, .iload_n 0), (7, .bipush 57), (9, .if_icmp .gt 7), (12, .iconst 1), (13, .goto 4), (16, .iconst 0), (17, .ireturn)]
def km_q129 : km_Q := (yX9_isDigit, cX9_isDigit, 1, (some .boolean), 9, 1, true, km_c129)
def km_c130 : List (Nat × Jvm.ClassFile.Instr) := [(0, .iload_n 0), (1, .bipush 97), (3, .if_icmp .lt 13), (6, .iload_n 0), (7, .bipush 122), (9, .if_icmp .gt 7), (12, .iconst 1), (13, .goto 4), (16, .iconst 0), (17, .ireturn)]
def km_q130 : km_Q := (yX9_isLetter, cX9_isLetter, 1, (some .boolean), 9, 1, true, km_c130)
def km_c131 : List (Nat × Jvm.ClassFile.Instr) := [(0, .iload_n 2), (1, .ifCond .ne 7), (4, .lload_n 0), (5, .goto 16), (8, .ldc2_w 139), (11, .lload_n 0), (12, .lmul), (13, .iload_n 2), (14, .bipush 97), (16, .isub), (17, .iconst 1), (18, .iadd), (19, .i2l), (20, .ladd), (21, .lreturn)]
def km_q131 : km_Q := (yX9_appends, cX9_appends, 3, (some .long), 9, 2, true, km_c131)
def km_c132 : List (Nat × Jvm.ClassFile.Instr) := [(0, .lconst 0), (1, .iload_n 0), (2, .invokestatic 141), (5, .iload_n 1), (6, .invokestatic 141), (9, .iload_n 2), (10, .invokestatic 141), (13, .iload_n 3), (14, .invokestatic 141), (17, .iload 4), (19, .invokestatic 141), (22, .iload 5), (24, .invokestatic 141), (27, .iload 6), (29, .invokestatic 141), (32, .lreturn)]
def km_q132 : km_Q := (yX9_letters, cX9_letters, 7, (some .long), 9, 7, true, km_c132)
def km_c133 : List (Nat × Jvm.ClassFile.Instr) := [(0, .aload_n 0), (1, .getfield 20), (4, .aload_n 0), (5, .getfield 145), (8, .iload_n 1), (9, .iastore), (10, .aload_n 0), (11, .getfield 24), (14, .aload_n 0), (15, .getfield 145), (18, .iload_n 2), (19, .iastore), (20, .aload_n 0), (21, .getfield 27), (24, .aload_n 0), (25, .getfield 145), (28, .iload_n 3), (29, .iastore), (30, .aload_n 0), (31, .getfield 30), (34, .aload_n 0), (35, .getfield 145), (38, .lload 4), (40, .lastore), (41, .aload_n 0), (42, .dup), (43, .getfield 145), (46, .iconst 1), (47, .iadd), (48, .putfield 145), (51, .return_)]
def km_q133 : km_Q := (yX9_token, cX9_token, 6, none, 9, 5, false, km_c133)
def km_c134 : List (Nat × Jvm.ClassFile.Instr) := [(0, .aload_n 0), (1, .iconst 0), (2, .putfield 145), (5, .iconst 0), (6, .istore_n 1), (7, .aload_n 0), (8, .getfield 145), (11, .sipush 400), (14, .if_icmp .gt 272), (17, .aload_n 0), (18, .iload_n 1), (19, .invokevirtual 148), (22, .istore_n 2), (23, .iload_n 1), (24, .aload_n 0), (25, .getfield 136), (28, .if_icmp .lt 15), (31, .aload_n 0), (32, .iconst 0), (33, .aload_n 0), (34, .getfield 136), (37, .iconst 0), (38, .lconst 0), (39, .invokevirtual 152), (42, .return_), (43, .iload_n 2), (44, .bipush 9), (46, .if_icmp .eq 21), (49, .iload_n 2), (50, .bipush 10), (52, .if_icmp .eq 15), (55, .iload_n 2), (56, .bipush 13), (58, .if_icmp .eq 9), (61, .iload_n 2), (62, .bipush 32), (64, .if_icmp .ne 9), (67, .iinc 1 1), (70, .goto 213), (73, .iload_n 2), (74, .invokestatic 156), (77, .ifCond .eq 118), (80, .iconst 0), (81, .istore_n 3), (82, .lconst 0), (83, .lstore 4), (85, .aload_n 0), (86, .iload_n 1), (87, .iload_n 3), (88, .iadd), (89, .invokevirtual 148), (92, .invokestatic 156), (95, .ifCond .eq 29), (98, .iload_n 3), (99, .bipush 8), (101, .if_icmp .ge 17), (104, .lload 4), (106, .aload_n 0), (107, .iload_n 1), (108, .iload_n 3), (109, .iadd), (110, .invokevirtual 148), (113, .invokestatic 141), (116, .lstore 4), (118, .iinc 3 1), (121, .goto (-36)), (124, .iload_n 3), (125, .bipush 8), (127, .if_icmp .le 7), (130, .iconst 3), (131, .goto 4), (134, .iconst 1), (135, .istore 6), (137, .iload_n 3), (138, .bipush 8), (140, .if_icmp .gt 38), (143, .iconst 0), (144, .istore 7), (146, .iload 7), (148, .iconst 4), (149, .if_icmp .ge 29), (152, .aload_n 0), (153, .getfield 34), (156, .iload 7), (158, .laload), (159, .lload 4), (161, .lcmp), (162, .ifCond .ne 10), (165, .bipush 20), (167, .iload 7), (169, .iadd), (170, .istore 6), (172, .iinc 7 1), (175, .goto (-29)), (178, .aload_n 0), (179, .iload 6), (181, .iload_n 1), (182, .iconst 0), (183, .lload 4), (185, .invokevirtual 152), (188, .iload_n 1), (189, .iload_n 3), (190, .iadd), (191, .istore_n 1), (192, .goto 91), (195, .iload_n 2), (196, .invokestatic 160), (199, .ifCond .eq 75), (202, .iconst 0), (203, .istore_n 3), (204, .iconst 0), (205, .istore 4), (207, .aload_n 0), (208, .iload_n 1), (209, .iload_n 3), (210, .iadd), (211, .invokevirtual 148), (214, .invokestatic 160), (217, .ifCond .eq 32), (220, .iload_n 3), (221, .iconst 4), (222, .if_icmp .ge 21), (225, .bipush 10), (227, .iload 4), (229, .imul), (230, .aload_n 0), (231, .iload_n 1), (232, .iload_n 3), (233, .iadd), (234, .invokevirtual 148), (237, .iadd), (238, .bipush 48), (240, .isub), (241, .istore 4), (243, .iinc 3 1), (246, .goto (-39)), (249, .aload_n 0), (250, .iload_n 3), (251, .iconst 4), (252, .if_icmp .le 7), (255, .iconst 3), (256, .goto 4), (259, .iconst 2), (260, .iload_n 1), (261, .iload 4), (263, .lconst 0), (264, .invokevirtual 152), (267, .iload_n 1), (268, .iload_n 3), (269, .iadd), (270, .istore_n 1), (271, .goto 12), (274, .iload_n 1), (275, .aload_n 0), (276, .iload_n 1), (277, .iload_n 2), (278, .invokevirtual 163), (281, .iadd), (282, .istore_n 1), (283, .goto (-276)), (286, .return_)]
def km_q134 : km_Q := (yX9_cutsText, cX9_cutsText, 8, none, 9, 1, false, km_c134)
def km_c135 : List (Nat × Jvm.ClassFile.Instr) := [(0, .aload_n 0), (1, .iload_n 2), (2, .bipush 59), (4, .if_icmp .ne 7), (7, .iconst 4), (8, .goto 25), (11, .iload_n 2), (12, .bipush 43), (14, .if_icmp .ne 7), (17, .iconst 5), (18, .goto 15), (21, .iload_n 2), (22, .bipush 45), (24, .if_icmp .ne 8), (27, .bipush 6), (29, .goto 4), (32, .iconst 3), (33, .iload_n 1), (34, .iconst 0), (35, .lconst 0), (36, .invokevirtual 152), (39, .iconst 1), (40, .ireturn)]
def km_q135 : km_Q := (yX9_sign, cX9_sign, 3, (some .int), 9, 3, false, km_c135)
def km_c136 : List (Nat × Jvm.ClassFile.Instr) := [(0, .aload_n 0), (1, .getfield 167), (4, .ifCond .ne 20), (7, .aload_n 0), (8, .getfield 20), (11, .aload_n 0), (12, .getfield 170), (15, .iaload), (16, .iload_n 1), (17, .if_icmp .ne 7), (20, .iconst 1), (21, .goto 4), (24, .iconst 0), (25, .ireturn)]
def km_q136 : km_Q := (yX9_is, cX9_is, 2, (some .boolean), 9, 2, false, km_c136)
def km_c137 : List (Nat × Jvm.ClassFile.Instr) := [(0, .aload_n 0), (1, .getfield 167), (4, .ifCond .le 4), (7, .return_), (8, .aload_n 0), (9, .iload_n 1), (10, .putfield 167), (13, .aload_n 0), (14, .aload_n 0), (15, .getfield 24), (18, .aload_n 0), (19, .getfield 170), (22, .iaload), (23, .putfield 173), (26, .return_)]
def km_q137 : km_Q := (yX9_fail, cX9_fail, 2, none, 9, 2, false, km_c137)
def km_c138 : List (Nat × Jvm.ClassFile.Instr) := [(0, .aload_n 0), (1, .getfield 24), (4, .iload_n 2), (5, .iaload), (6, .istore_n 3), (7, .aload_n 0), (8, .getfield 167), (11, .ifCond .gt 34), (14, .aload_n 0), (15, .getfield 176), (18, .ifCond .eq 28), (21, .iload_n 3), (22, .aload_n 0), (23, .getfield 179), (26, .if_icmp .gt 19), (29, .iload_n 3), (30, .aload_n 0), (31, .getfield 179), (34, .if_icmp .ne 12), (37, .iload_n 1), (38, .aload_n 0), (39, .getfield 176), (42, .if_icmp .lt 4), (45, .return_), (46, .aload_n 0), (47, .iload_n 1), (48, .putfield 176), (51, .aload_n 0), (52, .iload_n 3), (53, .putfield 179), (56, .return_)]
def km_q138 : km_Q := (yX9_wrong, cX9_wrong, 4, none, 9, 3, false, km_c138)
def km_c139 : List (Nat × Jvm.ClassFile.Instr) := [(0, .aload_n 0), (1, .getfield 170), (4, .sipush 400), (7, .if_icmp .ne 11), (10, .aload_n 0), (11, .iconst 2), (12, .invokevirtual 182), (15, .goto 13), (18, .aload_n 0), (19, .dup), (20, .getfield 170), (23, .iconst 1), (24, .iadd), (25, .putfield 170), (28, .return_)]
def km_q139 : km_Q := (yX9_passes, cX9_passes, 1, none, 9, 1, false, km_c139)
def km_c140 : List (Nat × Jvm.ClassFile.Instr) := [(0, .aload_n 0), (1, .iload_n 1), (2, .invokevirtual 185), (5, .ifCond .eq 10), (8, .aload_n 0), (9, .invokevirtual 188), (12, .goto 8), (15, .aload_n 0), (16, .iconst 1), (17, .invokevirtual 182), (20, .return_)]
def km_q140 : km_Q := (yX9_must, cX9_must, 2, none, 9, 2, false, km_c140)
def km_c141 : List (Nat × Jvm.ClassFile.Instr) := [(0, .aload_n 0), (1, .aload_n 0), (2, .getfield 129), (5, .putfield 136), (8, .iconst 0), (9, .istore_n 1), (10, .iload_n 1), (11, .aload_n 0), (12, .getfield 136), (15, .if_icmp .ge 21), (18, .aload_n 0), (19, .getfield 17), (22, .iload_n 1), (23, .aload_n 0), (24, .getfield 13), (27, .iload_n 1), (28, .baload), (29, .bastore), (30, .iinc 1 1), (33, .goto (-23)), (36, .aload_n 0), (37, .iconst 0), (38, .putfield 129), (41, .aload_n 0), (42, .invokevirtual 191), (45, .aload_n 0), (46, .iconst 0), (47, .putfield 170), (50, .aload_n 0), (51, .iconst 0), (52, .putfield 167), (55, .aload_n 0), (56, .iconst 0), (57, .putfield 176), (60, .aload_n 0), (61, .iconst 0), (62, .putfield 194), (65, .aload_n 0), (66, .iconst 0), (67, .putfield 197), (70, .aload_n 0), (71, .bipush 23), (73, .invokevirtual 185), (76, .ifCond .eq 10), (79, .aload_n 0), (80, .invokevirtual 200), (83, .goto 25), (86, .aload_n 0), (87, .getfield 167), (90, .ifCond .ne 18), (93, .aload_n 0), (94, .iconst 0), (95, .invokevirtual 185), (98, .ifCond .ne 10), (101, .aload_n 0), (102, .invokevirtual 203), (105, .goto (-19)), (108, .iconst 0), (109, .istore_n 1), (110, .iload_n 1), (111, .bipush 78), (113, .if_icmp .ge 16), (116, .aload_n 0), (117, .getfield 43), (120, .iload_n 1), (121, .iconst 0), (122, .iastore), (123, .iinc 1 1), (126, .goto (-16)), (129, .aload_n 0), (130, .getfield 167), (133, .ifCond .ne 7), (136, .aload_n 0), (137, .invokevirtual 206), (140, .aload_n 0), (141, .aload_n 0), (142, .getfield 167), (145, .ifCond .le 10), (148, .aload_n 0), (149, .getfield 173), (152, .goto 18), (155, .aload_n 0), (156, .getfield 176), (159, .ifCond .le 10), (162, .aload_n 0), (163, .getfield 179), (166, .goto 4), (169, .iconst (-1)), (170, .putfield 37), (173, .aload_n 0), (174, .getfield 167), (177, .ifCond .le 8), (180, .aload_n 0), (181, .getfield 167), (184, .ireturn), (185, .aload_n 0), (186, .getfield 176), (189, .ifCond .le 8), (192, .aload_n 0), (193, .getfield 176), (196, .ireturn), (197, .aload_n 0), (198, .getfield 43), (201, .aload_n 0), (202, .getfield 40), (205, .invokestatic 209), (208, .aload_n 0), (209, .iconst 0), (210, .putfield 213), (213, .iconst 0), (214, .istore_n 1), (215, .iload_n 1), (216, .iconst 3), (217, .if_icmp .ge 16), (220, .aload_n 0), (221, .getfield 95), (224, .iload_n 1), (225, .iconst 0), (226, .bastore), (227, .iinc 1 1), (230, .goto (-15)), (233, .iconst 0), (234, .ireturn)]
def km_q141 : km_Q := (yX9_read, cX9_read, 2, (some .int), 9, 1, false, km_c141)
def km_c142 : List (Nat × Jvm.ClassFile.Instr) := [(0, .aload_n 0), (1, .getfield 37), (4, .ireturn)]
def km_q142 : km_Q := (yX9_place, cX9_place, 1, (some .int), 9, 1, false, km_c142)
def km_c143 : List (Nat × Jvm.ClassFile.Instr) := [(0, .aload_n 0), (1, .invokevirtual 188), (4, .aload_n 0), (5, .iconst 2), (6, .invokevirtual 216), (9, .iconst 0), (10, .istore_n 1), (11, .aload_n 0), (12, .iconst 2), (13, .invokevirtual 185), (16, .ifCond .ne 12), (19, .aload_n 0), (20, .bipush 6), (22, .invokevirtual 185), (25, .ifCond .eq 39), (28, .iload_n 1), (29, .bipush 8), (31, .if_icmp .ne 9), (34, .aload_n 0), (35, .iconst 2), (36, .invokevirtual 182), (39, .return_), (40, .aload_n 0), (41, .bipush 6), (43, .invokevirtual 185), (46, .ifCond .eq 7), (49, .aload_n 0), (50, .invokevirtual 188), (53, .aload_n 0), (54, .iconst 2), (55, .invokevirtual 216), (58, .iinc 1 1), (61, .goto (-50)), (64, .aload_n 0), (65, .iconst 4), (66, .invokevirtual 216), (69, .aload_n 0), (70, .getfield 167), (73, .ifCond .ne 16), (76, .aload_n 0), (77, .iconst 0), (78, .invokevirtual 185), (81, .ifCond .ne 8), (84, .aload_n 0), (85, .iconst 1), (86, .invokevirtual 182), (89, .return_)]
def km_q143 : km_Q := (yX9_tellBraid, cX9_tellBraid, 2, none, 9, 1, false, km_c143)
def km_c144 : List (Nat × Jvm.ClassFile.Instr) := [(0, .aload_n 0), (1, .bipush 20), (3, .invokevirtual 185), (6, .ifCond .ne 9), (9, .aload_n 0), (10, .iconst 1), (11, .invokevirtual 182), (14, .return_), (15, .aload_n 0), (16, .getfield 197), (19, .iconst 4), (20, .if_icmp .ne 9), (23, .aload_n 0), (24, .iconst 2), (25, .invokevirtual 182), (28, .return_), (29, .aload_n 0), (30, .dup), (31, .getfield 197), (34, .iconst 1), (35, .iadd), (36, .putfield 197), (39, .aload_n 0), (40, .invokevirtual 188), (43, .aload_n 0), (44, .bipush 21), (46, .invokevirtual 185), (49, .ifCond .ne 12), (52, .aload_n 0), (53, .bipush 22), (55, .invokevirtual 185), (58, .ifCond .eq 65), (61, .aload_n 0), (62, .invokevirtual 188), (65, .aload_n 0), (66, .iconst 2), (67, .invokevirtual 185), (70, .ifCond .eq 16), (73, .aload_n 0), (74, .aload_n 0), (75, .getfield 27), (78, .aload_n 0), (79, .getfield 170), (82, .iaload), (83, .invokevirtual 219), (86, .aload_n 0), (87, .iconst 2), (88, .invokevirtual 216), (91, .aload_n 0), (92, .iconst 5), (93, .invokevirtual 185), (96, .ifCond .ne 12), (99, .aload_n 0), (100, .bipush 6), (102, .invokevirtual 185), (105, .ifCond .eq 10), (108, .aload_n 0), (109, .invokevirtual 188), (112, .goto (-69)), (115, .aload_n 0), (116, .iconst 1), (117, .invokevirtual 182), (120, .goto (-77)), (123, .aload_n 0), (124, .iconst 4), (125, .invokevirtual 216), (128, .return_)]
def km_q144 : km_Q := (yX9_tellRing, cX9_tellRing, 1, none, 9, 1, false, km_c144)
def km_c145 : List (Nat × Jvm.ClassFile.Instr) := [(0, .iconst 0), (1, .istore_n 2), (2, .iload_n 2), (3, .aload_n 0), (4, .getfield 194), (7, .if_icmp .ge 21), (10, .aload_n 0), (11, .getfield 46), (14, .iload_n 2), (15, .iaload), (16, .iload_n 1), (17, .if_icmp .ne 5), (20, .iload_n 2), (21, .ireturn), (22, .iinc 2 1), (25, .goto (-23)), (28, .iconst (-1)), (29, .ireturn)]
def km_q145 : km_Q := (yX9_unlikeAt, cX9_unlikeAt, 3, (some .int), 9, 2, false, km_c145)
def km_c146 : List (Nat × Jvm.ClassFile.Instr) := [(0, .aload_n 0), (1, .iload_n 1), (2, .invokevirtual 222), (5, .ifCond .lt 4), (8, .return_), (9, .aload_n 0), (10, .getfield 194), (13, .bipush 8), (15, .if_icmp .ne 9), (18, .aload_n 0), (19, .iconst 2), (20, .invokevirtual 182), (23, .return_), (24, .aload_n 0), (25, .getfield 46), (28, .aload_n 0), (29, .getfield 194), (32, .iload_n 1), (33, .iastore), (34, .aload_n 0), (35, .dup), (36, .getfield 194), (39, .iconst 1), (40, .iadd), (41, .putfield 194), (44, .return_)]
def km_q146 : km_Q := (yX9_meets, cX9_meets, 2, none, 9, 2, false, km_c146)
def km_c147 : List (Nat × Jvm.ClassFile.Instr) := [(0, .aload_n 0), (1, .getfield 20), (4, .iconst 0), (5, .iaload), (6, .bipush 23), (8, .if_icmp .ne 8), (11, .aload_n 0), (12, .invokevirtual 225), (15, .return_), (16, .aload_n 0), (17, .invokevirtual 228), (20, .aload_n 0), (21, .getfield 176), (24, .ifCond .ne 7), (27, .aload_n 0), (28, .invokevirtual 231), (31, .aload_n 0), (32, .getfield 176), (35, .ifCond .ne 28), (38, .aload_n 0), (39, .aload_n 0), (40, .getfield 43), (43, .invokevirtual 234), (46, .ifCond .ne 17), (49, .aload_n 0), (50, .bipush 6), (52, .putfield 176), (55, .aload_n 0), (56, .aload_n 0), (57, .getfield 136), (60, .putfield 179), (63, .return_)]
def km_q147 : km_Q := (yX9_means, cX9_means, 1, none, 9, 1, false, km_c147)
def km_c148 : List (Nat × Jvm.ClassFile.Instr) := [(0, .aload_n 0), (1, .getfield 43), (4, .iconst 1), (5, .aload_n 0), (6, .getfield 194), (9, .iastore), (10, .iconst 0), (11, .istore_n 1), (12, .iload_n 1), (13, .bipush 8), (15, .if_icmp .ge 16), (18, .aload_n 0), (19, .getfield 49), (22, .iload_n 1), (23, .iconst 0), (24, .iastore), (25, .iinc 1 1), (28, .goto (-16)), (31, .iconst (-1)), (32, .istore_n 1), (33, .iconst 0), (34, .istore_n 2), (35, .iload_n 2), (36, .aload_n 0), (37, .getfield 145), (40, .if_icmp .ge 213), (43, .aload_n 0), (44, .getfield 20), (47, .iload_n 2), (48, .iaload), (49, .bipush 20), (51, .if_icmp .ne 6), (54, .iinc 1 1), (57, .aload_n 0), (58, .getfield 20), (61, .iload_n 2), (62, .iaload), (63, .iconst 2), (64, .if_icmp .eq 6), (67, .goto 180), (70, .aload_n 0), (71, .aload_n 0), (72, .getfield 27), (75, .iload_n 2), (76, .iaload), (77, .invokevirtual 222), (80, .istore_n 3), (81, .aload_n 0), (82, .getfield 20), (85, .iload_n 2), (86, .iconst 1), (87, .isub), (88, .iaload), (89, .bipush 21), (91, .if_icmp .ne 7), (94, .iconst 1), (95, .goto 4), (98, .iconst 0), (99, .istore 4), (101, .aload_n 0), (102, .getfield 20), (105, .iload_n 2), (106, .iconst 1), (107, .iadd), (108, .iaload), (109, .iconst 5), (110, .if_icmp .ne 7), (113, .iconst 1), (114, .goto 4), (117, .iconst (-1)), (118, .istore 5), (120, .aload_n 0), (121, .getfield 27), (124, .iload_n 2), (125, .iaload), (126, .bipush 99), (128, .if_icmp .le 9), (131, .aload_n 0), (132, .iconst 5), (133, .iload_n 2), (134, .invokevirtual 238), (137, .aload_n 0), (138, .getfield 49), (141, .iload_n 3), (142, .iaload), (143, .iconst 1), (144, .if_icmp .gt 38), (147, .aload_n 0), (148, .getfield 49), (151, .iload_n 3), (152, .iaload), (153, .iconst 1), (154, .if_icmp .ne 34), (157, .aload_n 0), (158, .getfield 52), (161, .iload_n 3), (162, .iaload), (163, .iload 4), (165, .if_icmp .eq 17), (168, .aload_n 0), (169, .getfield 43), (172, .bipush 70), (174, .iload_n 3), (175, .iadd), (176, .iaload), (177, .iload 5), (179, .if_icmp .eq 9), (182, .aload_n 0), (183, .iconst 3), (184, .iload_n 2), (185, .invokevirtual 238), (188, .aload_n 0), (189, .getfield 49), (192, .iload_n 3), (193, .iaload), (194, .ifCond .ne 22), (197, .aload_n 0), (198, .getfield 52), (201, .iload_n 3), (202, .iload 4), (204, .iastore), (205, .aload_n 0), (206, .getfield 43), (209, .bipush 70), (211, .iload_n 3), (212, .iadd), (213, .iload 5), (215, .iastore), (216, .aload_n 0), (217, .getfield 49), (220, .iload_n 3), (221, .dup2), (222, .iaload), (223, .iconst 1), (224, .iadd), (225, .iastore), (226, .aload_n 0), (227, .getfield 176), (230, .ifCond .ne 17), (233, .aload_n 0), (234, .getfield 43), (237, .iload_n 1), (238, .iconst 2), (239, .iload_n 3), (240, .imul), (241, .iload 4), (243, .iadd), (244, .invokestatic 242), (247, .iinc 2 1), (250, .goto (-215)), (253, .aload_n 0), (254, .getfield 43), (257, .iconst 0), (258, .iload_n 1), (259, .iconst 1), (260, .iadd), (261, .iastore), (262, .return_)]
def km_q148 : km_Q := (yX9_meansRings, cX9_meansRings, 6, none, 9, 1, false, km_c148)
def km_c149 : List (Nat × Jvm.ClassFile.Instr) := [(0, .aload_n 0), (1, .bipush 6), (3, .bipush 16), (5, .iload_n 1), (6, .imul), (7, .iadd), (8, .aload_n 0), (9, .iconst 2), (10, .iload_n 1), (11, .iadd), (12, .iaload), (13, .iadd), (14, .iload_n 2), (15, .iastore), (16, .aload_n 0), (17, .iconst 2), (18, .iload_n 1), (19, .iadd), (20, .dup2), (21, .iaload), (22, .iconst 1), (23, .iadd), (24, .iastore), (25, .return_)]
def km_q149 : km_Q := (yX9_adds, cX9_adds, 3, none, 9, 3, true, km_c149)
def km_c150 : List (Nat × Jvm.ClassFile.Instr) := [(0, .iconst 0), (1, .istore_n 1), (2, .iload_n 1), (3, .aload_n 0), (4, .getfield 145), (7, .if_icmp .ge 44), (10, .aload_n 0), (11, .getfield 20), (14, .iload_n 1), (15, .iaload), (16, .iconst 2), (17, .if_icmp .ne 28), (20, .aload_n 0), (21, .getfield 49), (24, .aload_n 0), (25, .aload_n 0), (26, .getfield 27), (29, .iload_n 1), (30, .iaload), (31, .invokevirtual 222), (34, .iaload), (35, .iconst 1), (36, .if_icmp .ne 9), (39, .aload_n 0), (40, .iconst 4), (41, .iload_n 1), (42, .invokevirtual 238), (45, .iinc 1 1), (48, .goto (-46)), (51, .return_)]
def km_q150 : km_Q := (yX9_lacks, cX9_lacks, 2, none, 9, 1, false, km_c150)
def km_c151 : List (Nat × Jvm.ClassFile.Instr) := [(0, .aload_n 0), (1, .getfield 27), (4, .iconst 1), (5, .iaload), (6, .istore_n 1), (7, .iload_n 1), (8, .iconst 2), (9, .iconst 4), (10, .invokestatic 246), (13, .ifCond .ne 10), (16, .aload_n 0), (17, .iconst 5), (18, .iconst 1), (19, .invokevirtual 238), (22, .return_), (23, .iconst 0), (24, .istore_n 2), (25, .iconst 2), (26, .istore_n 3), (27, .aload_n 0), (28, .getfield 20), (31, .iload_n 3), (32, .iaload), (33, .iconst 4), (34, .if_icmp .eq 88), (37, .aload_n 0), (38, .getfield 20), (41, .iload_n 3), (42, .iaload), (43, .iconst 2), (44, .if_icmp .eq 6), (47, .goto 69), (50, .aload_n 0), (51, .getfield 27), (54, .iload_n 3), (55, .iaload), (56, .iconst 1), (57, .iload_n 1), (58, .iconst 1), (59, .isub), (60, .invokestatic 246), (63, .ifCond .ne 9), (66, .aload_n 0), (67, .iconst 5), (68, .iload_n 3), (69, .invokevirtual 238), (72, .aload_n 0), (73, .getfield 55), (76, .iload_n 2), (77, .aload_n 0), (78, .getfield 27), (81, .iload_n 3), (82, .iaload), (83, .iconst 1), (84, .isub), (85, .iastore), (86, .aload_n 0), (87, .getfield 43), (90, .bipush 70), (92, .iload_n 2), (93, .iadd), (94, .aload_n 0), (95, .getfield 20), (98, .iload_n 3), (99, .iconst 1), (100, .isub), (101, .iaload), (102, .bipush 6), (104, .if_icmp .ne 7), (107, .iconst (-1)), (108, .goto 4), (111, .iconst 1), (112, .iastore), (113, .iinc 2 1), (116, .iinc 3 1), (119, .goto (-92)), (122, .aload_n 0), (123, .getfield 43), (126, .iconst 1), (127, .iload_n 2), (128, .iastore), (129, .aload_n 0), (130, .getfield 176), (133, .ifCond .le 4), (136, .return_), (137, .iconst 0), (138, .istore_n 3), (139, .iconst 0), (140, .istore 4), (142, .iload 4), (144, .iload_n 1), (145, .if_icmp .ge 63), (148, .iload_n 3), (149, .iload 4), (151, .invokestatic 250), (154, .ifCond .eq 6), (157, .goto 45), (160, .iload 4), (162, .istore 5), (164, .iload_n 3), (165, .iload 5), (167, .invokestatic 250), (170, .ifCond .ne 22), (173, .iload_n 3), (174, .iconst 1), (175, .iload 5), (177, .ishl), (178, .ior), (179, .istore_n 3), (180, .aload_n 0), (181, .iload 5), (183, .iload_n 2), (184, .invokevirtual 254), (187, .istore 5), (189, .goto (-25)), (192, .aload_n 0), (193, .getfield 43), (196, .iconst 0), (197, .dup2), (198, .iaload), (199, .iconst 1), (200, .iadd), (201, .iastore), (202, .iinc 4 1), (205, .goto (-63)), (208, .return_)]
def km_q151 : km_Q := (yX9_meansBraid, cX9_meansBraid, 6, none, 9, 1, false, km_c151)
def km_c152 : List (Nat × Jvm.ClassFile.Instr) := [(0, .iload_n 1), (1, .istore_n 3), (2, .iconst 0), (3, .istore 4), (5, .iload 4), (7, .iload_n 2), (8, .if_icmp .ge 126), (11, .iload_n 3), (12, .aload_n 0), (13, .getfield 55), (16, .iload 4), (18, .iaload), (19, .if_icmp .eq 19), (22, .iload_n 3), (23, .aload_n 0), (24, .getfield 55), (27, .iload 4), (29, .iaload), (30, .iconst 1), (31, .iadd), (32, .if_icmp .eq 6), (35, .goto 93), (38, .iload_n 3), (39, .aload_n 0), (40, .getfield 55), (43, .iload 4), (45, .iaload), (46, .if_icmp .ne 7), (49, .iconst 1), (50, .goto 4), (53, .iconst 0), (54, .istore 5), (56, .iload 5), (58, .aload_n 0), (59, .getfield 43), (62, .bipush 70), (64, .iload 4), (66, .iadd), (67, .iaload), (68, .iconst 1), (69, .if_icmp .ne 7), (72, .iconst 1), (73, .goto 4), (76, .iconst 0), (77, .if_icmp .ne 7), (80, .iconst 1), (81, .goto 4), (84, .iconst 0), (85, .istore 6), (87, .aload_n 0), (88, .getfield 43), (91, .aload_n 0), (92, .getfield 43), (95, .iconst 0), (96, .iaload), (97, .iconst 2), (98, .iload 4), (100, .imul), (101, .iload 6), (103, .ifCond .eq 7), (106, .iconst 1), (107, .goto 4), (110, .iconst 0), (111, .iadd), (112, .invokestatic 242), (115, .iload_n 3), (116, .iload 5), (118, .ifCond .eq 7), (121, .iconst 1), (122, .goto 4), (125, .iconst (-1)), (126, .iadd), (127, .istore_n 3), (128, .iinc 4 1), (131, .goto (-126)), (134, .iload_n 3), (135, .ireturn)]
def km_q152 : km_Q := (yX9_goesDown, cX9_goesDown, 7, (some .int), 9, 3, false, km_c152)
def km_c153 : List (Nat × Jvm.ClassFile.Instr) := [(0, .iload_n 0), (1, .iload_n 1), (2, .if_icmp .lt 12), (5, .iload_n 0), (6, .iload_n 2), (7, .if_icmp .gt 7), (10, .iconst 1), (11, .goto 4), (14, .iconst 0), (15, .ireturn)]
def km_q153 : km_Q := (yX9_in, cX9_in, 3, (some .boolean), 9, 3, true, km_c153)
def km_c154 : List (Nat × Jvm.ClassFile.Instr) := [(0, .iload_n 0), (1, .iload_n 1), (2, .ishr), (3, .iconst 1), (4, .iand), (5, .iconst 1), (6, .if_icmp .ne 7), (9, .iconst 1), (10, .goto 4), (13, .iconst 0), (14, .ireturn)]
def km_q154 : km_Q := (yX9_has, cX9_has, 2, (some .boolean), 9, 2, true, km_c154)
def km_c155 : List (Nat × Jvm.ClassFile.Instr) := [(0, .iconst 0), (1, .istore_n 1), (2, .iload_n 0), (3, .istore_n 2), (4, .iload_n 2), (5, .ifCond .le 16), (8, .iload_n 1), (9, .iload_n 2), (10, .iconst 1), (11, .iand), (12, .iadd), (13, .istore_n 1), (14, .iload_n 2), (15, .iconst 1), (16, .ishr), (17, .istore_n 2), (18, .goto (-14)), (21, .iload_n 1), (22, .ireturn)]
def km_q155 : km_Q := (yX9_bitsOf, cX9_bitsOf, 3, (some .int), 9, 1, true, km_c155)
def km_c156 : List (Nat × Jvm.ClassFile.Instr) := [(0, .iconst 0), (1, .istore_n 2), (2, .iload_n 2), (3, .bipush 78), (5, .if_icmp .ge 15), (8, .aload_n 1), (9, .iload_n 2), (10, .aload_n 0), (11, .iload_n 2), (12, .iaload), (13, .iastore), (14, .iinc 2 1), (17, .goto (-15)), (20, .return_)]
def km_q156 : km_Q := (yX9_copies, cX9_copies, 3, none, 9, 2, true, km_c156)
def km_c157 : List (Nat × Jvm.ClassFile.Instr) := [(0, .aload_n 0), (1, .iconst 0), (2, .putfield 257), (5, .iconst 0), (6, .istore_n 2), (7, .iload_n 2), (8, .aload_n 1), (9, .iconst 0), (10, .iaload), (11, .if_icmp .ge 117), (14, .aload_n 0), (15, .getfield 257), (18, .istore_n 3), (19, .aload_n 1), (20, .iconst 2), (21, .iload_n 2), (22, .iadd), (23, .iaload), (24, .istore 4), (26, .iconst 0), (27, .istore 5), (29, .iload 5), (31, .iload 4), (33, .if_icmp .ge 89), (36, .aload_n 0), (37, .getfield 58), (40, .aload_n 0), (41, .getfield 257), (44, .aload_n 1), (45, .bipush 6), (47, .bipush 16), (49, .iload_n 2), (50, .imul), (51, .iadd), (52, .iload 5), (54, .iadd), (55, .iaload), (56, .iastore), (57, .aload_n 0), (58, .getfield 61), (61, .aload_n 0), (62, .getfield 257), (65, .iload_n 2), (66, .iastore), (67, .aload_n 0), (68, .getfield 64), (71, .aload_n 0), (72, .getfield 257), (75, .iload_n 3), (76, .iload 5), (78, .iconst 1), (79, .iadd), (80, .iload 4), (82, .irem), (83, .iadd), (84, .iastore), (85, .aload_n 0), (86, .getfield 67), (89, .aload_n 0), (90, .getfield 257), (93, .iload_n 3), (94, .iload 5), (96, .iload 4), (98, .iadd), (99, .iconst 1), (100, .isub), (101, .iload 4), (103, .irem), (104, .iadd), (105, .iastore), (106, .aload_n 0), (107, .dup), (108, .getfield 257), (111, .iconst 1), (112, .iadd), (113, .putfield 257), (116, .iinc 5 1), (119, .goto (-90)), (122, .iinc 2 1), (125, .goto (-118)), (128, .iconst 0), (129, .istore_n 2), (130, .iload_n 2), (131, .aload_n 0), (132, .getfield 257), (135, .if_icmp .ge 87), (138, .aload_n 0), (139, .getfield 58), (142, .iload_n 2), (143, .iaload), (144, .iconst 2), (145, .idiv), (146, .istore_n 3), (147, .aload_n 0), (148, .aload_n 1), (149, .iload_n 2), (150, .invokevirtual 260), (153, .istore 4), (155, .aload_n 0), (156, .getfield 70), (159, .iconst 4), (160, .iload_n 3), (161, .imul), (162, .iload 4), (164, .iadd), (165, .aload_n 0), (166, .getfield 67), (169, .iload_n 2), (170, .iaload), (171, .iastore), (172, .aload_n 0), (173, .getfield 73), (176, .iconst 4), (177, .iload_n 3), (178, .imul), (179, .iload 4), (181, .iadd), (182, .iconst 1), (183, .bastore), (184, .aload_n 0), (185, .getfield 70), (188, .iconst 4), (189, .iload_n 3), (190, .imul), (191, .iload 4), (193, .iconst 2), (194, .iadd), (195, .iconst 4), (196, .irem), (197, .iadd), (198, .iload_n 2), (199, .iastore), (200, .aload_n 0), (201, .getfield 73), (204, .iconst 4), (205, .iload_n 3), (206, .imul), (207, .iload 4), (209, .iconst 2), (210, .iadd), (211, .iconst 4), (212, .irem), (213, .iadd), (214, .iconst 0), (215, .bastore), (216, .iinc 2 1), (219, .goto (-89)), (222, .return_)]
def km_q157 : km_Q := (yX9_laysEdges, cX9_laysEdges, 6, none, 9, 2, false, km_c157)
def km_c158 : List (Nat × Jvm.ClassFile.Instr) := [(0, .aload_n 0), (1, .getfield 58), (4, .iload_n 2), (5, .iaload), (6, .iconst 2), (7, .irem), (8, .ifCond .ne 7), (11, .iconst 0), (12, .goto 25), (15, .aload_n 1), (16, .bipush 70), (18, .aload_n 0), (19, .getfield 58), (22, .iload_n 2), (23, .iaload), (24, .iconst 2), (25, .idiv), (26, .iadd), (27, .iaload), (28, .iconst 1), (29, .if_icmp .ne 7), (32, .iconst 3), (33, .goto 4), (36, .iconst 1), (37, .ireturn)]
def km_q158 : km_Q := (yX9_endIn, cX9_endIn, 3, (some .int), 9, 3, false, km_c158)
def km_c159 : List (Nat × Jvm.ClassFile.Instr) := [(0, .iload_n 2), (1, .iconst 2), (2, .idiv), (3, .istore_n 3), (4, .iload_n 2), (5, .iconst 2), (6, .irem), (7, .ifCond .ne 12), (10, .aload_n 0), (11, .getfield 64), (14, .iload_n 3), (15, .iaload), (16, .goto 4), (19, .iload_n 3), (20, .istore 4), (22, .iload_n 2), (23, .iconst 2), (24, .irem), (25, .ifCond .ne 13), (28, .aload_n 0), (29, .aload_n 1), (30, .iload 4), (32, .invokevirtual 260), (35, .goto 14), (38, .aload_n 0), (39, .aload_n 1), (40, .iload 4), (42, .invokevirtual 260), (45, .iconst 2), (46, .iadd), (47, .iconst 4), (48, .irem), (49, .istore 5), (51, .iconst 4), (52, .aload_n 0), (53, .getfield 58), (56, .iload 4), (58, .iaload), (59, .iconst 2), (60, .idiv), (61, .imul), (62, .iload 5), (64, .iconst 1), (65, .iadd), (66, .iconst 4), (67, .irem), (68, .iadd), (69, .istore 6), (71, .iconst 2), (72, .aload_n 0), (73, .getfield 70), (76, .iload 6), (78, .iaload), (79, .imul), (80, .aload_n 0), (81, .getfield 73), (84, .iload 6), (86, .baload), (87, .ifCond .eq 7), (90, .iconst 1), (91, .goto 4), (94, .iconst 0), (95, .iadd), (96, .ireturn)]
def km_q159 : km_Q := (yX9_turnsTo, cX9_turnsTo, 7, (some .int), 9, 3, false, km_c159)
def km_c160 : List (Nat × Jvm.ClassFile.Instr) := [(0, .aload_n 0), (1, .getfield 58), (4, .iload_n 1), (5, .iconst 2), (6, .irem), (7, .ifCond .ne 14), (10, .aload_n 0), (11, .getfield 64), (14, .iload_n 1), (15, .iconst 2), (16, .idiv), (17, .iaload), (18, .goto 6), (21, .iload_n 1), (22, .iconst 2), (23, .idiv), (24, .iaload), (25, .iconst 2), (26, .idiv), (27, .ireturn)]
def km_q160 : km_Q := (yX9_crossingBehind, cX9_crossingBehind, 2, (some .int), 9, 2, false, km_c160)
def km_c161 : List (Nat × Jvm.ClassFile.Instr) := [(0, .aload_n 0), (1, .aload_n 1), (2, .invokevirtual 263), (5, .iconst 0), (6, .istore_n 2), (7, .iload_n 2), (8, .iconst 2), (9, .aload_n 0), (10, .getfield 257), (13, .imul), (14, .if_icmp .ge 16), (17, .aload_n 0), (18, .getfield 83), (21, .iload_n 2), (22, .iconst 0), (23, .bastore), (24, .iinc 2 1), (27, .goto (-20)), (30, .aload_n 0), (31, .iconst 0), (32, .putfield 267), (35, .iconst 0), (36, .istore_n 2), (37, .iload_n 2), (38, .iconst 2), (39, .aload_n 0), (40, .getfield 257), (43, .imul), (44, .if_icmp .ge 92), (47, .aload_n 0), (48, .getfield 83), (51, .iload_n 2), (52, .baload), (53, .ifCond .eq 6), (56, .goto 74), (59, .aload_n 0), (60, .getfield 77), (63, .aload_n 0), (64, .getfield 267), (67, .iload_n 2), (68, .iastore), (69, .aload_n 0), (70, .getfield 80), (73, .aload_n 0), (74, .getfield 267), (77, .iconst 0), (78, .iastore), (79, .iload_n 2), (80, .istore_n 3), (81, .aload_n 0), (82, .getfield 83), (85, .iload_n 3), (86, .baload), (87, .ifCond .ne 33), (90, .aload_n 0), (91, .getfield 83), (94, .iload_n 3), (95, .iconst 1), (96, .bastore), (97, .aload_n 0), (98, .getfield 80), (101, .aload_n 0), (102, .getfield 267), (105, .dup2), (106, .iaload), (107, .iconst 1), (108, .iadd), (109, .iastore), (110, .aload_n 0), (111, .aload_n 1), (112, .iload_n 3), (113, .invokevirtual 270), (116, .istore_n 3), (117, .goto (-36)), (120, .aload_n 0), (121, .dup), (122, .getfield 267), (125, .iconst 1), (126, .iadd), (127, .putfield 267), (130, .iinc 2 1), (133, .goto (-96)), (136, .aload_n 0), (137, .getfield 267), (140, .ireturn)]
def km_q161 : km_Q := (yX9_laysFaces, cX9_laysFaces, 4, (some .int), 9, 2, false, km_c161)
def km_c162 : List (Nat × Jvm.ClassFile.Instr) := [(0, .aload_n 0), (1, .aload_n 1), (2, .invokevirtual 263), (5, .aload_n 1), (6, .iconst 1), (7, .iaload), (8, .istore_n 2), (9, .iconst 0), (10, .istore_n 3), (11, .iload_n 3), (12, .aload_n 1), (13, .iconst 1), (14, .iaload), (15, .if_icmp .ge 16), (18, .aload_n 0), (19, .getfield 86), (22, .iload_n 3), (23, .iload_n 3), (24, .iastore), (25, .iinc 3 1), (28, .goto (-17)), (31, .iconst 0), (32, .istore_n 3), (33, .iload_n 3), (34, .aload_n 0), (35, .getfield 257), (38, .if_icmp .ge 40), (41, .iload_n 2), (42, .aload_n 0), (43, .aload_n 0), (44, .getfield 58), (47, .iload_n 3), (48, .iaload), (49, .iconst 2), (50, .idiv), (51, .aload_n 0), (52, .getfield 58), (55, .aload_n 0), (56, .getfield 64), (59, .iload_n 3), (60, .iaload), (61, .iaload), (62, .iconst 2), (63, .idiv), (64, .aload_n 1), (65, .iconst 1), (66, .iaload), (67, .invokevirtual 273), (70, .isub), (71, .istore_n 2), (72, .iinc 3 1), (75, .goto (-42)), (78, .iload_n 2), (79, .ireturn)]
def km_q162 : km_Q := (yX9_partsOf, cX9_partsOf, 4, (some .int), 9, 2, false, km_c162)
def km_c163 : List (Nat × Jvm.ClassFile.Instr) := [(0, .aload_n 0), (1, .getfield 86), (4, .iload_n 1), (5, .iaload), (6, .istore 4), (8, .aload_n 0), (9, .getfield 86), (12, .iload_n 2), (13, .iaload), (14, .istore 5), (16, .iload 4), (18, .iload 5), (20, .if_icmp .ne 5), (23, .iconst 0), (24, .ireturn), (25, .iconst 0), (26, .istore 6), (28, .iload 6), (30, .iload_n 3), (31, .if_icmp .ge 30), (34, .aload_n 0), (35, .getfield 86), (38, .iload 6), (40, .iaload), (41, .iload 4), (43, .if_icmp .ne 12), (46, .aload_n 0), (47, .getfield 86), (50, .iload 6), (52, .iload 5), (54, .iastore), (55, .iinc 6 1), (58, .goto (-30)), (61, .iconst 1), (62, .ireturn)]
def km_q163 : km_Q := (yX9_joins, cX9_joins, 7, (some .int), 9, 4, false, km_c163)
def km_c164 : List (Nat × Jvm.ClassFile.Instr) := [(0, .aload_n 0), (1, .aload_n 1), (2, .invokevirtual 277), (5, .aload_n 1), (6, .iconst 1), (7, .iaload), (8, .iconst 2), (9, .aload_n 0), (10, .aload_n 1), (11, .invokevirtual 281), (14, .imul), (15, .iadd), (16, .if_icmp .ne 7), (19, .iconst 1), (20, .goto 4), (23, .iconst 0), (24, .ireturn)]
def km_q164 : km_Q := (yX9_canBeDrawn, cX9_canBeDrawn, 2, (some .boolean), 9, 2, false, km_c164)
def km_c165 : List (Nat × Jvm.ClassFile.Instr) := [(0, .aload_n 0), (1, .getfield 58), (4, .iload_n 1), (5, .iaload), (6, .iconst 2), (7, .irem), (8, .aload_n 0), (9, .getfield 58), (12, .aload_n 0), (13, .getfield 64), (16, .iload_n 1), (17, .iaload), (18, .iaload), (19, .iconst 2), (20, .irem), (21, .iadd), (22, .ireturn)]
def km_q165 : km_Q := (yX9_oversOf, cX9_oversOf, 2, (some .int), 9, 2, false, km_c165)
def km_c166 : List (Nat × Jvm.ClassFile.Instr) := [(0, .aload_n 0), (1, .getfield 80), (4, .iload_n 2), (5, .iaload), (6, .istore_n 3), (7, .iload_n 3), (8, .iconst 1), (9, .if_icmp .ne 5), (12, .iconst 1), (13, .ireturn), (14, .iload_n 3), (15, .iconst 3), (16, .if_icmp .le 5), (19, .iconst 0), (20, .ireturn), (21, .aload_n 0), (22, .getfield 77), (25, .iload_n 2), (26, .iaload), (27, .istore 4), (29, .aload_n 0), (30, .aload_n 1), (31, .iload 4), (33, .invokevirtual 270), (36, .istore 5), (38, .aload_n 0), (39, .iload 4), (41, .invokevirtual 284), (44, .aload_n 0), (45, .iload 5), (47, .invokevirtual 284), (50, .if_icmp .ne 5), (53, .iconst 0), (54, .ireturn), (55, .iload_n 3), (56, .iconst 2), (57, .if_icmp .ne 42), (60, .aload_n 0), (61, .iload 4), (63, .iconst 2), (64, .idiv), (65, .invokevirtual 287), (68, .aload_n 0), (69, .iload 5), (71, .iconst 2), (72, .idiv), (73, .invokevirtual 287), (76, .iadd), (77, .iconst 2), (78, .if_icmp .ne 19), (81, .aload_n 0), (82, .iload 4), (84, .iconst 2), (85, .idiv), (86, .invokevirtual 287), (89, .iconst 1), (90, .if_icmp .eq 7), (93, .iconst 2), (94, .goto 4), (97, .iconst 0), (98, .ireturn), (99, .aload_n 0), (100, .aload_n 1), (101, .iload 5), (103, .invokevirtual 270), (106, .istore 6), (108, .aload_n 0), (109, .iload 4), (111, .invokevirtual 284), (114, .aload_n 0), (115, .iload 6), (117, .invokevirtual 284), (120, .if_icmp .eq 18), (123, .aload_n 0), (124, .iload 5), (126, .invokevirtual 284), (129, .aload_n 0), (130, .iload 6), (132, .invokevirtual 284), (135, .if_icmp .ne 5), (138, .iconst 0), (139, .ireturn), (140, .iconst 1), (141, .aload_n 0), (142, .iload 4), (144, .iconst 2), (145, .idiv), (146, .invokevirtual 287), (149, .ishl), (150, .iconst 1), (151, .aload_n 0), (152, .iload 5), (154, .iconst 2), (155, .idiv), (156, .invokevirtual 287), (159, .ishl), (160, .ior), (161, .iconst 1), (162, .aload_n 0), (163, .iload 6), (165, .iconst 2), (166, .idiv), (167, .invokevirtual 287), (170, .ishl), (171, .ior), (172, .istore 7), (174, .iload 7), (176, .bipush 7), (178, .if_icmp .ne 7), (181, .iconst 3), (182, .goto 4), (185, .iconst 0), (186, .ireturn)]
def km_q166 : km_Q := (yX9_kindOf, cX9_kindOf, 8, (some .int), 9, 3, false, km_c166)
def km_c167 : List (Nat × Jvm.ClassFile.Instr) := [(0, .iconst 0), (1, .istore_n 2), (2, .aload_n 0), (3, .aload_n 0), (4, .getfield 40), (7, .invokevirtual 277), (10, .pop), (11, .iconst 0), (12, .istore_n 3), (13, .iload_n 3), (14, .aload_n 0), (15, .getfield 267), (18, .if_icmp .ge 25), (21, .aload_n 0), (22, .aload_n 0), (23, .getfield 40), (26, .iload_n 3), (27, .invokevirtual 290), (30, .iload_n 1), (31, .if_icmp .ne 6), (34, .iinc 2 1), (37, .iinc 3 1), (40, .goto (-27)), (43, .iload_n 2), (44, .ireturn)]
def km_q167 : km_Q := (yX9_kindMany, cX9_kindMany, 4, (some .int), 9, 2, false, km_c167)
def km_c168 : List (Nat × Jvm.ClassFile.Instr) := [(0, .aload_n 0), (1, .aload_n 1), (2, .invokevirtual 277), (5, .pop), (6, .iconst 0), (7, .istore_n 3), (8, .iload_n 3), (9, .aload_n 0), (10, .getfield 267), (13, .if_icmp .ge 21), (16, .aload_n 0), (17, .aload_n 1), (18, .iload_n 3), (19, .invokevirtual 290), (22, .iload_n 2), (23, .if_icmp .ne 5), (26, .iload_n 3), (27, .ireturn), (28, .iinc 3 1), (31, .goto (-23)), (34, .iconst (-1)), (35, .ireturn)]
def km_q168 : km_Q := (yX9_firstOf, cX9_firstOf, 4, (some .int), 9, 3, false, km_c168)
def km_c169 : List (Nat × Jvm.ClassFile.Instr) := [(0, .iconst 0), (1, .istore_n 2), (2, .iload_n 2), (3, .aload_n 0), (4, .iconst 0), (5, .iaload), (6, .if_icmp .ge 92), (9, .iconst 0), (10, .istore_n 3), (11, .iconst 0), (12, .istore 4), (14, .iload 4), (16, .aload_n 0), (17, .iconst 2), (18, .iload_n 2), (19, .iadd), (20, .iaload), (21, .if_icmp .ge 65), (24, .aload_n 0), (25, .bipush 6), (27, .bipush 16), (29, .iload_n 2), (30, .imul), (31, .iadd), (32, .iload 4), (34, .iadd), (35, .iaload), (36, .istore 5), (38, .iload 5), (40, .iconst 2), (41, .idiv), (42, .iload_n 1), (43, .if_icmp .ne 6), (46, .goto 34), (49, .aload_n 0), (50, .bipush 6), (52, .bipush 16), (54, .iload_n 2), (55, .imul), (56, .iadd), (57, .iload_n 3), (58, .iadd), (59, .iload 5), (61, .iconst 2), (62, .idiv), (63, .iload_n 1), (64, .if_icmp .le 10), (67, .iload 5), (69, .iconst 2), (70, .isub), (71, .goto 5), (74, .iload 5), (76, .iastore), (77, .iinc 3 1), (80, .iinc 4 1), (83, .goto (-69)), (86, .aload_n 0), (87, .iconst 2), (88, .iload_n 2), (89, .iadd), (90, .iload_n 3), (91, .iastore), (92, .iinc 2 1), (95, .goto (-93)), (98, .iload_n 1), (99, .istore_n 2), (100, .iload_n 2), (101, .iconst 1), (102, .iadd), (103, .aload_n 0), (104, .iconst 1), (105, .iaload), (106, .if_icmp .ge 23), (109, .aload_n 0), (110, .bipush 70), (112, .iload_n 2), (113, .iadd), (114, .aload_n 0), (115, .bipush 70), (117, .iload_n 2), (118, .iadd), (119, .iconst 1), (120, .iadd), (121, .iaload), (122, .iastore), (123, .iinc 2 1), (126, .goto (-26)), (129, .aload_n 0), (130, .iconst 1), (131, .dup2), (132, .iaload), (133, .iconst 1), (134, .isub), (135, .iastore), (136, .return_)]
def km_q169 : km_Q := (yX9_dropsOut, cX9_dropsOut, 6, none, 9, 2, true, km_c169)
def km_c170 : List (Nat × Jvm.ClassFile.Instr) := [(0, .aload_n 0), (1, .aload_n 0), (2, .getfield 77), (5, .iload_n 2), (6, .iaload), (7, .invokevirtual 284), (10, .istore_n 3), (11, .aload_n 0), (12, .getfield 80), (15, .iload_n 2), (16, .iaload), (17, .iconst 2), (18, .if_icmp .ne 21), (21, .aload_n 0), (22, .aload_n 0), (23, .aload_n 1), (24, .aload_n 0), (25, .getfield 77), (28, .iload_n 2), (29, .iaload), (30, .invokevirtual 270), (33, .invokevirtual 284), (36, .goto 4), (39, .iload_n 3), (40, .istore 4), (42, .aload_n 1), (43, .iload_n 3), (44, .iload 4), (46, .if_icmp .le 7), (49, .iload_n 3), (50, .goto 5), (53, .iload 4), (55, .invokestatic 293), (58, .iload_n 3), (59, .iload 4), (61, .if_icmp .eq 19), (64, .aload_n 1), (65, .iload_n 3), (66, .iload 4), (68, .if_icmp .le 8), (71, .iload 4), (73, .goto 4), (76, .iload_n 3), (77, .invokestatic 293), (80, .return_)]
def km_q170 : km_Q := (yX9_goesOut, cX9_goesOut, 5, none, 9, 3, false, km_c170)
def km_c171 : List (Nat × Jvm.ClassFile.Instr) := [(0, .aload_n 1), (1, .iconst 1), (2, .iaload), (3, .istore_n 2), (4, .iconst 1), (5, .istore_n 3), (6, .iload_n 3), (7, .ifCond .eq 49), (10, .aload_n 0), (11, .aload_n 1), (12, .iconst 1), (13, .invokevirtual 297), (16, .istore 4), (18, .iload 4), (20, .ifCond .ge 11), (23, .aload_n 0), (24, .aload_n 1), (25, .iconst 2), (26, .invokevirtual 297), (29, .istore 4), (31, .iload 4), (33, .ifCond .lt 7), (36, .iconst 1), (37, .goto 4), (40, .iconst 0), (41, .istore_n 3), (42, .iload_n 3), (43, .ifCond .eq 10), (46, .aload_n 0), (47, .aload_n 1), (48, .iload 4), (50, .invokevirtual 300), (53, .goto (-47)), (56, .iload_n 2), (57, .aload_n 1), (58, .iconst 1), (59, .iaload), (60, .isub), (61, .ireturn)]
def km_q171 : km_Q := (yX9_loosens, cX9_loosens, 5, (some .int), 9, 2, false, km_c171)
def km_c172 : List (Nat × Jvm.ClassFile.Instr) := [(0, .iload_n 2), (1, .istore_n 3), (2, .iconst 0), (3, .istore 4), (5, .iload_n 3), (6, .aload_n 1), (7, .iconst 2), (8, .iload 4), (10, .iadd), (11, .iaload), (12, .if_icmp .lt 18), (15, .iload_n 3), (16, .aload_n 1), (17, .iconst 2), (18, .iload 4), (20, .iadd), (21, .iaload), (22, .isub), (23, .istore_n 3), (24, .iinc 4 1), (27, .goto (-22)), (30, .bipush 6), (32, .bipush 16), (34, .iload 4), (36, .imul), (37, .iadd), (38, .iload_n 3), (39, .iadd), (40, .ireturn)]
def km_q172 : km_Q := (yX9_whereOf, cX9_whereOf, 5, (some .int), 9, 3, false, km_c172)
def km_c173 : List (Nat × Jvm.ClassFile.Instr) := [(0, .aload_n 0), (1, .getfield 77), (4, .iload_n 2), (5, .iaload), (6, .istore_n 3), (7, .iload_n 3), (8, .iconst 2), (9, .idiv), (10, .istore 4), (12, .aload_n 0), (13, .aload_n 1), (14, .iload_n 3), (15, .invokevirtual 270), (18, .iconst 2), (19, .idiv), (20, .istore 5), (22, .aload_n 0), (23, .aload_n 1), (24, .aload_n 0), (25, .aload_n 1), (26, .iload_n 3), (27, .invokevirtual 270), (30, .invokevirtual 270), (33, .iconst 2), (34, .idiv), (35, .istore 6), (37, .aload_n 0), (38, .aload_n 1), (39, .iload 4), (41, .invokevirtual 303), (44, .aload_n 0), (45, .aload_n 1), (46, .iload 5), (48, .invokevirtual 303), (51, .aload_n 0), (52, .aload_n 1), (53, .iload 6), (55, .invokevirtual 303), (58, .return_)]
def km_q173 : km_Q := (yX9_slides, cX9_slides, 7, none, 9, 3, false, km_c173)
def km_c174 : List (Nat × Jvm.ClassFile.Instr) := [(0, .aload_n 0), (1, .aload_n 1), (2, .iload_n 2), (3, .invokevirtual 306), (6, .istore_n 3), (7, .aload_n 0), (8, .aload_n 1), (9, .aload_n 0), (10, .getfield 64), (13, .iload_n 2), (14, .iaload), (15, .invokevirtual 306), (18, .istore 4), (20, .aload_n 1), (21, .iload_n 3), (22, .iaload), (23, .istore 5), (25, .aload_n 1), (26, .iload_n 3), (27, .aload_n 1), (28, .iload 4), (30, .iaload), (31, .iastore), (32, .aload_n 1), (33, .iload 4), (35, .iload 5), (37, .iastore), (38, .return_)]
def km_q174 : km_Q := (yX9_exchanges, cX9_exchanges, 6, none, 9, 3, false, km_c174)
def km_c175 : List (Nat × Jvm.ClassFile.Instr) := [(0, .aload_n 0), (1, .bipush 70), (3, .iload_n 1), (4, .iadd), (5, .aload_n 0), (6, .bipush 70), (8, .iload_n 1), (9, .iadd), (10, .iaload), (11, .ineg), (12, .iastore), (13, .iconst 0), (14, .istore_n 2), (15, .iload_n 2), (16, .aload_n 0), (17, .iconst 0), (18, .iaload), (19, .if_icmp .ge 58), (22, .iconst 0), (23, .istore_n 3), (24, .iload_n 3), (25, .aload_n 0), (26, .iconst 2), (27, .iload_n 2), (28, .iadd), (29, .iaload), (30, .if_icmp .ge 41), (33, .aload_n 0), (34, .bipush 6), (36, .bipush 16), (38, .iload_n 2), (39, .imul), (40, .iadd), (41, .iload_n 3), (42, .iadd), (43, .iaload), (44, .iconst 2), (45, .idiv), (46, .iload_n 1), (47, .if_icmp .ne 18), (50, .aload_n 0), (51, .bipush 6), (53, .bipush 16), (55, .iload_n 2), (56, .imul), (57, .iadd), (58, .iload_n 3), (59, .iadd), (60, .dup2), (61, .iaload), (62, .iconst 1), (63, .ixor), (64, .iastore), (65, .iinc 3 1), (68, .goto (-44)), (71, .iinc 2 1), (74, .goto (-59)), (77, .return_)]
def km_q175 : km_Q := (yX9_switchesAt, cX9_switchesAt, 4, none, 9, 2, true, km_c175)
def km_c176 : List (Nat × Jvm.ClassFile.Instr) := [(0, .aload_n 0), (1, .getfield 213), (4, .bipush 40), (6, .if_icmp .ne 26), (9, .aload_n 0), (10, .aload_n 0), (11, .getfield 309), (14, .iconst 1), (15, .iadd), (16, .bipush 40), (18, .irem), (19, .putfield 309), (22, .aload_n 0), (23, .dup), (24, .getfield 213), (27, .iconst 1), (28, .isub), (29, .putfield 213), (32, .bipush 78), (34, .aload_n 0), (35, .getfield 309), (38, .aload_n 0), (39, .getfield 213), (42, .iadd), (43, .bipush 40), (45, .irem), (46, .imul), (47, .istore_n 1), (48, .iconst 0), (49, .istore_n 2), (50, .iload_n 2), (51, .bipush 78), (53, .if_icmp .ge 23), (56, .aload_n 0), (57, .getfield 89), (60, .iload_n 1), (61, .iload_n 2), (62, .iadd), (63, .aload_n 0), (64, .getfield 40), (67, .iload_n 2), (68, .iaload), (69, .iastore), (70, .iinc 2 1), (73, .goto (-23)), (76, .aload_n 0), (77, .dup), (78, .getfield 213), (81, .iconst 1), (82, .iadd), (83, .putfield 213), (86, .return_)]
def km_q176 : km_Q := (yX9_marks, cX9_marks, 3, none, 9, 1, false, km_c176)
def km_c177 : List (Nat × Jvm.ClassFile.Instr) := [(0, .aload_n 0), (1, .getfield 213), (4, .ifCond .ne 5), (7, .iconst 0), (8, .ireturn), (9, .aload_n 0), (10, .dup), (11, .getfield 213), (14, .iconst 1), (15, .isub), (16, .putfield 213), (19, .bipush 78), (21, .aload_n 0), (22, .getfield 309), (25, .aload_n 0), (26, .getfield 213), (29, .iadd), (30, .bipush 40), (32, .irem), (33, .imul), (34, .istore_n 1), (35, .iconst 0), (36, .istore_n 2), (37, .iload_n 2), (38, .bipush 78), (40, .if_icmp .ge 23), (43, .aload_n 0), (44, .getfield 40), (47, .iload_n 2), (48, .aload_n 0), (49, .getfield 89), (52, .iload_n 1), (53, .iload_n 2), (54, .iadd), (55, .iaload), (56, .iastore), (57, .iinc 2 1), (60, .goto (-23)), (63, .iconst 1), (64, .ireturn)]
def km_q177 : km_Q := (yX9_undo, cX9_undo, 3, (some .boolean), 9, 1, false, km_c177)
def km_c178 : List (Nat × Jvm.ClassFile.Instr) := [(0, .iload_n 1), (1, .iconst 0), (2, .iconst 2), (3, .invokestatic 246), (6, .ifCond .ne 5), (9, .iconst 0), (10, .ireturn), (11, .iconst 0), (12, .istore_n 2), (13, .iload_n 2), (14, .bipush 78), (16, .if_icmp .ge 26), (19, .aload_n 0), (20, .getfield 92), (23, .bipush 78), (25, .iload_n 1), (26, .imul), (27, .iload_n 2), (28, .iadd), (29, .aload_n 0), (30, .getfield 40), (33, .iload_n 2), (34, .iaload), (35, .iastore), (36, .iinc 2 1), (39, .goto (-26)), (42, .aload_n 0), (43, .getfield 95), (46, .iload_n 1), (47, .iconst 1), (48, .bastore), (49, .iconst 1), (50, .ireturn)]
def km_q178 : km_Q := (yX9_hold, cX9_hold, 3, (some .boolean), 9, 2, false, km_c178)
def km_c179 : List (Nat × Jvm.ClassFile.Instr) := [(0, .iload_n 1), (1, .iconst 0), (2, .iconst 2), (3, .invokestatic 246), (6, .ifCond .eq 12), (9, .aload_n 0), (10, .getfield 95), (13, .iload_n 1), (14, .baload), (15, .ifCond .ne 5), (18, .iconst 0), (19, .ireturn), (20, .iconst 0), (21, .istore_n 2), (22, .iload_n 2), (23, .bipush 78), (25, .if_icmp .ge 26), (28, .aload_n 0), (29, .getfield 98), (32, .iload_n 2), (33, .aload_n 0), (34, .getfield 92), (37, .bipush 78), (39, .iload_n 1), (40, .imul), (41, .iload_n 2), (42, .iadd), (43, .iaload), (44, .iastore), (45, .iinc 2 1), (48, .goto (-26)), (51, .iconst 1), (52, .ireturn)]
def km_q179 : km_Q := (yX9_hasHeld, cX9_hasHeld, 3, (some .boolean), 9, 2, false, km_c179)
def km_c180 : List (Nat × Jvm.ClassFile.Instr) := [(0, .aload_n 0), (1, .iload_n 1), (2, .invokevirtual 312), (5, .ifCond .ne 5), (8, .iconst 0), (9, .ireturn), (10, .aload_n 0), (11, .getfield 98), (14, .aload_n 0), (15, .getfield 40), (18, .invokestatic 209), (21, .aload_n 0), (22, .iconst 0), (23, .putfield 213), (26, .iconst 1), (27, .ireturn)]
def km_q180 : km_Q := (yX9_restore, cX9_restore, 2, (some .boolean), 9, 2, false, km_c180)
def km_c181 : List (Nat × Jvm.ClassFile.Instr) := [(0, .iload_n 1), (1, .iconst 0), (2, .aload_n 0), (3, .aload_n 0), (4, .getfield 40), (7, .invokevirtual 277), (10, .iconst 1), (11, .isub), (12, .invokestatic 246), (15, .ifCond .ne 5), (18, .iconst (-1)), (19, .ireturn), (20, .aload_n 0), (21, .aload_n 0), (22, .getfield 40), (25, .iload_n 1), (26, .invokevirtual 290), (29, .istore_n 2), (30, .iload_n 2), (31, .iconst 1), (32, .if_icmp .eq 10), (35, .iload_n 2), (36, .iconst 2), (37, .if_icmp .eq 5), (40, .iconst (-1)), (41, .ireturn), (42, .aload_n 0), (43, .invokevirtual 315), (46, .aload_n 0), (47, .aload_n 0), (48, .getfield 40), (51, .iload_n 1), (52, .invokevirtual 300), (55, .aload_n 0), (56, .getfield 40), (59, .iconst 1), (60, .iaload), (61, .ireturn)]
def km_q181 : km_Q := (yX9_out, cX9_out, 3, (some .int), 9, 2, false, km_c181)
def km_c182 : List (Nat × Jvm.ClassFile.Instr) := [(0, .iload_n 1), (1, .iconst 0), (2, .aload_n 0), (3, .aload_n 0), (4, .getfield 40), (7, .invokevirtual 277), (10, .iconst 1), (11, .isub), (12, .invokestatic 246), (15, .ifCond .eq 16), (18, .aload_n 0), (19, .aload_n 0), (20, .getfield 40), (23, .iload_n 1), (24, .invokevirtual 290), (27, .iconst 3), (28, .if_icmp .eq 5), (31, .iconst 0), (32, .ireturn), (33, .aload_n 0), (34, .invokevirtual 315), (37, .aload_n 0), (38, .aload_n 0), (39, .getfield 40), (42, .iload_n 1), (43, .invokevirtual 318), (46, .iconst 1), (47, .ireturn)]
def km_q182 : km_Q := (yX9_slide, cX9_slide, 2, (some .boolean), 9, 2, false, km_c182)
def km_c183 : List (Nat × Jvm.ClassFile.Instr) := [(0, .aload_n 0), (1, .getfield 40), (4, .iconst 1), (5, .iaload), (6, .bipush 8), (8, .if_icmp .eq 21), (11, .iload_n 1), (12, .iconst 0), (13, .iconst 2), (14, .aload_n 0), (15, .getfield 40), (18, .iconst 1), (19, .iaload), (20, .imul), (21, .iconst 1), (22, .isub), (23, .invokestatic 246), (26, .ifCond .ne 5), (29, .iconst 0), (30, .ireturn), (31, .aload_n 0), (32, .invokevirtual 315), (35, .aload_n 0), (36, .aload_n 0), (37, .getfield 40), (40, .iload_n 1), (41, .invokevirtual 306), (44, .istore 4), (46, .iload 4), (48, .bipush 6), (50, .isub), (51, .bipush 16), (53, .idiv), (54, .istore 5), (56, .aload_n 0), (57, .getfield 40), (60, .iconst 1), (61, .iaload), (62, .istore 6), (64, .bipush 6), (66, .bipush 16), (68, .iload 5), (70, .imul), (71, .iadd), (72, .aload_n 0), (73, .getfield 40), (76, .iconst 2), (77, .iload 5), (79, .iadd), (80, .iaload), (81, .iadd), (82, .iconst 1), (83, .isub), (84, .istore 7), (86, .iload 7), (88, .iload 4), (90, .if_icmp .le 25), (93, .aload_n 0), (94, .getfield 40), (97, .iload 7), (99, .iconst 2), (100, .iadd), (101, .aload_n 0), (102, .getfield 40), (105, .iload 7), (107, .iaload), (108, .iastore), (109, .iinc 7 (-1)), (112, .goto (-26)), (115, .aload_n 0), (116, .getfield 40), (119, .iload 4), (121, .iconst 1), (122, .iadd), (123, .iconst 2), (124, .iload 6), (126, .imul), (127, .iload_n 2), (128, .ifCond .eq 7), (131, .iconst 1), (132, .goto 4), (135, .iconst 0), (136, .iadd), (137, .iastore), (138, .aload_n 0), (139, .getfield 40), (142, .iload 4), (144, .iconst 2), (145, .iadd), (146, .iconst 2), (147, .iload 6), (149, .imul), (150, .iload_n 2), (151, .ifCond .eq 7), (154, .iconst 0), (155, .goto 4), (158, .iconst 1), (159, .iadd), (160, .iastore), (161, .aload_n 0), (162, .getfield 40), (165, .iconst 2), (166, .iload 5), (168, .iadd), (169, .dup2), (170, .iaload), (171, .iconst 2), (172, .iadd), (173, .iastore), (174, .aload_n 0), (175, .getfield 40), (178, .bipush 70), (180, .iload 6), (182, .iadd), (183, .iload_n 3), (184, .ifCond .eq 7), (187, .iconst 1), (188, .goto 4), (191, .iconst (-1)), (192, .iastore), (193, .aload_n 0), (194, .getfield 40), (197, .iconst 1), (198, .dup2), (199, .iaload), (200, .iconst 1), (201, .iadd), (202, .iastore), (203, .iconst 1), (204, .ireturn)]
def km_q183 : km_Q := (yX9_kink, cX9_kink, 8, (some .boolean), 9, 4, false, km_c183)
def km_c184 : List (Nat × Jvm.ClassFile.Instr) := [(0, .aload_n 0), (1, .getfield 40), (4, .aload_n 0), (5, .getfield 98), (8, .invokestatic 209), (11, .aload_n 0), (12, .aload_n 0), (13, .getfield 98), (16, .invokevirtual 321), (19, .istore_n 1), (20, .iload_n 1), (21, .ifCond .ne 5), (24, .iconst 0), (25, .ireturn), (26, .aload_n 0), (27, .invokevirtual 315), (30, .aload_n 0), (31, .getfield 98), (34, .aload_n 0), (35, .getfield 40), (38, .invokestatic 209), (41, .iload_n 1), (42, .ireturn)]
def km_q184 : km_Q := (yX9_loosen, cX9_loosen, 2, (some .int), 9, 1, false, km_c184)
def km_c185 : List (Nat × Jvm.ClassFile.Instr) := [(0, .aload_n 0), (1, .getfield 40), (4, .iconst 0), (5, .iaload), (6, .ifCond .ne 5), (9, .iconst 0), (10, .ireturn), (11, .aload_n 0), (12, .invokevirtual 315), (15, .iconst 0), (16, .istore_n 1), (17, .iload_n 1), (18, .aload_n 0), (19, .getfield 40), (22, .iconst 1), (23, .iaload), (24, .if_icmp .ge 17), (27, .aload_n 0), (28, .getfield 40), (31, .iload_n 1), (32, .invokestatic 324), (35, .iinc 1 1), (38, .goto (-21)), (41, .iconst 1), (42, .ireturn)]
def km_q185 : km_Q := (yX9_mirror, cX9_mirror, 2, (some .boolean), 9, 1, false, km_c185)
def km_c186 : List (Nat × Jvm.ClassFile.Instr) := [(0, .iload_n 1), (1, .iconst 0), (2, .aload_n 0), (3, .getfield 40), (6, .iconst 0), (7, .iaload), (8, .iconst 1), (9, .isub), (10, .invokestatic 246), (13, .ifCond .ne 5), (16, .iconst 0), (17, .ireturn), (18, .aload_n 0), (19, .invokevirtual 315), (22, .bipush 6), (24, .bipush 16), (26, .iload_n 1), (27, .imul), (28, .iadd), (29, .istore_n 2), (30, .aload_n 0), (31, .getfield 40), (34, .iconst 2), (35, .iload_n 1), (36, .iadd), (37, .iaload), (38, .istore_n 3), (39, .iconst 0), (40, .istore 4), (42, .iconst 0), (43, .istore 5), (45, .iload 5), (47, .iload_n 3), (48, .if_icmp .ge 27), (51, .iload 4), (53, .iconst 1), (54, .aload_n 0), (55, .getfield 40), (58, .iload_n 2), (59, .iload 5), (61, .iadd), (62, .iaload), (63, .iconst 2), (64, .idiv), (65, .ishl), (66, .ixor), (67, .istore 4), (69, .iinc 5 1), (72, .goto (-27)), (75, .iconst 0), (76, .istore 5), (78, .iload 5), (80, .aload_n 0), (81, .getfield 40), (84, .iconst 1), (85, .iaload), (86, .if_icmp .ge 40), (89, .iload 4), (91, .iload 5), (93, .invokestatic 250), (96, .ifCond .eq 24), (99, .aload_n 0), (100, .getfield 40), (103, .bipush 70), (105, .iload 5), (107, .iadd), (108, .aload_n 0), (109, .getfield 40), (112, .bipush 70), (114, .iload 5), (116, .iadd), (117, .iaload), (118, .ineg), (119, .iastore), (120, .iinc 5 1), (123, .goto (-45)), (126, .iconst 1), (127, .istore 5), (129, .iload 5), (131, .iload_n 3), (132, .iload 5), (134, .isub), (135, .if_icmp .ge 53), (138, .aload_n 0), (139, .getfield 40), (142, .iload_n 2), (143, .iload 5), (145, .iadd), (146, .iaload), (147, .istore 6), (149, .aload_n 0), (150, .getfield 40), (153, .iload_n 2), (154, .iload 5), (156, .iadd), (157, .aload_n 0), (158, .getfield 40), (161, .iload_n 2), (162, .iload_n 3), (163, .iadd), (164, .iload 5), (166, .isub), (167, .iaload), (168, .iastore), (169, .aload_n 0), (170, .getfield 40), (173, .iload_n 2), (174, .iload_n 3), (175, .iadd), (176, .iload 5), (178, .isub), (179, .iload 6), (181, .iastore), (182, .iinc 5 1), (185, .goto (-56)), (188, .iconst 1), (189, .ireturn)]
def km_q186 : km_Q := (yX9_round, cX9_round, 7, (some .boolean), 9, 2, false, km_c186)
def km_c187 : List (Nat × Jvm.ClassFile.Instr) := [(0, .iload_n 1), (1, .iconst 0), (2, .aload_n 0), (3, .getfield 40), (6, .iconst 1), (7, .iaload), (8, .iconst 1), (9, .isub), (10, .invokestatic 246), (13, .ifCond .ne 5), (16, .iconst 0), (17, .ireturn), (18, .aload_n 0), (19, .invokevirtual 315), (22, .aload_n 0), (23, .getfield 40), (26, .iload_n 1), (27, .invokestatic 324), (30, .iconst 1), (31, .ireturn)]
def km_q187 : km_Q := (yX9_switches, cX9_switches, 2, (some .boolean), 9, 2, false, km_c187)
def km_c188 : List (Nat × Jvm.ClassFile.Instr) := [(0, .aload_n 0), (1, .iload_n 1), (2, .invokevirtual 312), (5, .ifCond .eq 21), (8, .aload_n 0), (9, .getfield 40), (12, .iconst 0), (13, .iaload), (14, .ifCond .eq 12), (17, .aload_n 0), (18, .getfield 98), (21, .iconst 0), (22, .iaload), (23, .ifCond .ne 5), (26, .iconst 0), (27, .ireturn), (28, .aload_n 0), (29, .getfield 40), (32, .iconst 1), (33, .iaload), (34, .aload_n 0), (35, .getfield 98), (38, .iconst 1), (39, .iaload), (40, .iadd), (41, .bipush 8), (43, .if_icmp .gt 22), (46, .aload_n 0), (47, .getfield 40), (50, .iconst 0), (51, .iaload), (52, .aload_n 0), (53, .getfield 98), (56, .iconst 0), (57, .iaload), (58, .iadd), (59, .iconst 1), (60, .isub), (61, .iconst 4), (62, .if_icmp .le 5), (65, .iconst 0), (66, .ireturn), (67, .aload_n 0), (68, .invokevirtual 315), (71, .aload_n 0), (72, .getfield 40), (75, .iconst 1), (76, .iaload), (77, .istore_n 2), (78, .iconst 0), (79, .istore_n 3), (80, .iload_n 3), (81, .aload_n 0), (82, .getfield 98), (85, .iconst 0), (86, .iaload), (87, .if_icmp .ge 93), (90, .iload_n 3), (91, .ifCond .ne 7), (94, .iconst 0), (95, .goto 13), (98, .aload_n 0), (99, .getfield 40), (102, .iconst 0), (103, .iaload), (104, .iload_n 3), (105, .iadd), (106, .iconst 1), (107, .isub), (108, .istore 4), (110, .iload_n 3), (111, .ifCond .le 13), (114, .aload_n 0), (115, .getfield 40), (118, .iconst 2), (119, .iload 4), (121, .iadd), (122, .iconst 0), (123, .iastore), (124, .iconst 0), (125, .istore 5), (127, .iload 5), (129, .aload_n 0), (130, .getfield 98), (133, .iconst 2), (134, .iload_n 3), (135, .iadd), (136, .iaload), (137, .if_icmp .ge 37), (140, .aload_n 0), (141, .getfield 40), (144, .iload 4), (146, .aload_n 0), (147, .getfield 98), (150, .bipush 6), (152, .bipush 16), (154, .iload_n 3), (155, .imul), (156, .iadd), (157, .iload 5), (159, .iadd), (160, .iaload), (161, .iconst 2), (162, .iload_n 2), (163, .imul), (164, .iadd), (165, .invokestatic 242), (168, .iinc 5 1), (171, .goto (-44)), (174, .iinc 3 1), (177, .goto (-97)), (180, .iconst 0), (181, .istore_n 3), (182, .iload_n 3), (183, .aload_n 0), (184, .getfield 98), (187, .iconst 1), (188, .iaload), (189, .if_icmp .ge 29), (192, .aload_n 0), (193, .getfield 40), (196, .bipush 70), (198, .iload_n 2), (199, .iadd), (200, .iload_n 3), (201, .iadd), (202, .aload_n 0), (203, .getfield 98), (206, .bipush 70), (208, .iload_n 3), (209, .iadd), (210, .iaload), (211, .iastore), (212, .iinc 3 1), (215, .goto (-33)), (218, .aload_n 0), (219, .getfield 40), (222, .iconst 0), (223, .dup2), (224, .iaload), (225, .aload_n 0), (226, .getfield 98), (229, .iconst 0), (230, .iaload), (231, .iconst 1), (232, .isub), (233, .iadd), (234, .iastore), (235, .aload_n 0), (236, .getfield 40), (239, .iconst 1), (240, .dup2), (241, .iaload), (242, .aload_n 0), (243, .getfield 98), (246, .iconst 1), (247, .iaload), (248, .iadd), (249, .iastore), (250, .iconst 1), (251, .ireturn)]
def km_q188 : km_Q := (yX9_sum, cX9_sum, 6, (some .boolean), 9, 2, false, km_c188)
def km_c189 : List (Nat × Jvm.ClassFile.Instr) := [(0, .iload_n 1), (1, .iconst 0), (2, .aload_n 0), (3, .getfield 40), (6, .iconst 0), (7, .iaload), (8, .iconst 1), (9, .isub), (10, .invokestatic 246), (13, .ifCond .ne 5), (16, .iconst (-1)), (17, .ireturn), (18, .aload_n 0), (19, .getfield 40), (22, .iconst 2), (23, .iload_n 1), (24, .iadd), (25, .iaload), (26, .istore_n 3), (27, .iload_n 2), (28, .iconst (-1)), (29, .if_icmp .ne 5), (32, .iload_n 3), (33, .ireturn), (34, .iload_n 2), (35, .iconst 0), (36, .iload_n 3), (37, .iconst 1), (38, .isub), (39, .invokestatic 246), (42, .ifCond .ne 5), (45, .iconst (-1)), (46, .ireturn), (47, .aload_n 0), (48, .getfield 40), (51, .bipush 6), (53, .bipush 16), (55, .iload_n 1), (56, .imul), (57, .iadd), (58, .iload_n 2), (59, .iadd), (60, .iaload), (61, .istore 4), (63, .iconst 4), (64, .iload 4), (66, .iconst 2), (67, .idiv), (68, .imul), (69, .iconst 2), (70, .iload 4), (72, .iconst 2), (73, .irem), (74, .imul), (75, .iadd), (76, .aload_n 0), (77, .getfield 40), (80, .bipush 70), (82, .iload 4), (84, .iconst 2), (85, .idiv), (86, .iadd), (87, .iaload), (88, .iconst 1), (89, .if_icmp .ne 7), (92, .iconst 1), (93, .goto 4), (96, .iconst 0), (97, .iadd), (98, .ireturn)]
def km_q189 : km_Q := (yX9_ring, cX9_ring, 5, (some .int), 9, 3, false, km_c189)
def km_c190 : List (Nat × Jvm.ClassFile.Instr) := [(0, .iconst 0), (1, .istore_n 3), (2, .aload_n 0), (3, .getfield 58), (6, .iload_n 3), (7, .iaload), (8, .iconst 2), (9, .iload_n 1), (10, .imul), (11, .iload_n 2), (12, .iadd), (13, .if_icmp .eq 9), (16, .iinc 3 1), (19, .goto (-17)), (22, .iload_n 3), (23, .ireturn)]
def km_q190 : km_Q := (yX9_passAt, cX9_passAt, 4, (some .int), 9, 3, false, km_c190)
def km_c191 : List (Nat × Jvm.ClassFile.Instr) := [(0, .iload_n 1), (1, .iconst 0), (2, .aload_n 0), (3, .getfield 40), (6, .iconst 1), (7, .iaload), (8, .iconst 1), (9, .isub), (10, .invokestatic 246), (13, .ifCond .eq 13), (16, .iload_n 2), (17, .iconst 0), (18, .bipush 7), (20, .invokestatic 246), (23, .ifCond .ne 7), (26, .ldc_w 327), (29, .ireturn), (30, .aload_n 0), (31, .aload_n 0), (32, .getfield 40), (35, .invokevirtual 328), (38, .istore_n 3), (39, .iload_n 2), (40, .ifCond .ne 13), (43, .aload_n 0), (44, .getfield 40), (47, .bipush 70), (49, .iload_n 1), (50, .iadd), (51, .iaload), (52, .ireturn), (53, .iload_n 2), (54, .iconst 5), (55, .if_icmp .ge 16), (58, .aload_n 0), (59, .getfield 70), (62, .iconst 4), (63, .iload_n 1), (64, .imul), (65, .iload_n 2), (66, .iadd), (67, .iconst 1), (68, .isub), (69, .iaload), (70, .ireturn), (71, .iload_n 2), (72, .iconst 5), (73, .if_icmp .ne 17), (76, .aload_n 0), (77, .getfield 61), (80, .aload_n 0), (81, .iload_n 1), (82, .iconst 1), (83, .invokevirtual 331), (86, .iaload), (87, .goto 34), (90, .iload_n 2), (91, .bipush 6), (93, .if_icmp .ne 17), (96, .aload_n 0), (97, .getfield 61), (100, .aload_n 0), (101, .iload_n 1), (102, .iconst 0), (103, .invokevirtual 331), (106, .iaload), (107, .goto 14), (110, .aload_n 0), (111, .getfield 113), (114, .aload_n 0), (115, .iload_n 1), (116, .iconst 1), (117, .invokevirtual 331), (120, .iaload), (121, .ireturn)]
def km_q191 : km_Q := (yX9_crossing, cX9_crossing, 4, (some .int), 9, 3, false, km_c191)
def km_c192 : List (Nat × Jvm.ClassFile.Instr) := [(0, .aload_n 0), (1, .aload_n 0), (2, .getfield 40), (5, .invokevirtual 277), (8, .istore_n 3), (9, .iload_n 1), (10, .iconst (-1)), (11, .if_icmp .ne 5), (14, .iload_n 3), (15, .ireturn), (16, .iload_n 1), (17, .iconst 0), (18, .iload_n 3), (19, .iconst 1), (20, .isub), (21, .invokestatic 246), (24, .ifCond .eq 7), (27, .iload_n 2), (28, .ifCond .ge 5), (31, .iconst (-1)), (32, .ireturn), (33, .iload_n 2), (34, .ifCond .ne 10), (37, .aload_n 0), (38, .getfield 80), (41, .iload_n 1), (42, .iaload), (43, .ireturn), (44, .iload_n 2), (45, .iconst 1), (46, .if_icmp .ne 13), (49, .aload_n 0), (50, .aload_n 0), (51, .getfield 40), (54, .iload_n 1), (55, .invokevirtual 290), (58, .ireturn), (59, .iload_n 2), (60, .iconst 2), (61, .isub), (62, .aload_n 0), (63, .getfield 80), (66, .iload_n 1), (67, .iaload), (68, .if_icmp .lt 5), (71, .iconst (-1)), (72, .ireturn), (73, .aload_n 0), (74, .getfield 77), (77, .iload_n 1), (78, .iaload), (79, .istore 4), (81, .iconst 0), (82, .istore 5), (84, .iload 5), (86, .iload_n 2), (87, .iconst 2), (88, .isub), (89, .if_icmp .ge 21), (92, .aload_n 0), (93, .aload_n 0), (94, .getfield 40), (97, .iload 4), (99, .invokevirtual 270), (102, .istore 4), (104, .iinc 5 1), (107, .goto (-23)), (110, .iload 4), (112, .ireturn)]
def km_q192 : km_Q := (yX9_face, cX9_face, 6, (some .int), 9, 3, false, km_c192)
def km_c193 : List (Nat × Jvm.ClassFile.Instr) := [(0, .iconst 0), (1, .istore_n 1), (2, .iconst 0), (3, .istore_n 2), (4, .iload_n 2), (5, .aload_n 0), (6, .iconst 0), (7, .iaload), (8, .if_icmp .ge 20), (11, .aload_n 0), (12, .iconst 2), (13, .iload_n 2), (14, .iadd), (15, .iaload), (16, .ifCond .ne 6), (19, .iinc 1 1), (22, .iinc 2 1), (25, .goto (-21)), (28, .iload_n 1), (29, .ireturn)]
def km_q193 : km_Q := (yX9_looseMany, cX9_looseMany, 3, (some .int), 9, 1, true, km_c193)
def km_c194 : List (Nat × Jvm.ClassFile.Instr) := [(0, .aload_n 0), (1, .getfield 257), (4, .istore_n 3), (5, .iconst 0), (6, .istore 4), (8, .iload 4), (10, .aload_n 0), (11, .getfield 257), (14, .if_icmp .ge 18), (17, .aload_n 0), (18, .getfield 86), (21, .iload 4), (23, .iload 4), (25, .iastore), (26, .iinc 4 1), (29, .goto (-21)), (32, .iconst 0), (33, .istore 4), (35, .iload 4), (37, .aload_n 1), (38, .iconst 1), (39, .iaload), (40, .if_icmp .ge 97), (43, .iconst 4), (44, .iload 4), (46, .imul), (47, .istore 5), (49, .iload_n 2), (50, .iload 4), (52, .invokestatic 250), (55, .istore 6), (57, .iload_n 3), (58, .aload_n 0), (59, .aload_n 0), (60, .getfield 70), (63, .iload 5), (65, .iaload), (66, .aload_n 0), (67, .getfield 70), (70, .iload 5), (72, .iload 6), (74, .ifCond .eq 7), (77, .iconst 3), (78, .goto 4), (81, .iconst 1), (82, .iadd), (83, .iaload), (84, .aload_n 0), (85, .getfield 257), (88, .invokevirtual 273), (91, .isub), (92, .istore_n 3), (93, .iload_n 3), (94, .aload_n 0), (95, .aload_n 0), (96, .getfield 70), (99, .iload 5), (101, .iconst 2), (102, .iadd), (103, .iaload), (104, .aload_n 0), (105, .getfield 70), (108, .iload 5), (110, .iload 6), (112, .ifCond .eq 7), (115, .iconst 1), (116, .goto 4), (119, .iconst 3), (120, .iadd), (121, .iaload), (122, .aload_n 0), (123, .getfield 257), (126, .invokevirtual 273), (129, .isub), (130, .istore_n 3), (131, .iinc 4 1), (134, .goto (-99)), (137, .iload_n 3), (138, .aload_n 1), (139, .invokestatic 334), (142, .iadd), (143, .ireturn)]
def km_q194 : km_Q := (yX9_loopsOf, cX9_loopsOf, 7, (some .int), 9, 3, false, km_c194)
def km_c195 : List (Nat × Jvm.ClassFile.Instr) := [(0, .aload_n 0), (1, .getfield 40), (4, .iconst 0), (5, .iaload), (6, .ifCond .eq 21), (9, .iload_n 1), (10, .iconst 0), (11, .iconst 1), (12, .aload_n 0), (13, .getfield 40), (16, .iconst 1), (17, .iaload), (18, .ishl), (19, .iconst 1), (20, .isub), (21, .invokestatic 246), (24, .ifCond .ne 5), (27, .iconst (-1)), (28, .ireturn), (29, .aload_n 0), (30, .aload_n 0), (31, .getfield 40), (34, .invokevirtual 263), (37, .aload_n 0), (38, .aload_n 0), (39, .getfield 40), (42, .iload_n 1), (43, .invokevirtual 337), (46, .ireturn)]
def km_q195 : km_Q := (yX9_loops, cX9_loops, 2, (some .int), 9, 2, false, km_c195)
def km_c196 : List (Nat × Jvm.ClassFile.Instr) := [(0, .iconst 0), (1, .istore_n 2), (2, .iload_n 2), (3, .sipush 201), (6, .if_icmp .ge 16), (9, .aload_n 0), (10, .getfield 101), (13, .iload_n 2), (14, .iconst 0), (15, .iastore), (16, .iinc 2 1), (19, .goto (-17)), (22, .aload_n 1), (23, .iconst 0), (24, .iaload), (25, .ifCond .ne 4), (28, .return_), (29, .aload_n 0), (30, .aload_n 1), (31, .invokevirtual 263), (34, .iconst 0), (35, .istore_n 2), (36, .iload_n 2), (37, .iconst 1), (38, .aload_n 1), (39, .iconst 1), (40, .iaload), (41, .ishl), (42, .if_icmp .ge 110), (45, .iconst 0), (46, .istore_n 3), (47, .iload_n 3), (48, .sipush 201), (51, .if_icmp .ge 16), (54, .aload_n 0), (55, .getfield 104), (58, .iload_n 3), (59, .iconst 0), (60, .iastore), (61, .iinc 3 1), (64, .goto (-17)), (67, .aload_n 0), (68, .getfield 104), (71, .bipush 100), (73, .aload_n 1), (74, .iconst 1), (75, .iaload), (76, .iadd), (77, .iconst 2), (78, .iload_n 2), (79, .invokestatic 340), (82, .imul), (83, .isub), (84, .iconst 1), (85, .iastore), (86, .aload_n 0), (87, .aload_n 1), (88, .iload_n 2), (89, .invokevirtual 337), (92, .istore_n 3), (93, .iconst 1), (94, .istore 4), (96, .iload 4), (98, .iload_n 3), (99, .if_icmp .ge 13), (102, .aload_n 0), (103, .invokevirtual 343), (106, .iinc 4 1), (109, .goto (-13)), (112, .iconst 0), (113, .istore 4), (115, .iload 4), (117, .sipush 201), (120, .if_icmp .ge 26), (123, .aload_n 0), (124, .getfield 101), (127, .iload 4), (129, .dup2), (130, .iaload), (131, .aload_n 0), (132, .getfield 104), (135, .iload 4), (137, .iaload), (138, .iadd), (139, .iastore), (140, .iinc 4 1), (143, .goto (-28)), (146, .iinc 2 1), (149, .goto (-113)), (152, .return_)]
def km_q196 : km_Q := (yX9_laysBracket, cX9_laysBracket, 5, none, 9, 2, false, km_c196)
def km_c197 : List (Nat × Jvm.ClassFile.Instr) := [(0, .iconst 0), (1, .istore_n 1), (2, .iload_n 1), (3, .sipush 201), (6, .if_icmp .ge 55), (9, .aload_n 0), (10, .getfield 107), (13, .iload_n 1), (14, .iload_n 1), (15, .iconst 1), (16, .if_icmp .le 14), (19, .aload_n 0), (20, .getfield 104), (23, .iload_n 1), (24, .iconst 2), (25, .isub), (26, .iaload), (27, .goto 4), (30, .iconst 0), (31, .ineg), (32, .iload_n 1), (33, .iconst 2), (34, .iadd), (35, .sipush 201), (38, .if_icmp .ge 14), (41, .aload_n 0), (42, .getfield 104), (45, .iload_n 1), (46, .iconst 2), (47, .iadd), (48, .iaload), (49, .goto 4), (52, .iconst 0), (53, .isub), (54, .iastore), (55, .iinc 1 1), (58, .goto (-56)), (61, .iconst 0), (62, .istore_n 1), (63, .iload_n 1), (64, .sipush 201), (67, .if_icmp .ge 21), (70, .aload_n 0), (71, .getfield 104), (74, .iload_n 1), (75, .aload_n 0), (76, .getfield 107), (79, .iload_n 1), (80, .iaload), (81, .iastore), (82, .iinc 1 1), (85, .goto (-22)), (88, .return_)]
def km_q197 : km_Q := (yX9_timesLoop, cX9_timesLoop, 2, none, 9, 1, false, km_c197)
def km_c198 : List (Nat × Jvm.ClassFile.Instr) := [(0, .iconst 0), (1, .istore_n 1), (2, .iconst 0), (3, .istore_n 2), (4, .iload_n 2), (5, .aload_n 0), (6, .iconst 1), (7, .iaload), (8, .if_icmp .ge 18), (11, .iload_n 1), (12, .aload_n 0), (13, .bipush 70), (15, .iload_n 2), (16, .iadd), (17, .iaload), (18, .iadd), (19, .istore_n 1), (20, .iinc 2 1), (23, .goto (-19)), (26, .iload_n 1), (27, .ireturn)]
def km_q198 : km_Q := (yX9_writhe, cX9_writhe, 3, (some .int), 9, 1, true, km_c198)
def km_c199 : List (Nat × Jvm.ClassFile.Instr) := [(0, .aload_n 1), (1, .invokestatic 346), (4, .istore_n 3), (5, .bipush 100), (7, .iload_n 2), (8, .iadd), (9, .iconst 3), (10, .iload_n 3), (11, .imul), (12, .iadd), (13, .istore 4), (15, .iload_n 2), (16, .bipush (-99)), (18, .bipush 99), (20, .invokestatic 246), (23, .ifCond .eq 25), (26, .iload 4), (28, .iconst 0), (29, .sipush 200), (32, .invokestatic 246), (35, .ifCond .eq 13), (38, .aload_n 0), (39, .getfield 101), (42, .iload 4), (44, .iaload), (45, .goto 4), (48, .iconst 0), (49, .istore 5), (51, .iload_n 3), (52, .iconst 2), (53, .irem), (54, .ifCond .ne 8), (57, .iload 5), (59, .goto 6), (62, .iload 5), (64, .ineg), (65, .ireturn)]
def km_q199 : km_Q := (yX9_knottedAt, cX9_knottedAt, 6, (some .int), 9, 3, false, km_c199)
def km_c200 : List (Nat × Jvm.ClassFile.Instr) := [(0, .aload_n 0), (1, .aload_n 0), (2, .getfield 40), (5, .invokevirtual 349), (8, .iload_n 2), (9, .ifCond .eq 13), (12, .aload_n 0), (13, .aload_n 0), (14, .getfield 40), (17, .iload_n 1), (18, .invokevirtual 352), (21, .ireturn), (22, .iload_n 1), (23, .bipush (-100)), (25, .bipush 100), (27, .invokestatic 246), (30, .ifCond .eq 15), (33, .aload_n 0), (34, .getfield 101), (37, .bipush 100), (39, .iload_n 1), (40, .iadd), (41, .iaload), (42, .goto 4), (45, .iconst 0), (46, .ireturn)]
def km_q200 : km_Q := (yX9_coefficient, cX9_coefficient, 3, (some .int), 9, 3, false, km_c200)
def km_c201 : List (Nat × Jvm.ClassFile.Instr) := [(0, .aload_n 0), (1, .aload_n 0), (2, .getfield 40), (5, .invokevirtual 349), (8, .iconst 0), (9, .istore_n 1), (10, .iload_n 1), (11, .sipush 201), (14, .if_icmp .ge 18), (17, .aload_n 0), (18, .getfield 101), (21, .iload_n 1), (22, .iaload), (23, .ifCond .ne 9), (26, .iinc 1 1), (29, .goto (-19)), (32, .sipush 200), (35, .istore_n 2), (36, .iload_n 2), (37, .iload_n 1), (38, .if_icmp .le 18), (41, .aload_n 0), (42, .getfield 101), (45, .iload_n 2), (46, .iaload), (47, .ifCond .ne 9), (50, .iinc 2 (-1)), (53, .goto (-17)), (56, .iload_n 1), (57, .sipush 201), (60, .if_icmp .ne 7), (63, .iconst 0), (64, .goto 6), (67, .iload_n 2), (68, .iload_n 1), (69, .isub), (70, .ireturn)]
def km_q201 : km_Q := (yX9_span, cX9_span, 3, (some .int), 9, 1, false, km_c201)
def km_c202 : List (Nat × Jvm.ClassFile.Instr) := [(0, .iload_n 1), (1, .iconst 0), (2, .aload_n 0), (3, .getfield 40), (6, .iconst 0), (7, .iaload), (8, .iconst 1), (9, .isub), (10, .invokestatic 246), (13, .ifCond .eq 24), (16, .iload_n 2), (17, .iconst 0), (18, .aload_n 0), (19, .getfield 40), (22, .iconst 0), (23, .iaload), (24, .iconst 1), (25, .isub), (26, .invokestatic 246), (29, .ifCond .eq 8), (32, .iload_n 1), (33, .iload_n 2), (34, .if_icmp .ne 7), (37, .ldc_w 327), (40, .ireturn), (41, .aload_n 0), (42, .aload_n 0), (43, .getfield 40), (46, .invokevirtual 263), (49, .iconst 0), (50, .istore_n 3), (51, .iconst 0), (52, .istore 4), (54, .iload 4), (56, .aload_n 0), (57, .getfield 40), (60, .iconst 1), (61, .iaload), (62, .if_icmp .ge 74), (65, .aload_n 0), (66, .getfield 61), (69, .aload_n 0), (70, .iload 4), (72, .iconst 0), (73, .invokevirtual 331), (76, .iaload), (77, .istore 5), (79, .aload_n 0), (80, .getfield 61), (83, .aload_n 0), (84, .iload 4), (86, .iconst 1), (87, .invokevirtual 331), (90, .iaload), (91, .istore 6), (93, .iload 5), (95, .iload_n 1), (96, .if_icmp .ne 9), (99, .iload 6), (101, .iload_n 2), (102, .if_icmp .eq 15), (105, .iload 5), (107, .iload_n 2), (108, .if_icmp .ne 22), (111, .iload 6), (113, .iload_n 1), (114, .if_icmp .ne 16), (117, .iload_n 3), (118, .aload_n 0), (119, .getfield 40), (122, .bipush 70), (124, .iload 4), (126, .iadd), (127, .iaload), (128, .iadd), (129, .istore_n 3), (130, .iinc 4 1), (133, .goto (-79)), (136, .iload_n 3), (137, .iconst 2), (138, .idiv), (139, .ireturn)]
def km_q202 : km_Q := (yX9_winding, cX9_winding, 7, (some .int), 9, 3, false, km_c202)
def km_c203 : List (Nat × Jvm.ClassFile.Instr) := [(0, .aload_n 0), (1, .aload_n 1), (2, .invokevirtual 263), (5, .iconst 0), (6, .istore_n 2), (7, .iconst 0), (8, .istore_n 3), (9, .iload_n 3), (10, .aload_n 0), (11, .getfield 257), (14, .if_icmp .ge 75), (17, .aload_n 0), (18, .getfield 58), (21, .iload_n 3), (22, .iaload), (23, .iconst 2), (24, .irem), (25, .iconst 1), (26, .if_icmp .ne 6), (29, .goto 54), (32, .aload_n 0), (33, .getfield 113), (36, .iload_n 3), (37, .iload_n 2), (38, .iastore), (39, .aload_n 0), (40, .getfield 64), (43, .iload_n 3), (44, .iaload), (45, .istore 4), (47, .aload_n 0), (48, .getfield 58), (51, .iload 4), (53, .iaload), (54, .iconst 2), (55, .irem), (56, .iconst 1), (57, .if_icmp .ne 23), (60, .aload_n 0), (61, .getfield 113), (64, .iload 4), (66, .iload_n 2), (67, .iastore), (68, .aload_n 0), (69, .getfield 64), (72, .iload 4), (74, .iaload), (75, .istore 4), (77, .goto (-30)), (80, .iinc 2 1), (83, .iinc 3 1), (86, .goto (-77)), (89, .iconst 0), (90, .istore_n 3), (91, .iload_n 3), (92, .aload_n 1), (93, .iconst 0), (94, .iaload), (95, .if_icmp .ge 113), (98, .iconst 0), (99, .istore 4), (101, .iconst 0), (102, .istore 5), (104, .iload 5), (106, .aload_n 0), (107, .getfield 257), (110, .if_icmp .ge 44), (113, .iload 4), (115, .ifCond .ne 26), (118, .aload_n 0), (119, .getfield 61), (122, .iload 5), (124, .iaload), (125, .iload_n 3), (126, .if_icmp .ne 19), (129, .aload_n 0), (130, .getfield 58), (133, .iload 5), (135, .iaload), (136, .iconst 2), (137, .irem), (138, .ifCond .ne 7), (141, .iconst 1), (142, .goto 4), (145, .iconst 0), (146, .istore 4), (148, .iinc 5 1), (151, .goto (-47)), (154, .iload 4), (156, .ifCond .eq 6), (159, .goto 43), (162, .iconst 0), (163, .istore 5), (165, .iload 5), (167, .aload_n 0), (168, .getfield 257), (171, .if_icmp .ge 28), (174, .aload_n 0), (175, .getfield 61), (178, .iload 5), (180, .iaload), (181, .iload_n 3), (182, .if_icmp .ne 11), (185, .aload_n 0), (186, .getfield 113), (189, .iload 5), (191, .iload_n 2), (192, .iastore), (193, .iinc 5 1), (196, .goto (-31)), (199, .iinc 2 1), (202, .iinc 3 1), (205, .goto (-114)), (208, .iload_n 2), (209, .ireturn)]
def km_q203 : km_Q := (yX9_laysArcs, cX9_laysArcs, 6, (some .int), 9, 2, false, km_c203)
def km_c204 : List (Nat × Jvm.ClassFile.Instr) := [(0, .aload_n 0), (1, .aload_n 0), (2, .getfield 40), (5, .invokevirtual 328), (8, .istore_n 1), (9, .iconst 0), (10, .istore_n 2), (11, .iload_n 2), (12, .bipush 96), (14, .if_icmp .ge 16), (17, .aload_n 0), (18, .getfield 116), (21, .iload_n 2), (22, .lconst 0), (23, .lastore), (24, .iinc 2 1), (27, .goto (-16)), (30, .iconst 0), (31, .istore_n 2), (32, .iload_n 2), (33, .aload_n 0), (34, .getfield 40), (37, .iconst 1), (38, .iaload), (39, .if_icmp .ge 88), (42, .aload_n 0), (43, .iload_n 2), (44, .iconst 0), (45, .invokevirtual 331), (48, .istore_n 3), (49, .aload_n 0), (50, .getfield 116), (53, .bipush 12), (55, .iload_n 2), (56, .imul), (57, .aload_n 0), (58, .getfield 113), (61, .aload_n 0), (62, .iload_n 2), (63, .iconst 1), (64, .invokevirtual 331), (67, .iaload), (68, .iadd), (69, .dup2), (70, .laload), (71, .ldc2_w 355), (74, .ladd), (75, .lastore), (76, .aload_n 0), (77, .getfield 116), (80, .bipush 12), (82, .iload_n 2), (83, .imul), (84, .aload_n 0), (85, .getfield 113), (88, .iload_n 3), (89, .iaload), (90, .iadd), (91, .dup2), (92, .laload), (93, .lconst 1), (94, .lsub), (95, .lastore), (96, .aload_n 0), (97, .getfield 116), (100, .bipush 12), (102, .iload_n 2), (103, .imul), (104, .aload_n 0), (105, .getfield 113), (108, .aload_n 0), (109, .getfield 67), (112, .iload_n 3), (113, .iaload), (114, .iaload), (115, .iadd), (116, .dup2), (117, .laload), (118, .lconst 1), (119, .lsub), (120, .lastore), (121, .iinc 2 1), (124, .goto (-92)), (127, .iload_n 1), (128, .ireturn)]
def km_q204 : km_Q := (yX9_laysRows, cX9_laysRows, 4, (some .int), 9, 1, false, km_c204)
def km_c205 : List (Nat × Jvm.ClassFile.Instr) := [(0, .iload_n 1), (1, .iconst 2), (2, .if_icmp .eq 35), (5, .iload_n 1), (6, .iconst 3), (7, .if_icmp .eq 30), (10, .iload_n 1), (11, .iconst 5), (12, .if_icmp .eq 25), (15, .iload_n 1), (16, .bipush 7), (18, .if_icmp .eq 19), (21, .iload_n 1), (22, .bipush 11), (24, .if_icmp .eq 13), (27, .iload_n 1), (28, .bipush 13), (30, .if_icmp .eq 7), (33, .ldc2_w 357), (36, .lreturn), (37, .aload_n 0), (38, .invokevirtual 359), (41, .istore_n 2), (42, .aload_n 0), (43, .getfield 40), (46, .iconst 1), (47, .iaload), (48, .istore_n 3), (49, .iconst 0), (50, .istore 4), (52, .iconst 0), (53, .istore 5), (55, .iload 5), (57, .iload_n 2), (58, .if_icmp .ge 100), (61, .iload 4), (63, .istore 6), (65, .iload 6), (67, .iload_n 3), (68, .if_icmp .ge 31), (71, .aload_n 0), (72, .getfield 116), (75, .bipush 12), (77, .iload 6), (79, .imul), (80, .iload 5), (82, .iadd), (83, .laload), (84, .iload_n 1), (85, .invokestatic 363), (88, .lconst 0), (89, .lcmp), (90, .ifCond .ne 9), (93, .iinc 6 1), (96, .goto (-31)), (99, .iload 6), (101, .iload_n 3), (102, .if_icmp .lt 6), (105, .goto 47), (108, .aload_n 0), (109, .iload 6), (111, .iload 4), (113, .invokevirtual 366), (116, .iconst 0), (117, .istore 7), (119, .iload 7), (121, .iload_n 3), (122, .if_icmp .ge 27), (125, .iload 7), (127, .iload 4), (129, .if_icmp .eq 14), (132, .aload_n 0), (133, .iload 7), (135, .iload 4), (137, .iload 5), (139, .iload_n 1), (140, .invokevirtual 369), (143, .iinc 7 1), (146, .goto (-27)), (149, .iinc 4 1), (152, .iinc 5 1), (155, .goto (-100)), (158, .lconst 1), (159, .lstore 5), (161, .iload 4), (163, .istore 7), (165, .iload 7), (167, .iload_n 2), (168, .if_icmp .ge 16), (171, .lload 5), (173, .iload_n 1), (174, .i2l), (175, .lmul), (176, .lstore 5), (178, .iinc 7 1), (181, .goto (-16)), (184, .lload 5), (186, .lreturn)]
def km_q205 : km_Q := (yX9_colourings, cX9_colourings, 8, (some .long), 9, 2, false, km_c205)
def km_c206 : List (Nat × Jvm.ClassFile.Instr) := [(0, .lload_n 0), (1, .iload_n 2), (2, .i2l), (3, .lrem), (4, .iload_n 2), (5, .i2l), (6, .ladd), (7, .iload_n 2), (8, .i2l), (9, .lrem), (10, .lreturn)]
def km_q206 : km_Q := (yX9_rest, cX9_rest, 3, (some .long), 9, 2, true, km_c206)
def km_c207 : List (Nat × Jvm.ClassFile.Instr) := [(0, .iconst 0), (1, .istore_n 3), (2, .iload_n 3), (3, .bipush 12), (5, .if_icmp .ge 57), (8, .aload_n 0), (9, .getfield 116), (12, .bipush 12), (14, .iload_n 1), (15, .imul), (16, .iload_n 3), (17, .iadd), (18, .laload), (19, .lstore 4), (21, .aload_n 0), (22, .getfield 116), (25, .bipush 12), (27, .iload_n 1), (28, .imul), (29, .iload_n 3), (30, .iadd), (31, .aload_n 0), (32, .getfield 116), (35, .bipush 12), (37, .iload_n 2), (38, .imul), (39, .iload_n 3), (40, .iadd), (41, .laload), (42, .lastore), (43, .aload_n 0), (44, .getfield 116), (47, .bipush 12), (49, .iload_n 2), (50, .imul), (51, .iload_n 3), (52, .iadd), (53, .lload 4), (55, .lastore), (56, .iinc 3 1), (59, .goto (-57)), (62, .return_)]
def km_q207 : km_Q := (yX9_exchangesRows, cX9_exchangesRows, 6, none, 9, 3, false, km_c207)
def km_c208 : List (Nat × Jvm.ClassFile.Instr) := [(0, .aload_n 0), (1, .getfield 116), (4, .bipush 12), (6, .iload_n 1), (7, .imul), (8, .iload_n 3), (9, .iadd), (10, .laload), (11, .iload 4), (13, .invokestatic 363), (16, .lstore 5), (18, .aload_n 0), (19, .getfield 116), (22, .bipush 12), (24, .iload_n 2), (25, .imul), (26, .iload_n 3), (27, .iadd), (28, .laload), (29, .iload 4), (31, .invokestatic 363), (34, .lstore 7), (36, .iconst 0), (37, .istore 9), (39, .iload 9), (41, .bipush 12), (43, .if_icmp .ge 57), (46, .aload_n 0), (47, .getfield 116), (50, .bipush 12), (52, .iload_n 1), (53, .imul), (54, .iload 9), (56, .iadd), (57, .aload_n 0), (58, .getfield 116), (61, .bipush 12), (63, .iload_n 1), (64, .imul), (65, .iload 9), (67, .iadd), (68, .laload), (69, .lload 7), (71, .lmul), (72, .aload_n 0), (73, .getfield 116), (76, .bipush 12), (78, .iload_n 2), (79, .imul), (80, .iload 9), (82, .iadd), (83, .laload), (84, .lload 5), (86, .lmul), (87, .lsub), (88, .iload 4), (90, .invokestatic 363), (93, .lastore), (94, .iinc 9 1), (97, .goto (-58)), (100, .return_)]
def km_q208 : km_Q := (yX9_clears, cX9_clears, 10, none, 9, 5, false, km_c208)
def km_c209 : List (Nat × Jvm.ClassFile.Instr) := [(0, .aload_n 0), (1, .getfield 40), (4, .iconst 0), (5, .iaload), (6, .ifCond .ne 5), (9, .lconst 0), (10, .lreturn), (11, .aload_n 0), (12, .getfield 40), (15, .iconst 1), (16, .iaload), (17, .istore_n 1), (18, .iload_n 1), (19, .ifCond .ne 19), (22, .aload_n 0), (23, .getfield 40), (26, .iconst 0), (27, .iaload), (28, .iconst 1), (29, .if_icmp .ne 7), (32, .lconst 1), (33, .goto 4), (36, .lconst 0), (37, .lreturn), (38, .aload_n 0), (39, .invokevirtual 359), (42, .iload_n 1), (43, .if_icmp .le 5), (46, .lconst 0), (47, .lreturn), (48, .lconst 1), (49, .lstore_n 2), (50, .iconst 0), (51, .istore 4), (53, .iload 4), (55, .iload_n 1), (56, .iconst 1), (57, .isub), (58, .if_icmp .ge 185), (61, .iload 4), (63, .istore 5), (65, .iload 5), (67, .iload_n 1), (68, .iconst 1), (69, .isub), (70, .if_icmp .ge 27), (73, .aload_n 0), (74, .getfield 116), (77, .bipush 12), (79, .iload 5), (81, .imul), (82, .iload 4), (84, .iadd), (85, .laload), (86, .lconst 0), (87, .lcmp), (88, .ifCond .ne 9), (91, .iinc 5 1), (94, .goto (-29)), (97, .iload 5), (99, .iload_n 1), (100, .iconst 1), (101, .isub), (102, .if_icmp .ne 5), (105, .lconst 0), (106, .lreturn), (107, .aload_n 0), (108, .iload 5), (110, .iload 4), (112, .invokevirtual 366), (115, .iload 4), (117, .iconst 1), (118, .iadd), (119, .istore 6), (121, .iload 6), (123, .iload_n 1), (124, .iconst 1), (125, .isub), (126, .if_icmp .ge 97), (129, .iload_n 1), (130, .iconst 2), (131, .isub), (132, .istore 7), (134, .iload 7), (136, .iload 4), (138, .if_icmp .le 79), (141, .aload_n 0), (142, .getfield 116), (145, .bipush 12), (147, .iload 6), (149, .imul), (150, .iload 7), (152, .iadd), (153, .aload_n 0), (154, .getfield 116), (157, .bipush 12), (159, .iload 6), (161, .imul), (162, .iload 7), (164, .iadd), (165, .laload), (166, .aload_n 0), (167, .getfield 116), (170, .bipush 12), (172, .iload 4), (174, .imul), (175, .iload 4), (177, .iadd), (178, .laload), (179, .lmul), (180, .aload_n 0), (181, .getfield 116), (184, .bipush 12), (186, .iload 6), (188, .imul), (189, .iload 4), (191, .iadd), (192, .laload), (193, .aload_n 0), (194, .getfield 116), (197, .bipush 12), (199, .iload 4), (201, .imul), (202, .iload 7), (204, .iadd), (205, .laload), (206, .lmul), (207, .lsub), (208, .lload_n 2), (209, .ldiv), (210, .lastore), (211, .iinc 7 (-1)), (214, .goto (-80)), (217, .iinc 6 1), (220, .goto (-99)), (223, .aload_n 0), (224, .getfield 116), (227, .bipush 12), (229, .iload 4), (231, .imul), (232, .iload 4), (234, .iadd), (235, .laload), (236, .lstore_n 2), (237, .iinc 4 1), (240, .goto (-187)), (243, .lload_n 2), (244, .lconst 0), (245, .lcmp), (246, .ifCond .ge 8), (249, .lload_n 2), (250, .lneg), (251, .goto 4), (254, .lload_n 2), (255, .lreturn)]
def km_q209 : km_Q := (yX9_determinant, cX9_determinant, 8, (some .long), 9, 1, false, km_c209)
def km_c210 : List (Nat × Jvm.ClassFile.Instr) := [(0, .iconst (-1)), (1, .istore_n 1), (2, .iconst 0), (3, .istore_n 2), (4, .iload_n 2), (5, .iconst 1), (6, .aload_n 0), (7, .getfield 40), (10, .iconst 1), (11, .iaload), (12, .ishl), (13, .if_icmp .ge 100), (16, .iload_n 1), (17, .ifCond .lt 14), (20, .iload_n 2), (21, .invokestatic 340), (24, .iload_n 1), (25, .if_icmp .lt 6), (28, .goto 79), (31, .aload_n 0), (32, .getfield 40), (35, .aload_n 0), (36, .getfield 98), (39, .invokestatic 209), (42, .iconst 0), (43, .istore_n 3), (44, .iload_n 3), (45, .aload_n 0), (46, .getfield 40), (49, .iconst 1), (50, .iaload), (51, .if_icmp .ge 25), (54, .iload_n 2), (55, .iload_n 3), (56, .invokestatic 250), (59, .ifCond .eq 11), (62, .aload_n 0), (63, .getfield 98), (66, .iload_n 3), (67, .invokestatic 324), (70, .iinc 3 1), (73, .goto (-29)), (76, .aload_n 0), (77, .aload_n 0), (78, .getfield 98), (81, .invokevirtual 321), (84, .istore_n 3), (85, .aload_n 0), (86, .getfield 98), (89, .iconst 1), (90, .iaload), (91, .ifCond .le 6), (94, .goto 13), (97, .iload_n 2), (98, .invokestatic 340), (101, .istore_n 1), (102, .aload_n 0), (103, .iload_n 2), (104, .putfield 373), (107, .iinc 2 1), (110, .goto (-106)), (113, .iload_n 1), (114, .ireturn)]
def km_q210 : km_Q := (yX9_fewestSwitches, cX9_fewestSwitches, 4, (some .int), 9, 1, false, km_c210)
def km_c211 : List (Nat × Jvm.ClassFile.Instr) := [(0, .iload_n 1), (1, .iconst 0), (2, .iconst 1), (3, .invokestatic 246), (6, .ifCond .ne 5), (9, .iconst (-1)), (10, .ireturn), (11, .aload_n 0), (12, .invokevirtual 376), (15, .istore_n 2), (16, .iload_n 2), (17, .ifCond .ge 8), (20, .bipush (-2)), (22, .goto 15), (25, .iload_n 1), (26, .ifCond .ne 7), (29, .iload_n 2), (30, .goto 7), (33, .aload_n 0), (34, .getfield 373), (37, .ireturn)]
def km_q211 : km_Q := (yX9_freed, cX9_freed, 3, (some .int), 9, 2, false, km_c211)
def km_c212 : List (Nat × Jvm.ClassFile.Instr) := [(0, .iconst 0), (1, .istore_n 2), (2, .iload_n 2), (3, .bipush 78), (5, .if_icmp .ge 26), (8, .aload_n 0), (9, .getfield 98), (12, .iload_n 2), (13, .aload_n 0), (14, .getfield 119), (17, .bipush 78), (19, .iload_n 1), (20, .imul), (21, .iload_n 2), (22, .iadd), (23, .iaload), (24, .iastore), (25, .iinc 2 1), (28, .goto (-26)), (31, .aload_n 0), (32, .aload_n 0), (33, .getfield 98), (36, .invokevirtual 321), (39, .istore_n 2), (40, .aload_n 0), (41, .getfield 98), (44, .iconst 1), (45, .iaload), (46, .aload_n 0), (47, .getfield 40), (50, .iconst 1), (51, .iaload), (52, .if_icmp .ge 7), (55, .iconst 1), (56, .goto 4), (59, .iconst 0), (60, .ireturn)]
def km_q212 : km_Q := (yX9_isLooser, cX9_isLooser, 3, (some .boolean), 9, 2, false, km_c212)
def km_c213 : List (Nat × Jvm.ClassFile.Instr) := [(0, .iload_n 1), (1, .iconst 0), (2, .iconst 3), (3, .invokestatic 246), (6, .ifCond .ne 5), (9, .iconst (-1)), (10, .ireturn), (11, .iconst 0), (12, .istore_n 2), (13, .iload_n 2), (14, .bipush 78), (16, .if_icmp .ge 21), (19, .aload_n 0), (20, .getfield 119), (23, .iload_n 2), (24, .aload_n 0), (25, .getfield 40), (28, .iload_n 2), (29, .iaload), (30, .iastore), (31, .iinc 2 1), (34, .goto (-21)), (37, .aload_n 0), (38, .getfield 122), (41, .iconst 0), (42, .iconst 0), (43, .iastore), (44, .iconst 0), (45, .istore_n 2), (46, .aload_n 0), (47, .iconst 0), (48, .invokevirtual 379), (51, .ifCond .eq 5), (54, .iconst 1), (55, .ireturn), (56, .iload_n 2), (57, .ifCond .lt 187), (60, .iconst 0), (61, .istore_n 3), (62, .iload_n 3), (63, .bipush 78), (65, .if_icmp .ge 26), (68, .aload_n 0), (69, .getfield 98), (72, .iload_n 3), (73, .aload_n 0), (74, .getfield 119), (77, .bipush 78), (79, .iload_n 2), (80, .imul), (81, .iload_n 3), (82, .iadd), (83, .iaload), (84, .iastore), (85, .iinc 3 1), (88, .goto (-26)), (91, .aload_n 0), (92, .aload_n 0), (93, .getfield 98), (96, .invokevirtual 277), (99, .istore_n 3), (100, .aload_n 0), (101, .getfield 122), (104, .iload_n 2), (105, .iaload), (106, .iload_n 3), (107, .if_icmp .ge 34), (110, .aload_n 0), (111, .aload_n 0), (112, .getfield 98), (115, .aload_n 0), (116, .getfield 122), (119, .iload_n 2), (120, .iaload), (121, .invokevirtual 290), (124, .iconst 3), (125, .if_icmp .eq 16), (128, .aload_n 0), (129, .getfield 122), (132, .iload_n 2), (133, .dup2), (134, .iaload), (135, .iconst 1), (136, .iadd), (137, .iastore), (138, .goto (-38)), (141, .iload_n 2), (142, .iload_n 1), (143, .if_icmp .eq 13), (146, .aload_n 0), (147, .getfield 122), (150, .iload_n 2), (151, .iaload), (152, .iload_n 3), (153, .if_icmp .lt 9), (156, .iinc 2 (-1)), (159, .goto (-103)), (162, .aload_n 0), (163, .aload_n 0), (164, .getfield 98), (167, .aload_n 0), (168, .getfield 122), (171, .iload_n 2), (172, .iaload), (173, .invokevirtual 318), (176, .aload_n 0), (177, .getfield 122), (180, .iload_n 2), (181, .dup2), (182, .iaload), (183, .iconst 1), (184, .iadd), (185, .iastore), (186, .iinc 2 1), (189, .iconst 0), (190, .istore 4), (192, .iload 4), (194, .bipush 78), (196, .if_icmp .ge 28), (199, .aload_n 0), (200, .getfield 119), (203, .bipush 78), (205, .iload_n 2), (206, .imul), (207, .iload 4), (209, .iadd), (210, .aload_n 0), (211, .getfield 98), (214, .iload 4), (216, .iaload), (217, .iastore), (218, .iinc 4 1), (221, .goto (-29)), (224, .aload_n 0), (225, .getfield 122), (228, .iload_n 2), (229, .iconst 0), (230, .iastore), (231, .aload_n 0), (232, .iload_n 2), (233, .invokevirtual 379), (236, .ifCond .eq 5), (239, .iconst 1), (240, .ireturn), (241, .goto (-185)), (244, .iconst 0), (245, .ireturn)]
def km_q213 : km_Q := (yX9_looser, cX9_looser, 5, (some .int), 9, 2, false, km_c213)
def km_c214 : List (Nat × Jvm.ClassFile.Instr) := [(0, .aload_n 0), (1, .getfield 40), (4, .iconst 0), (5, .iaload), (6, .aload_n 0), (7, .getfield 98), (10, .iconst 0), (11, .iaload), (12, .if_icmp .ne 18), (15, .aload_n 0), (16, .getfield 40), (19, .iconst 1), (20, .iaload), (21, .aload_n 0), (22, .getfield 98), (25, .iconst 1), (26, .iaload), (27, .if_icmp .eq 5), (30, .iconst 0), (31, .ireturn), (32, .iconst 0), (33, .istore_n 1), (34, .iload_n 1), (35, .aload_n 0), (36, .getfield 40), (39, .iconst 0), (40, .iaload), (41, .if_icmp .ge 83), (44, .aload_n 0), (45, .getfield 40), (48, .iconst 2), (49, .iload_n 1), (50, .iadd), (51, .iaload), (52, .aload_n 0), (53, .getfield 98), (56, .iconst 2), (57, .iload_n 1), (58, .iadd), (59, .iaload), (60, .if_icmp .eq 5), (63, .iconst 0), (64, .ireturn), (65, .iconst 0), (66, .istore_n 2), (67, .iload_n 2), (68, .aload_n 0), (69, .getfield 40), (72, .iconst 2), (73, .iload_n 1), (74, .iadd), (75, .iaload), (76, .if_icmp .ge 42), (79, .aload_n 0), (80, .getfield 40), (83, .bipush 6), (85, .bipush 16), (87, .iload_n 1), (88, .imul), (89, .iadd), (90, .iload_n 2), (91, .iadd), (92, .iaload), (93, .aload_n 0), (94, .getfield 98), (97, .bipush 6), (99, .bipush 16), (101, .iload_n 1), (102, .imul), (103, .iadd), (104, .iload_n 2), (105, .iadd), (106, .iaload), (107, .if_icmp .eq 5), (110, .iconst 0), (111, .ireturn), (112, .iinc 2 1), (115, .goto (-48)), (118, .iinc 1 1), (121, .goto (-87)), (124, .iconst 0), (125, .istore_n 1), (126, .iload_n 1), (127, .aload_n 0), (128, .getfield 40), (131, .iconst 1), (132, .iaload), (133, .if_icmp .ge 32), (136, .aload_n 0), (137, .getfield 40), (140, .bipush 70), (142, .iload_n 1), (143, .iadd), (144, .iaload), (145, .aload_n 0), (146, .getfield 98), (149, .bipush 70), (151, .iload_n 1), (152, .iadd), (153, .iaload), (154, .if_icmp .eq 5), (157, .iconst 0), (158, .ireturn), (159, .iinc 1 1), (162, .goto (-36)), (165, .iconst 1), (166, .ireturn)]
def km_q214 : km_Q := (yX9_areRowsAlike, cX9_areRowsAlike, 3, (some .boolean), 9, 1, false, km_c214)
def km_c215 : List (Nat × Jvm.ClassFile.Instr) := [(0, .aload_n 0), (1, .iload_n 1), (2, .invokevirtual 312), (5, .ifCond .eq 12), (8, .iload_n 2), (9, .iconst 0), (10, .iconst 2), (11, .invokestatic 246), (14, .ifCond .ne 5), (17, .iconst (-1)), (18, .ireturn), (19, .iload_n 2), (20, .iconst 2), (21, .if_icmp .ne 16), (24, .aload_n 0), (25, .invokevirtual 382), (28, .ifCond .eq 7), (31, .iconst 1), (32, .goto 4), (35, .iconst 0), (36, .ireturn), (37, .aload_n 0), (38, .aload_n 0), (39, .getfield 98), (42, .invokevirtual 349), (45, .bipush (-99)), (47, .istore_n 3), (48, .iload_n 3), (49, .bipush 99), (51, .if_icmp .gt 27), (54, .aload_n 0), (55, .getfield 110), (58, .bipush 100), (60, .iload_n 3), (61, .iadd), (62, .aload_n 0), (63, .aload_n 0), (64, .getfield 98), (67, .iload_n 3), (68, .invokevirtual 352), (71, .iastore), (72, .iinc 3 1), (75, .goto (-27)), (78, .aload_n 0), (79, .aload_n 0), (80, .getfield 40), (83, .invokevirtual 349), (86, .bipush (-99)), (88, .istore_n 3), (89, .iload_n 3), (90, .bipush 99), (92, .if_icmp .gt 41), (95, .aload_n 0), (96, .aload_n 0), (97, .getfield 40), (100, .iload_n 3), (101, .invokevirtual 352), (104, .aload_n 0), (105, .getfield 110), (108, .bipush 100), (110, .iload_n 2), (111, .ifCond .ne 7), (114, .iload_n 3), (115, .goto 5), (118, .iload_n 3), (119, .ineg), (120, .iadd), (121, .iaload), (122, .if_icmp .eq 5), (125, .iconst 0), (126, .ireturn), (127, .iinc 3 1), (130, .goto (-41)), (133, .iconst 1), (134, .ireturn)]
def km_q215 : km_Q := (yX9_alike, cX9_alike, 4, (some .int), 9, 3, false, km_c215)
def km_c216 : List (Nat × Jvm.ClassFile.Instr) := [(0, .aload_n 0), (1, .aload_n 0), (2, .getfield 40), (5, .invokevirtual 263), (8, .iconst 0), (9, .istore_n 1), (10, .iload_n 1), (11, .aload_n 0), (12, .getfield 257), (15, .if_icmp .ge 35), (18, .aload_n 0), (19, .getfield 58), (22, .iload_n 1), (23, .iaload), (24, .iconst 2), (25, .irem), (26, .aload_n 0), (27, .getfield 58), (30, .aload_n 0), (31, .getfield 64), (34, .iload_n 1), (35, .iaload), (36, .iaload), (37, .iconst 2), (38, .irem), (39, .if_icmp .ne 5), (42, .iconst 0), (43, .ireturn), (44, .iinc 1 1), (47, .goto (-37)), (50, .iconst 1), (51, .ireturn)]
def km_q216 : km_Q := (yX9_takeTurns, cX9_takeTurns, 2, (some .int), 9, 1, false, km_c216)
def km_c217 : List (Nat × Jvm.ClassFile.Instr) := [(0, .iload_n 1), (1, .tableswitch 238 0 16 #[83, 90, 97, 106, 115, 124, 132, 141, 147, 152, 160, 166, 172, 178, 183, 188, 193]), (84, .aload_n 0), (85, .getfield 40), (88, .iconst 0), (89, .iaload), (90, .ireturn), (91, .aload_n 0), (92, .getfield 40), (95, .iconst 1), (96, .iaload), (97, .ireturn), (98, .iconst 2), (99, .aload_n 0), (100, .getfield 40), (103, .iconst 1), (104, .iaload), (105, .imul), (106, .ireturn), (107, .aload_n 0), (108, .aload_n 0), (109, .getfield 40), (112, .invokevirtual 277), (115, .ireturn), (116, .aload_n 0), (117, .aload_n 0), (118, .getfield 40), (121, .invokevirtual 281), (124, .ireturn), (125, .aload_n 0), (126, .getfield 40), (129, .invokestatic 346), (132, .ireturn), (133, .aload_n 0), (134, .aload_n 0), (135, .getfield 40), (138, .invokevirtual 328), (141, .ireturn), (142, .aload_n 0), (143, .invokevirtual 386), (146, .l2i), (147, .ireturn), (148, .aload_n 0), (149, .invokevirtual 390), (152, .ireturn), (153, .aload_n 0), (154, .getfield 40), (157, .invokestatic 334), (160, .ireturn), (161, .aload_n 0), (162, .iconst 1), (163, .invokevirtual 393), (166, .ireturn), (167, .aload_n 0), (168, .iconst 2), (169, .invokevirtual 393), (172, .ireturn), (173, .aload_n 0), (174, .iconst 3), (175, .invokevirtual 393), (178, .ireturn), (179, .aload_n 0), (180, .invokevirtual 396), (183, .ireturn), (184, .aload_n 0), (185, .getfield 129), (188, .ireturn), (189, .aload_n 0), (190, .getfield 213), (193, .ireturn), (194, .aload_n 0), (195, .getfield 95), (198, .iconst 0), (199, .baload), (200, .ifCond .eq 7), (203, .iconst 1), (204, .goto 4), (207, .iconst 0), (208, .aload_n 0), (209, .getfield 95), (212, .iconst 1), (213, .baload), (214, .ifCond .eq 7), (217, .iconst 1), (218, .goto 4), (221, .iconst 0), (222, .iadd), (223, .aload_n 0), (224, .getfield 95), (227, .iconst 2), (228, .baload), (229, .ifCond .eq 7), (232, .iconst 1), (233, .goto 4), (236, .iconst 0), (237, .iadd), (238, .ireturn), (239, .ldc_w 327), (242, .ireturn)]
def km_q217 : km_Q := (yX9_count, cX9_count, 2, (some .int), 9, 2, false, km_c217)
def km_c218 : List (Nat × Jvm.ClassFile.Instr) := [(0, .iload_n 0), (1, .iload_n 0), (2, .iconst 1), (3, .iushr), (4, .ldc_w 265), (7, .iand), (8, .isub), (9, .istore_n 0), (10, .iload_n 0), (11, .ldc_w 266), (14, .iand), (15, .iload_n 0), (16, .iconst 2), (17, .iushr), (18, .ldc_w 266), (21, .iand), (22, .iadd), (23, .istore_n 0), (24, .iload_n 0), (25, .iload_n 0), (26, .iconst 4), (27, .iushr), (28, .iadd), (29, .ldc_w 267), (32, .iand), (33, .istore_n 0), (34, .iload_n 0), (35, .iload_n 0), (36, .bipush 8), (38, .iushr), (39, .iadd), (40, .istore_n 0), (41, .iload_n 0), (42, .iload_n 0), (43, .bipush 16), (45, .iushr), (46, .iadd), (47, .istore_n 0), (48, .iload_n 0), (49, .bipush 63), (51, .iand), (52, .ireturn)]
def km_q218 : km_Q := (yJ6_bitCount_0f7a4, cJ6_bitCount_0f7a4, 1, (some .int), 10, 1, true, km_c218)
def km_c219 : List (Nat × Jvm.ClassFile.Instr) := [(0, .lload_n 0), (1, .lload_n 2), (2, .lrem), (3, .lstore 4), (5, .lload_n 0), (6, .lload_n 2), (7, .lxor), (8, .lconst 0), (9, .lcmp), (10, .ifCond .ge 15), (13, .lload 4), (15, .lconst 0), (16, .lcmp), (17, .ifCond .eq 8), (20, .lload 4), (22, .lload_n 2), (23, .ladd), (24, .lreturn), (25, .lload 4), (27, .lreturn)]
def km_q219 : km_Q := (yJ9_floorMod_f86c9, cJ9_floorMod_f86c9, 6, (some .long), 11, 2, true, km_c219)
def km_c220 : List (Nat × Jvm.ClassFile.Instr) := [(0, .lload_n 0), (1, .lconst 0), (2, .lcmp), (3, .ifCond .ge 8), (6, .lload_n 0), (7, .lneg), (8, .goto 4), (11, .lload_n 0), (12, .lreturn)]
def km_q220 : km_Q := (yJ9_abs_067f4, cJ9_abs_067f4, 2, (some .long), 11, 1, true, km_c220)
def km_c221 : List (Nat × Jvm.ClassFile.Instr) := [(0, .iload_n 0), (1, .iload_n 1), (2, .if_icmp .lt 7), (5, .iload_n 0), (6, .goto 4), (9, .iload_n 1), (10, .ireturn)]
def km_q221 : km_Q := (yJ9_max_7cf53, cJ9_max_7cf53, 2, (some .int), 11, 2, true, km_c221)
def km_c222 : List (Nat × Jvm.ClassFile.Instr) := [(0, .iload_n 0), (1, .iload_n 1), (2, .if_icmp .gt 7), (5, .iload_n 0), (6, .goto 4), (9, .iload_n 1), (10, .ireturn)]
def km_q222 : km_Q := (yJ9_min_7cf53, cJ9_min_7cf53, 2, (some .int), 11, 2, true, km_c222)
def km_c223 : List (Nat × Jvm.ClassFile.Instr) := [(0, .new 7), (3, .dup), (4, .invokespecial 9), (7, .astore_n 1), (8, .new 10), (11, .dup), (12, .invokespecial 12), (15, .astore_n 2), (16, .iconst 0), (17, .istore_n 3), (18, .iload_n 3), (19, .aload_n 0), (20, .arraylength), (21, .bipush 6), (23, .isub), (24, .if_icmp .gt 851), (27, .aload_n 0), (28, .iload_n 3), (29, .iaload), (30, .bipush 31), (32, .iand), (33, .tableswitch 836 0 25 #[119, 182, 205, 218, 231, 254, 277, 352, 365, 378, 401, 424, 447, 460, 493, 526, 559, 582, 631, 664, 688, 711, 734, 767, 790, 813]), (152, .aload_n 1), (153, .aload_n 0), (154, .iload_n 3), (155, .iconst 1), (156, .iadd), (157, .iaload), (158, .aload_n 0), (159, .iload_n 3), (160, .iconst 2), (161, .iadd), (162, .iaload), (163, .aload_n 0), (164, .iload_n 3), (165, .iconst 3), (166, .iadd), (167, .iaload), (168, .aload_n 0), (169, .iload_n 3), (170, .iconst 4), (171, .iadd), (172, .iaload), (173, .aload_n 0), (174, .iload_n 3), (175, .iconst 5), (176, .iadd), (177, .iaload), (178, .invokevirtual 13), (181, .aload_n 2), (182, .aload_n 0), (183, .iload_n 3), (184, .iconst 1), (185, .iadd), (186, .iaload), (187, .aload_n 0), (188, .iload_n 3), (189, .iconst 2), (190, .iadd), (191, .iaload), (192, .aload_n 0), (193, .iload_n 3), (194, .iconst 3), (195, .iadd), (196, .iaload), (197, .aload_n 0), (198, .iload_n 3), (199, .iconst 4), (200, .iadd), (201, .iaload), (202, .aload_n 0), (203, .iload_n 3), (204, .iconst 5), (205, .iadd), (206, .iaload), (207, .invokevirtual 17), (210, .if_icmp .eq 659), (213, .iconst 0), (214, .ireturn), (215, .aload_n 1), (216, .aload_n 0), (217, .iload_n 3), (218, .iconst 1), (219, .iadd), (220, .iaload), (221, .invokevirtual 18), (224, .aload_n 2), (225, .aload_n 0), (226, .iload_n 3), (227, .iconst 1), (228, .iadd), (229, .iaload), (230, .invokevirtual 22), (233, .if_icmp .eq 636), (236, .iconst 0), (237, .ireturn), (238, .aload_n 1), (239, .invokevirtual 23), (242, .aload_n 2), (243, .invokevirtual 27), (246, .if_icmp .eq 623), (249, .iconst 0), (250, .ireturn), (251, .aload_n 1), (252, .invokevirtual 28), (255, .aload_n 2), (256, .invokevirtual 31), (259, .if_icmp .eq 610), (262, .iconst 0), (263, .ireturn), (264, .aload_n 1), (265, .aload_n 0), (266, .iload_n 3), (267, .iconst 1), (268, .iadd), (269, .iaload), (270, .invokevirtual 32), (273, .aload_n 2), (274, .aload_n 0), (275, .iload_n 3), (276, .iconst 1), (277, .iadd), (278, .iaload), (279, .invokevirtual 35), (282, .if_icmp .eq 587), (285, .iconst 0), (286, .ireturn), (287, .aload_n 1), (288, .aload_n 0), (289, .iload_n 3), (290, .iconst 1), (291, .iadd), (292, .iaload), (293, .invokevirtual 36), (296, .aload_n 2), (297, .aload_n 0), (298, .iload_n 3), (299, .iconst 1), (300, .iadd), (301, .iaload), (302, .invokevirtual 40), (305, .if_icmp .eq 564), (308, .iconst 0), (309, .ireturn), (310, .aload_n 1), (311, .aload_n 0), (312, .iload_n 3), (313, .iconst 1), (314, .iadd), (315, .iaload), (316, .aload_n 0), (317, .iload_n 3), (318, .iconst 2), (319, .iadd), (320, .iaload), (321, .ifCond .eq 7), (324, .iconst 1), (325, .goto 4), (328, .iconst 0), (329, .aload_n 0), (330, .iload_n 3), (331, .iconst 3), (332, .iadd), (333, .iaload), (334, .ifCond .eq 7), (337, .iconst 1), (338, .goto 4), (341, .iconst 0), (342, .invokevirtual 41), (345, .aload_n 2), (346, .aload_n 0), (347, .iload_n 3), (348, .iconst 1), (349, .iadd), (350, .iaload), (351, .aload_n 0), (352, .iload_n 3), (353, .iconst 2), (354, .iadd), (355, .iaload), (356, .ifCond .eq 7), (359, .iconst 1), (360, .goto 4), (363, .iconst 0), (364, .aload_n 0), (365, .iload_n 3), (366, .iconst 3), (367, .iadd), (368, .iaload), (369, .ifCond .eq 7), (372, .iconst 1), (373, .goto 4), (376, .iconst 0), (377, .invokevirtual 45), (380, .if_icmp .eq 489), (383, .iconst 0), (384, .ireturn), (385, .aload_n 1), (386, .invokevirtual 46), (389, .aload_n 2), (390, .invokevirtual 49), (393, .if_icmp .eq 476), (396, .iconst 0), (397, .ireturn), (398, .aload_n 1), (399, .invokevirtual 50), (402, .aload_n 2), (403, .invokevirtual 54), (406, .if_icmp .eq 463), (409, .iconst 0), (410, .ireturn), (411, .aload_n 1), (412, .aload_n 0), (413, .iload_n 3), (414, .iconst 1), (415, .iadd), (416, .iaload), (417, .invokevirtual 55), (420, .aload_n 2), (421, .aload_n 0), (422, .iload_n 3), (423, .iconst 1), (424, .iadd), (425, .iaload), (426, .invokevirtual 58), (429, .if_icmp .eq 440), (432, .iconst 0), (433, .ireturn), (434, .aload_n 1), (435, .aload_n 0), (436, .iload_n 3), (437, .iconst 1), (438, .iadd), (439, .iaload), (440, .invokevirtual 59), (443, .aload_n 2), (444, .aload_n 0), (445, .iload_n 3), (446, .iconst 1), (447, .iadd), (448, .iaload), (449, .invokevirtual 62), (452, .if_icmp .eq 417), (455, .iconst 0), (456, .ireturn), (457, .aload_n 1), (458, .aload_n 0), (459, .iload_n 3), (460, .iconst 1), (461, .iadd), (462, .iaload), (463, .invokevirtual 63), (466, .aload_n 2), (467, .aload_n 0), (468, .iload_n 3), (469, .iconst 1), (470, .iadd), (471, .iaload), (472, .invokevirtual 66), (475, .if_icmp .eq 394), (478, .iconst 0), (479, .ireturn), (480, .aload_n 1), (481, .invokevirtual 67), (484, .aload_n 2), (485, .invokevirtual 70), (488, .if_icmp .eq 381), (491, .iconst 0), (492, .ireturn), (493, .aload_n 1), (494, .aload_n 0), (495, .iload_n 3), (496, .iconst 1), (497, .iadd), (498, .iaload), (499, .aload_n 0), (500, .iload_n 3), (501, .iconst 2), (502, .iadd), (503, .iaload), (504, .invokevirtual 71), (507, .aload_n 2), (508, .aload_n 0), (509, .iload_n 3), (510, .iconst 1), (511, .iadd), (512, .iaload), (513, .aload_n 0), (514, .iload_n 3), (515, .iconst 2), (516, .iadd), (517, .iaload), (518, .invokevirtual 75), (521, .if_icmp .eq 348), (524, .iconst 0), (525, .ireturn), (526, .aload_n 1), (527, .aload_n 0), (528, .iload_n 3), (529, .iconst 1), (530, .iadd), (531, .iaload), (532, .aload_n 0), (533, .iload_n 3), (534, .iconst 2), (535, .iadd), (536, .iaload), (537, .invokevirtual 76), (540, .aload_n 2), (541, .aload_n 0), (542, .iload_n 3), (543, .iconst 1), (544, .iadd), (545, .iaload), (546, .aload_n 0), (547, .iload_n 3), (548, .iconst 2), (549, .iadd), (550, .iaload), (551, .invokevirtual 79), (554, .if_icmp .eq 315), (557, .iconst 0), (558, .ireturn), (559, .aload_n 1), (560, .aload_n 0), (561, .iload_n 3), (562, .iconst 1), (563, .iadd), (564, .iaload), (565, .aload_n 0), (566, .iload_n 3), (567, .iconst 2), (568, .iadd), (569, .iaload), (570, .invokevirtual 80), (573, .aload_n 2), (574, .aload_n 0), (575, .iload_n 3), (576, .iconst 1), (577, .iadd), (578, .iaload), (579, .aload_n 0), (580, .iload_n 3), (581, .iconst 2), (582, .iadd), (583, .iaload), (584, .invokevirtual 83), (587, .if_icmp .eq 282), (590, .iconst 0), (591, .ireturn), (592, .aload_n 1), (593, .aload_n 0), (594, .iload_n 3), (595, .iconst 1), (596, .iadd), (597, .iaload), (598, .invokevirtual 84), (601, .aload_n 2), (602, .aload_n 0), (603, .iload_n 3), (604, .iconst 1), (605, .iadd), (606, .iaload), (607, .invokevirtual 87), (610, .if_icmp .eq 259), (613, .iconst 0), (614, .ireturn), (615, .aload_n 1), (616, .aload_n 0), (617, .iload_n 3), (618, .iconst 1), (619, .iadd), (620, .iaload), (621, .aload_n 0), (622, .iload_n 3), (623, .iconst 2), (624, .iadd), (625, .iaload), (626, .ifCond .eq 7), (629, .iconst 1), (630, .goto 4), (633, .iconst 0), (634, .invokevirtual 88), (637, .aload_n 2), (638, .aload_n 0), (639, .iload_n 3), (640, .iconst 1), (641, .iadd), (642, .iaload), (643, .aload_n 0), (644, .iload_n 3), (645, .iconst 2), (646, .iadd), (647, .iaload), (648, .ifCond .eq 7), (651, .iconst 1), (652, .goto 4), (655, .iconst 0), (656, .invokevirtual 92), (659, .if_icmp .eq 210), (662, .iconst 0), (663, .ireturn), (664, .aload_n 1), (665, .aload_n 0), (666, .iload_n 3), (667, .iconst 1), (668, .iadd), (669, .iaload), (670, .aload_n 0), (671, .iload_n 3), (672, .iconst 2), (673, .iadd), (674, .iaload), (675, .invokevirtual 93), (678, .aload_n 2), (679, .aload_n 0), (680, .iload_n 3), (681, .iconst 1), (682, .iadd), (683, .iaload), (684, .aload_n 0), (685, .iload_n 3), (686, .iconst 2), (687, .iadd), (688, .iaload), (689, .invokevirtual 96), (692, .if_icmp .eq 177), (695, .iconst 0), (696, .ireturn), (697, .aload_n 1), (698, .aload_n 0), (699, .iload_n 3), (700, .iconst 1), (701, .iadd), (702, .iaload), (703, .invokevirtual 97), (706, .aload_n 2), (707, .aload_n 0), (708, .iload_n 3), (709, .iconst 1), (710, .iadd), (711, .iaload), (712, .invokevirtual 101), (715, .lcmp), (716, .ifCond .eq 153), (719, .iconst 0), (720, .ireturn), (721, .aload_n 1), (722, .aload_n 0), (723, .iload_n 3), (724, .iconst 1), (725, .iadd), (726, .iaload), (727, .invokevirtual 102), (730, .aload_n 2), (731, .aload_n 0), (732, .iload_n 3), (733, .iconst 1), (734, .iadd), (735, .iaload), (736, .invokevirtual 105), (739, .if_icmp .eq 130), (742, .iconst 0), (743, .ireturn), (744, .aload_n 1), (745, .aload_n 0), (746, .iload_n 3), (747, .iconst 1), (748, .iadd), (749, .iaload), (750, .invokevirtual 106), (753, .aload_n 2), (754, .aload_n 0), (755, .iload_n 3), (756, .iconst 1), (757, .iadd), (758, .iaload), (759, .invokevirtual 109), (762, .if_icmp .eq 107), (765, .iconst 0), (766, .ireturn), (767, .aload_n 1), (768, .aload_n 0), (769, .iload_n 3), (770, .iconst 1), (771, .iadd), (772, .iaload), (773, .aload_n 0), (774, .iload_n 3), (775, .iconst 2), (776, .iadd), (777, .iaload), (778, .invokevirtual 110), (781, .aload_n 2), (782, .aload_n 0), (783, .iload_n 3), (784, .iconst 1), (785, .iadd), (786, .iaload), (787, .aload_n 0), (788, .iload_n 3), (789, .iconst 2), (790, .iadd), (791, .iaload), (792, .invokevirtual 113), (795, .if_icmp .eq 74), (798, .iconst 0), (799, .ireturn), (800, .aload_n 1), (801, .aload_n 0), (802, .iload_n 3), (803, .iconst 1), (804, .iadd), (805, .iaload), (806, .invokevirtual 114), (809, .aload_n 2), (810, .aload_n 0), (811, .iload_n 3), (812, .iconst 1), (813, .iadd), (814, .iaload), (815, .invokevirtual 117), (818, .if_icmp .eq 51), (821, .iconst 0), (822, .ireturn), (823, .aload_n 1), (824, .aload_n 0), (825, .iload_n 3), (826, .iconst 1), (827, .iadd), (828, .iaload), (829, .invokevirtual 118), (832, .aload_n 2), (833, .aload_n 0), (834, .iload_n 3), (835, .iconst 1), (836, .iadd), (837, .iaload), (838, .invokevirtual 121), (841, .if_icmp .eq 28), (844, .iconst 0), (845, .ireturn), (846, .aload_n 1), (847, .aload_n 0), (848, .iload_n 3), (849, .iconst 1), (850, .iadd), (851, .iaload), (852, .invokevirtual 122), (855, .aload_n 2), (856, .aload_n 0), (857, .iload_n 3), (858, .iconst 1), (859, .iadd), (860, .iaload), (861, .invokevirtual 125), (864, .if_icmp .eq 5), (867, .iconst 0), (868, .ireturn), (869, .iinc 3 6), (872, .goto (-854)), (875, .iconst 1), (876, .ireturn)]
def km_q223 : km_Q := (yL_law, cL_law, 4, (some .boolean), 12, 1, true, km_c223)
def km_T : List km_Q := [km_q0, km_q1, km_q2, km_q3, km_q4, km_q5, km_q6, km_q7, km_q8, km_q9, km_q10, km_q11, km_q12, km_q13, km_q14, km_q15, km_q16, km_q17, km_q18, km_q19, km_q20, km_q21, km_q22, km_q23, km_q24, km_q25, km_q26, km_q27, km_q28, km_q29, km_q30, km_q31, km_q32, km_q33, km_q34, km_q35, km_q36, km_q37, km_q38, km_q39, km_q40, km_q41, km_q42, km_q43, km_q44, km_q45, km_q46, km_q47, km_q48, km_q49, km_q50, km_q51, km_q52, km_q53, km_q54, km_q55, km_q56, km_q57, km_q58, km_q59, km_q60, km_q61, km_q62, km_q63, km_q64, km_q65, km_q66, km_q67, km_q68, km_q69, km_q70, km_q71, km_q72, km_q73, km_q74, km_q75, km_q76, km_q77, km_q78, km_q79, km_q80, km_q81, km_q82, km_q83, km_q84, km_q85, km_q86, km_q87, km_q88, km_q89, km_q90, km_q91, km_q92, km_q93, km_q94, km_q95, km_q96, km_q97, km_q98, km_q99, km_q100, km_q101, km_q102, km_q103, km_q104, km_q105, km_q106, km_q107, km_q108, km_q109, km_q110, km_q111, km_q112, km_q113, km_q114, km_q115, km_q116, km_q117, km_q118, km_q119, km_q120, km_q121, km_q122, km_q123, km_q124, km_q125, km_q126, km_q127, km_q128, km_q129, km_q130, km_q131, km_q132, km_q133, km_q134, km_q135, km_q136, km_q137, km_q138, km_q139, km_q140, km_q141, km_q142, km_q143, km_q144, km_q145, km_q146, km_q147, km_q148, km_q149, km_q150, km_q151, km_q152, km_q153, km_q154, km_q155, km_q156, km_q157, km_q158, km_q159, km_q160, km_q161, km_q162, km_q163, km_q164, km_q165, km_q166, km_q167, km_q168, km_q169, km_q170, km_q171, km_q172, km_q173, km_q174, km_q175, km_q176, km_q177, km_q178, km_q179, km_q180, km_q181, km_q182, km_q183, km_q184, km_q185, km_q186, km_q187, km_q188, km_q189, km_q190, km_q191, km_q192, km_q193, km_q194, km_q195, km_q196, km_q197, km_q198, km_q199, km_q200, km_q201, km_q202, km_q203, km_q204, km_q205, km_q206, km_q207, km_q208, km_q209, km_q210, km_q211, km_q212, km_q213, km_q214, km_q215, km_q216, km_q217, km_q218, km_q219, km_q220, km_q221, km_q222, km_q223]
end
section
/-! the constant pools' entries, as the tables say them -/
def km_R : Nat → String
  | 0 => RX0 | 1 => RX1 | 2 => RX2 | 3 => RX3 | 4 => RX4 | 5 => RX5 | 6 => RX6 | 7 => RX7 | 8 => RX8 | 9 => RX9 | 10 => RJ6 | 11 => RJ9 | _ => RL
def km_X : Nat → u_T
  | 0 => TX0 | 1 => TX1 | 2 => TX2 | 3 => TX3 | 4 => TX4 | 5 => TX5 | 6 => TX6 | 7 => TX7 | 8 => TX8 | _ => TX9
def km_N : Nat → Nat
  | 0 => 3 | 1 => 3 | 2 => 11 | 3 => 3 | 4 => 18 | 5 => 5 | 6 => 2 | 7 => 6 | 8 => 17 | _ => 52
def km_F : List (Nat × Nat × Nat × Nat × Nat) := [(0, 9, 0, 1, 326), (0, 17, 0, 2, 328), (0, 20, 5, 1, 228), (0, 26, 0, 0, 324), (0, 29, 5, 0, 223), (0, 32, 5, 2, 235), (0, 47, 2, 4, 276), (0, 52, 2, 3, 272), (0, 57, 2, 1, 267), (1, 11, 1, 0, 343), (1, 15, 1, 1, 344), (1, 24, 1, 2, 345), (1, 27, 5, 0, 224), (1, 34, 5, 1, 230), (2, 9, 2, 0, 264), (2, 15, 2, 1, 266), (2, 18, 2, 2, 268), (2, 21, 2, 3, 271), (2, 24, 2, 4, 275), (2, 27, 2, 5, 279), (2, 30, 2, 6, 280), (2, 33, 2, 8, 284), (2, 36, 2, 9, 287), (2, 39, 2, 10, 290), (2, 59, 2, 7, 281), (2, 67, 5, 0, 225), (2, 70, 5, 2, 236), (2, 81, 5, 4, 244), (2, 99, 5, 3, 240), (2, 105, 5, 1, 233), (3, 11, 3, 2, 365), (3, 18, 3, 0, 362), (3, 22, 3, 1, 364), (4, 9, 4, 9, 168), (4, 15, 4, 10, 169), (4, 18, 4, 11, 170), (4, 21, 4, 12, 171), (4, 24, 4, 13, 172), (4, 28, 4, 14, 173), (4, 31, 4, 15, 174), (4, 34, 4, 16, 175), (4, 37, 4, 17, 176), (4, 40, 4, 2, 161), (4, 44, 4, 3, 162), (4, 48, 4, 6, 165), (4, 51, 4, 7, 166), (4, 81, 7, 0, 128), (4, 90, 4, 0, 157), (4, 93, 4, 1, 159), (4, 102, 7, 1, 129), (4, 109, 7, 3, 134), (4, 119, 4, 8, 167), (4, 129, 7, 2, 132), (4, 132, 4, 4, 163), (4, 135, 4, 5, 164), (4, 150, 5, 0, 227), (4, 153, 5, 1, 232), (4, 156, 5, 2, 237), (4, 157, 5, 3, 241), (4, 160, 5, 4, 245), (5, 9, 5, 2, 234), (5, 15, 5, 3, 239), (5, 18, 5, 4, 243), (5, 21, 5, 0, 222), (5, 25, 5, 1, 229), (5, 46, 2, 2, 269), (5, 51, 2, 3, 273), (5, 54, 2, 4, 277), (5, 61, 2, 9, 288), (5, 64, 2, 8, 285), (5, 67, 2, 0, 265), (6, 11, 6, 0, 384), (6, 19, 6, 1, 385), (6, 40, 2, 7, 282), (6, 44, 2, 10, 291), (7, 9, 7, 5, 136), (7, 15, 7, 0, 127), (7, 19, 7, 4, 135), (7, 30, 7, 3, 133), (7, 33, 7, 1, 130), (7, 69, 7, 2, 131), (8, 10, 8, 0, 391), (8, 19, 8, 1, 392), (8, 26, 8, 2, 393), (8, 33, 8, 3, 394), (8, 40, 8, 4, 395), (8, 47, 8, 5, 396), (8, 51, 8, 6, 397), (8, 57, 8, 7, 398), (8, 61, 8, 8, 399), (8, 65, 8, 9, 400), (8, 69, 8, 10, 401), (8, 72, 8, 11, 402), (8, 78, 8, 12, 403), (8, 82, 8, 16, 407), (8, 86, 7, 0, 126), (8, 97, 4, 1, 160), (8, 100, 4, 0, 158), (8, 126, 5, 1, 231), (8, 145, 5, 0, 226), (8, 172, 5, 2, 238), (8, 176, 5, 3, 242), (8, 179, 5, 4, 246), (8, 190, 2, 2, 270), (8, 193, 2, 3, 274), (8, 196, 2, 4, 278), (8, 199, 0, 1, 327), (8, 202, 2, 7, 283), (8, 208, 2, 10, 292), (8, 211, 2, 8, 286), (8, 214, 2, 9, 289), (8, 237, 8, 14, 405), (8, 244, 8, 15, 406), (8, 277, 0, 0, 325), (8, 296, 3, 0, 363), (8, 305, 8, 13, 404), (9, 13, 9, 1, 1013), (9, 17, 9, 3, 1015), (9, 20, 9, 5, 1017), (9, 24, 9, 6, 1018), (9, 27, 9, 7, 1019), (9, 30, 9, 8, 1020), (9, 34, 9, 9, 1021), (9, 37, 9, 16, 1028), (9, 40, 9, 17, 1029), (9, 43, 9, 18, 1030), (9, 46, 9, 19, 1031), (9, 49, 9, 22, 1034), (9, 52, 9, 23, 1035), (9, 55, 9, 24, 1036), (9, 58, 9, 26, 1038), (9, 61, 9, 27, 1039), (9, 64, 9, 28, 1040), (9, 67, 9, 29, 1041), (9, 70, 9, 30, 1042), (9, 73, 9, 31, 1043), (9, 77, 9, 33, 1045), (9, 80, 9, 34, 1046), (9, 83, 9, 35, 1047), (9, 86, 9, 36, 1048), (9, 89, 9, 37, 1049), (9, 92, 9, 40, 1052), (9, 95, 9, 41, 1053), (9, 98, 9, 42, 1054), (9, 101, 9, 43, 1055), (9, 104, 9, 44, 1056), (9, 107, 9, 45, 1057), (9, 110, 9, 46, 1058), (9, 113, 9, 47, 1059), (9, 116, 9, 48, 1060), (9, 119, 9, 50, 1062), (9, 122, 9, 51, 1063), (9, 129, 9, 2, 1014), (9, 136, 9, 4, 1016), (9, 145, 9, 10, 1022), (9, 167, 9, 12, 1024), (9, 170, 9, 11, 1023), (9, 173, 9, 13, 1025), (9, 176, 9, 14, 1026), (9, 179, 9, 15, 1027), (9, 194, 9, 20, 1032), (9, 197, 9, 21, 1033), (9, 213, 9, 39, 1051), (9, 257, 9, 25, 1037), (9, 267, 9, 32, 1044), (9, 309, 9, 38, 1050), (9, 373, 9, 49, 1061)]
def km_I : List (Nat × Nat × Nat × Nat × Nat) := [(0, 3, 4, 0, 321), (0, 35, 1, 62, 688), (0, 39, 1, 2, 689), (0, 43, 1, 3, 693), (0, 60, 1, 4, 892), (0, 64, 1, 6, 975), (0, 68, 0, 220, 979), (0, 74, 1, 7, 904), (0, 78, 1, 8, 908), (0, 82, 0, 219, 897), (0, 86, 1, 10, 900), (0, 90, 1, 11, 912), (1, 3, 4, 0, 342), (1, 18, 1, 63, 855), (1, 30, 1, 14, 859), (1, 37, 1, 15, 866), (1, 41, 1, 60, 863), (1, 44, 1, 35, 864), (1, 50, 0, 218, 865), (1, 56, 1, 16, 874), (1, 59, 1, 17, 956), (2, 3, 4, 0, 263), (2, 42, 1, 22, 610), (2, 46, 1, 23, 614), (2, 49, 1, 59, 618), (2, 55, 1, 25, 634), (2, 63, 1, 26, 638), (2, 73, 1, 61, 622), (2, 77, 1, 62, 626), (2, 84, 1, 24, 630), (2, 88, 1, 27, 642), (2, 91, 1, 28, 646), (2, 94, 0, 218, 650), (2, 102, 1, 33, 664), (2, 108, 1, 32, 660), (2, 112, 1, 64, 839), (3, 3, 4, 0, 358), (3, 17, 3, 56, 361), (3, 25, 1, 57, 713), (3, 29, 0, 222, 714), (4, 3, 4, 0, 156), (4, 54, 1, 43, 463), (4, 58, 1, 53, 582), (4, 62, 1, 54, 586), (4, 66, 1, 50, 594), (4, 69, 1, 52, 602), (4, 72, 1, 21, 606), (4, 77, 1, 34, 656), (4, 86, 1, 42, 552), (4, 96, 1, 81, 467), (4, 99, 1, 82, 471), (4, 105, 0, 44, 556), (4, 112, 1, 45, 559), (4, 116, 1, 46, 563), (4, 122, 1, 47, 567), (4, 126, 1, 48, 571), (4, 138, 1, 49, 575), (4, 141, 0, 221, 579), (4, 146, 1, 51, 598), (4, 163, 1, 55, 590), (5, 3, 4, 0, 221), (5, 28, 5, 0, 676), (5, 34, 1, 59, 748), (5, 38, 1, 62, 995), (5, 42, 1, 61, 722), (5, 57, 1, 69, 735), (5, 70, 0, 72, 723), (5, 74, 0, 218, 726), (5, 79, 1, 21, 757), (5, 83, 1, 31, 758), (5, 86, 1, 28, 762), (5, 89, 1, 71, 763), (6, 3, 4, 0, 378), (6, 23, 3, 56, 382), (6, 24, 3, 20, 383), (6, 25, 1, 57, 937), (6, 29, 0, 78, 938), (6, 33, 1, 21, 941), (6, 36, 1, 31, 942), (6, 48, 1, 68, 943), (7, 3, 4, 0, 125), (7, 22, 1, 86, 475), (7, 26, 0, 87, 479), (7, 36, 0, 88, 482), (7, 39, 1, 83, 485), (7, 42, 0, 89, 545), (7, 45, 1, 85, 548), (7, 50, 1, 84, 490), (7, 60, 6, 0, 494), (7, 65, 7, 0, 504), (8, 1, 4, 0, 117), (8, 9, 3, 79, 122), (8, 18, 3, 40, 153), (8, 25, 3, 56, 218), (8, 32, 3, 20, 260), (8, 39, 3, 0, 318), (8, 46, 3, 12, 339), (8, 56, 2, 36, 355), (8, 77, 2, 76, 375), (8, 89, 1, 80, 447), (8, 93, 1, 41, 459), (8, 103, 1, 37, 668), (8, 106, 1, 57, 672), (8, 110, 1, 117, 679), (8, 113, 1, 120, 705), (8, 117, 1, 38, 709), (8, 120, 1, 28, 717), (8, 123, 1, 71, 718), (8, 129, 1, 68, 731), (8, 133, 1, 59, 743), (8, 137, 1, 70, 744), (8, 141, 1, 73, 753), (8, 148, 1, 60, 768), (8, 151, 1, 66, 772), (8, 154, 1, 67, 780), (8, 158, 1, 118, 792), (8, 162, 1, 74, 796), (8, 166, 1, 75, 800), (8, 169, 1, 39, 808), (8, 182, 1, 61, 816), (8, 186, 1, 29, 822), (8, 205, 1, 27, 830), (8, 217, 1, 35, 835), (8, 221, 1, 121, 847), (8, 225, 1, 17, 870), (8, 228, 1, 16, 878), (8, 233, 1, 9, 888), (8, 241, 1, 122, 920), (8, 247, 0, 218, 924), (8, 252, 1, 77, 933), (8, 256, 1, 58, 948), (8, 259, 1, 21, 683), (8, 262, 1, 13, 851), (8, 266, 1, 18, 952), (8, 270, 1, 32, 969), (8, 274, 1, 63, 970), (8, 279, 1, 5, 971), (8, 283, 1, 19, 982), (8, 286, 1, 64, 986), (8, 289, 1, 30, 987), (8, 292, 1, 65, 991), (8, 299, 1, 119, 996), (8, 302, 1, 1, 684), (8, 308, 1, 123, 925), (9, 7, 4, 0, 1005), (9, 125, 0, 132, 1006), (9, 132, 1, 126, 1173), (9, 141, 0, 131, 1009), (9, 148, 1, 128, 1189), (9, 152, 1, 133, 1193), (9, 156, 0, 130, 1197), (9, 160, 0, 129, 1200), (9, 163, 1, 135, 1203), (9, 182, 1, 137, 1219), (9, 185, 1, 136, 1207), (9, 188, 1, 139, 1215), (9, 191, 1, 134, 1185), (9, 200, 1, 143, 1211), (9, 203, 1, 144, 1227), (9, 206, 1, 147, 1239), (9, 209, 0, 156, 1300), (9, 216, 1, 140, 1223), (9, 219, 1, 146, 1231), (9, 222, 1, 145, 1235), (9, 225, 1, 151, 1243), (9, 228, 1, 148, 1264), (9, 231, 1, 150, 1268), (9, 234, 1, 164, 1272), (9, 238, 1, 138, 1250), (9, 242, 0, 149, 1261), (9, 246, 0, 153, 1247), (9, 250, 0, 154, 1254), (9, 254, 1, 152, 1257), (9, 260, 1, 158, 1284), (9, 263, 1, 157, 1280), (9, 270, 1, 159, 1288), (9, 273, 1, 163, 1296), (9, 277, 1, 161, 1276), (9, 281, 1, 162, 1292), (9, 284, 1, 160, 1331), (9, 287, 1, 165, 1335), (9, 290, 1, 166, 1327), (9, 293, 0, 169, 1347), (9, 297, 1, 168, 1378), (9, 300, 1, 170, 1343), (9, 303, 1, 174, 1358), (9, 306, 1, 172, 1362), (9, 312, 1, 179, 1319), (9, 315, 1, 176, 1339), (9, 318, 1, 173, 1354), (9, 321, 1, 171, 1374), (9, 324, 0, 175, 1386), (9, 328, 1, 203, 1410), (9, 331, 1, 190, 1414), (9, 334, 0, 193, 1430), (9, 337, 1, 194, 1426), (9, 340, 0, 155, 1441), (9, 343, 1, 197, 1444), (9, 346, 0, 198, 1452), (9, 349, 1, 196, 1437), (9, 352, 1, 199, 1448), (9, 359, 1, 204, 1464), (9, 363, 0, 206, 1469), (9, 366, 1, 207, 1472), (9, 369, 1, 208, 1476), (9, 376, 1, 210, 1484), (9, 379, 1, 212, 1492), (9, 382, 1, 214, 1500), (9, 386, 1, 209, 1508), (9, 390, 1, 201, 1512), (9, 393, 1, 167, 1516), (9, 396, 1, 216, 1520), (12, 9, 2, 90, 114), (12, 12, 2, 124, 1002), (12, 13, 1, 91, 443), (12, 17, 1, 125, 1169), (12, 18, 1, 92, 451), (12, 22, 1, 127, 1177), (12, 23, 1, 93, 455), (12, 27, 1, 141, 1181), (12, 28, 1, 94, 697), (12, 31, 1, 142, 1303), (12, 32, 1, 95, 701), (12, 35, 1, 181, 1323), (12, 36, 1, 96, 727), (12, 40, 1, 182, 1350), (12, 41, 1, 97, 739), (12, 45, 1, 183, 1366), (12, 46, 1, 98, 749), (12, 49, 1, 184, 1370), (12, 50, 1, 99, 764), (12, 54, 1, 185, 1382), (12, 55, 1, 100, 776), (12, 58, 1, 186, 1389), (12, 59, 1, 101, 784), (12, 62, 1, 187, 1393), (12, 63, 1, 102, 788), (12, 66, 1, 188, 1397), (12, 67, 1, 103, 804), (12, 70, 1, 177, 1307), (12, 71, 1, 104, 812), (12, 75, 1, 189, 1401), (12, 76, 1, 105, 817), (12, 79, 1, 191, 1405), (12, 80, 1, 106, 826), (12, 83, 1, 192, 1418), (12, 84, 1, 107, 831), (12, 87, 1, 195, 1422), (12, 88, 1, 108, 843), (12, 92, 1, 200, 1433), (12, 93, 1, 109, 879), (12, 96, 1, 202, 1455), (12, 97, 1, 110, 883), (12, 101, 1, 205, 1459), (12, 102, 1, 111, 916), (12, 105, 1, 211, 1480), (12, 106, 1, 112, 929), (12, 109, 1, 213, 1488), (12, 110, 1, 113, 944), (12, 113, 1, 215, 1496), (12, 114, 1, 114, 957), (12, 117, 1, 178, 1311), (12, 118, 1, 115, 961), (12, 121, 1, 180, 1315), (12, 122, 1, 116, 965), (12, 125, 1, 217, 1504)]
def km_W : List (Nat × Nat × Nat × Nat) := [(0, 15, 16, 322), (3, 9, 5, 359), (6, 9, 5, 379), (6, 17, 2, 380), (8, 7, 7, 120), (8, 16, 4, 151), (8, 23, 5, 216), (8, 30, 2, 258), (8, 37, 0, 316), (8, 44, 1, 337), (8, 54, 3, 353), (8, 75, 6, 373), (12, 7, 8, 112), (12, 10, 9, 1000)]
def km_okF (e : Nat × Nat × Nat × Nat × Nat) : Bool := let w : Cond := .fieldLink (km_R e.1) e.2.1 (km_R e.2.2.1) (km_X e.2.2.1 e.2.2.2.1).2.1 (km_X e.2.2.1 e.2.2.2.1).2.2.1
  decide (lw_tbl[e.2.2.2.2]? = some w) && goodWord w && Nat.blt e.2.2.2.1 (km_N e.2.2.1) && Nat.blt e.2.2.1 10
set_option maxRecDepth 100000 in
set_option maxHeartbeats 4000000 in
theorem km_F_ok : km_F.all km_okF = true := by decide +kernel
end
section
def km_W5 : List (Nat × Nat × Nat × Nat × Nat) := [(0, 15, 16, 0, 322), (3, 9, 5, 0, 359), (6, 9, 5, 0, 379), (6, 17, 2, 0, 380), (8, 7, 7, 0, 120), (8, 16, 4, 0, 151), (8, 23, 5, 0, 216), (8, 30, 2, 0, 258), (8, 37, 0, 0, 316), (8, 44, 1, 0, 337), (8, 54, 3, 0, 353), (8, 75, 6, 0, 373), (12, 7, 8, 0, 112), (12, 10, 9, 0, 1000)]
def km_okF2 (e : Nat × Nat × Nat × Nat × Nat) : Bool := decide ((km_X e.2.2.1 e.2.2.2.1).1 = km_R e.2.2.1)
set_option maxRecDepth 100000 in
theorem km_F2_ok : km_F.all km_okF2 = true := by decide +kernel
def km_Lp : List (Nat × Nat × Nat) := [(0, 0, 329), (0, 1, 331), (0, 2, 333), (1, 0, 346), (1, 1, 348), (1, 2, 350), (2, 0, 293), (2, 1, 295), (2, 2, 297), (2, 3, 299), (2, 4, 301), (2, 5, 303), (2, 6, 305), (2, 7, 307), (2, 8, 309), (2, 9, 311), (2, 10, 313), (3, 0, 366), (3, 1, 368), (3, 2, 370), (4, 0, 177), (4, 1, 179), (4, 2, 181), (4, 3, 183), (4, 4, 185), (4, 5, 187), (4, 6, 189), (4, 7, 191), (4, 8, 193), (4, 9, 195), (4, 10, 197), (4, 11, 199), (4, 12, 201), (4, 13, 203), (4, 14, 205), (4, 15, 207), (4, 16, 209), (4, 17, 211), (5, 0, 247), (5, 1, 249), (5, 2, 251), (5, 3, 253), (5, 4, 255), (6, 0, 386), (6, 1, 388), (7, 0, 137), (7, 1, 139), (7, 2, 141), (7, 3, 143), (7, 4, 145), (7, 5, 147), (8, 0, 408), (8, 1, 410), (8, 2, 412), (8, 3, 414), (8, 4, 416), (8, 5, 418), (8, 6, 420), (8, 7, 422), (8, 8, 424), (8, 9, 426), (8, 10, 428), (8, 11, 430), (8, 12, 432), (8, 13, 434), (8, 14, 436), (8, 15, 438), (8, 16, 440), (9, 0, 1064), (9, 1, 1066), (9, 2, 1068), (9, 3, 1070), (9, 4, 1072), (9, 5, 1074), (9, 6, 1076), (9, 7, 1078), (9, 8, 1080), (9, 9, 1082), (9, 10, 1084), (9, 11, 1086), (9, 12, 1088), (9, 13, 1090), (9, 14, 1092), (9, 15, 1094), (9, 16, 1096), (9, 17, 1098), (9, 18, 1100), (9, 19, 1102), (9, 20, 1104), (9, 21, 1106), (9, 22, 1108), (9, 23, 1110), (9, 24, 1112), (9, 25, 1114), (9, 26, 1116), (9, 27, 1118), (9, 28, 1120), (9, 29, 1122), (9, 30, 1124), (9, 31, 1126), (9, 32, 1128), (9, 33, 1130), (9, 34, 1132), (9, 35, 1134), (9, 36, 1136), (9, 37, 1138), (9, 38, 1140), (9, 39, 1142), (9, 40, 1144), (9, 41, 1146), (9, 42, 1148), (9, 43, 1150), (9, 44, 1152), (9, 45, 1154), (9, 46, 1156), (9, 47, 1158), (9, 48, 1160), (9, 49, 1162), (9, 50, 1164), (9, 51, 1166)]
def km_okL (e : Nat × Nat × Nat) : Bool := decide (lw_tbl[e.2.2]? = some (u_lay (km_R e.1) (km_X e.1) e.2.1)) && goodWord (u_lay (km_R e.1) (km_X e.1) e.2.1)
set_option maxRecDepth 100000 in
set_option maxHeartbeats 4000000 in
theorem km_L_ok : km_Lp.all km_okL = true := by decide +kernel
set_option maxRecDepth 100000 in
theorem km_L_all : (List.range 10).all (fun k => (List.range (km_N k)).all (fun j => km_Lp.any (fun e => Nat.beq e.1 k && Nat.beq e.2.1 j))) = true := by decide +kernel
end
section
/-! AN INTERPRETER of the methods' bytecode over a plain memory, and (behind it) the proof that the machine follows it.
A cell: its kind (0 .. 9 a class's object, 10 .. 16 an array of byte, int, long, boolean, Drawing, Rows, long[]), how many places, what they hold. -/
abbrev km_C : Type := Nat × Nat × (Nat → Value)
abbrev km_M : Type := List km_C
abbrev km_L : Type := List (Option Value)
abbrev KI : Type := Jvm.ClassFile.Instr
def km_at : List (Nat × KI) → Nat → Option KI
  | [], _ => none
  | e :: t, pc => cond (Nat.beq e.1 pc) (some e.2) (km_at t pc)
theorem km_at_mem {l : List (Nat × KI)} {pc : Nat} {i : KI} (h : km_at l pc = some i) : (pc, i) ∈ l := by
  induction l with
  | nil => cases h
  | cons e t ih =>
    unfold km_at at h
    cases hb : Nat.beq e.1 pc with
    | false => rw [hb] at h; exact List.mem_cons_of_mem _ (ih h)
    | true =>
      rw [hb] at h
      have h1 : e.1 = pc := Nat.eq_of_beq_eq_true hb
      have h2 : e.2 = i := Option.some.inj h
      subst h1; subst h2
      exact List.mem_cons_self
def km_fF : List (Nat × Nat × Nat × Nat × Nat) → Nat → Nat → Option (Nat × Nat × Nat)
  | [], _, _ => none
  | e :: t, c, i => cond (Nat.beq e.1 c && Nat.beq e.2.1 i) (some e.2.2) (km_fF t c i)
theorem km_fF_mem {l : List (Nat × Nat × Nat × Nat × Nat)} {c i : Nat} {r : Nat × Nat × Nat} (h : km_fF l c i = some r) : (c, i, r) ∈ l := by
  induction l with
  | nil => cases h
  | cons e t ih =>
    unfold km_fF at h
    cases hb : (Nat.beq e.1 c && Nat.beq e.2.1 i) with
    | false => rw [hb] at h; exact List.mem_cons_of_mem _ (ih h)
    | true =>
      rw [hb] at h
      rw [Bool.and_eq_true] at hb
      have h1 : e.1 = c := Nat.eq_of_beq_eq_true hb.1
      have h3 : e.2.1 = i := Nat.eq_of_beq_eq_true hb.2
      have h2 : e.2.2 = r := Option.some.inj h
      subst h1; subst h2; subst h3
      exact List.mem_cons_self
def km_scr : Nat := 1000000
/-- constants of the pools: ints, longs, texts -/
def km_kc (c i : Nat) : Option Value :=
  match c with
  | 0 => cond (Nat.beq i 55) (some (.long 2)) none
  | 7 => cond (Nat.beq i 48) (some (.ref 1000001)) (cond (Nat.beq i 54) (some (.ref 1000002)) (cond (Nat.beq i 56) (some (.ref 1000003)) (cond (Nat.beq i 58) (some (.ref 1000004)) none)))
  | 8 => cond (Nat.beq i 185) (some (.int (-100000))) (cond (Nat.beq i 231) (some (.long (-1))) none)
  | 9 => cond (Nat.beq i 139) (some (.long 27)) (cond (Nat.beq i 327) (some (.int (-100000))) (cond (Nat.beq i 355) (some (.long 2)) (cond (Nat.beq i 357) (some (.long (-1))) none)))
  | 10 => cond (Nat.beq i 265) (some (.int 1431655765)) (cond (Nat.beq i 266) (some (.int 858993459)) (cond (Nat.beq i 267) (some (.int 252645135)) none))
  | _ => none
def km_i1 (f : Int32 → Value) : List Value → Option (List Value)
  | .int x :: r => some (f x :: r)
  | _ => none
def km_l1 (f : Int64 → Value) : List Value → Option (List Value)
  | .long x :: r => some (f x :: r)
  | _ => none
def km_ii (f : Int32 → Int32 → Option Value) : List Value → Option (List Value)
  | .int y :: .int x :: r => match f x y with | some v => some (v :: r) | none => none
  | _ => none
def km_ll (f : Int64 → Int64 → Option Value) : List Value → Option (List Value)
  | .long y :: .long x :: r => match f x y with | some v => some (v :: r) | none => none
  | _ => none
def km_li (f : Int64 → Int32 → Option Value) : List Value → Option (List Value)
  | .int y :: .long x :: r => match f x y with | some v => some (v :: r) | none => none
  | _ => none
theorem km_i1_s {f : Int32 → Value} {st st' : List Value} (h : km_i1 f st = some st') : ∃ x r, st = .int x :: r ∧ st' = f x :: r := by
  unfold km_i1 at h
  split at h
  · exact ⟨_, _, rfl, (Option.some.inj h).symm⟩
  · cases h
theorem km_l1_s {f : Int64 → Value} {st st' : List Value} (h : km_l1 f st = some st') : ∃ x r, st = .long x :: r ∧ st' = f x :: r := by
  unfold km_l1 at h
  split at h
  · exact ⟨_, _, rfl, (Option.some.inj h).symm⟩
  · cases h
theorem km_ii_s {f : Int32 → Int32 → Option Value} {st st' : List Value} (h : km_ii f st = some st') : ∃ x y v r, st = .int y :: .int x :: r ∧ f x y = some v ∧ st' = v :: r := by
  unfold km_ii at h
  split at h
  · split at h
    · exact ⟨_, _, _, _, rfl, by assumption, (Option.some.inj h).symm⟩
    · cases h
  · cases h
theorem km_ll_s {f : Int64 → Int64 → Option Value} {st st' : List Value} (h : km_ll f st = some st') : ∃ x y v r, st = .long y :: .long x :: r ∧ f x y = some v ∧ st' = v :: r := by
  unfold km_ll at h
  split at h
  · split at h
    · exact ⟨_, _, _, _, rfl, by assumption, (Option.some.inj h).symm⟩
    · cases h
  · cases h
theorem km_li_s {f : Int64 → Int32 → Option Value} {st st' : List Value} (h : km_li f st = some st') : ∃ x y v r, st = .int y :: .long x :: r ∧ f x y = some v ∧ st' = v :: r := by
  unfold km_li at h
  split at h
  · split at h
    · exact ⟨_, _, _, _, rfl, by assumption, (Option.some.inj h).symm⟩
    · cases h
  · cases h
def km_dup : List Value → Option (List Value)
  | v :: r => if v.category = 1 then some (v :: v :: r) else none
  | _ => none
def km_dup2 : List Value → Option (List Value)
  | v :: w :: r => if v.category = 1 ∧ w.category = 1 then some (v :: w :: v :: w :: r) else none
  | _ => none
def km_pop : List Value → Option (List Value)
  | v :: r => if v.category = 1 then some r else none
  | _ => none
def km_psh1 (st : List Value) : Option Value → Option (List Value)
  | some (.int x) => some (.int x :: st)
  | some (.ref x) => some (.ref x :: st)
  | _ => none
def km_psh3 (st : List Value) : Option Value → Option (List Value)
  | some (.int x) => some (.int x :: st)
  | _ => none
def km_psh2 (st : List Value) : Option Value → Option (List Value)
  | some (.long x) => some (.long x :: st)
  | _ => none
/-- what touches the stack alone -/
def km_pure (c : Nat) (ins : KI) (st : List Value) : Option (List Value) :=
  match ins with
  | .iconst n => some (.int (Int32.ofInt n) :: st)
  | .bipush n => some (.int (Int8.ofInt n).toInt32 :: st)
  | .sipush n => some (.int (Int16.ofInt n).toInt32 :: st)
  | .lconst n => some (.long (Int64.ofNat (n : Nat)) :: st)
  | .ldc i => km_psh1 st (km_kc c i)
  | .ldc_w i => km_psh3 st (km_kc c i)
  | .ldc2_w i => km_psh2 st (km_kc c i)
  | .iadd => km_ii (fun x y => some (.int (x + y))) st
  | .isub => km_ii (fun x y => some (.int (x - y))) st
  | .imul => km_ii (fun x y => some (.int (x * y))) st
  | .iand => km_ii (fun x y => some (.int (x &&& y))) st
  | .ior => km_ii (fun x y => some (.int (x ||| y))) st
  | .ixor => km_ii (fun x y => some (.int (x ^^^ y))) st
  | .idiv => km_ii (fun x y => if y = 0 then none else some (.int (x / y))) st
  | .irem => km_ii (fun x y => if y = 0 then none else some (.int (x - x / y * y))) st
  | .ishl => km_ii (fun x y => some (.int (x <<< (y &&& 31)))) st
  | .ishr => km_ii (fun x y => some (.int (x >>> (y &&& 31)))) st
  | .iushr => km_ii (fun x y => some (.int (x.toUInt32 >>> (y.toUInt32 &&& Int32.toUInt32 31)).toInt32)) st
  | .ineg => km_i1 (fun x => .int (-x)) st
  | .i2l => km_i1 (fun x => .long x.toInt64) st
  | .i2b => km_i1 (fun x => .int x.toInt8.toInt32) st
  | .l2i => km_l1 (fun x => .int x.toInt32) st
  | .lneg => km_l1 (fun x => .long (-x)) st
  | .ladd => km_ll (fun x y => some (.long (x + y))) st
  | .lsub => km_ll (fun x y => some (.long (x - y))) st
  | .lmul => km_ll (fun x y => some (.long (x * y))) st
  | .land => km_ll (fun x y => some (.long (x &&& y))) st
  | .lor => km_ll (fun x y => some (.long (x ||| y))) st
  | .lxor => km_ll (fun x y => some (.long (x ^^^ y))) st
  | .ldiv => km_ll (fun x y => if y = 0 then none else some (.long (x / y))) st
  | .lrem => km_ll (fun x y => if y = 0 then none else some (.long (x - x / y * y))) st
  | .lcmp => km_ll (fun x y => some (.int (lg_cmp x y))) st
  | .lshl => km_li (fun x y => some (.long (x <<< (y.toInt64 &&& 63)))) st
  | .lshr => km_li (fun x y => some (.long (x >>> (y.toInt64 &&& 63)))) st
  | .dup => km_dup st
  | .dup2 => km_dup2 st
  | .pop => km_pop st
  | _ => none
def km_tg (pc : Nat) (off : Int) : Option Nat := if 0 ≤ (pc : Int) + off then some ((pc : Int) + off).toNat else none
theorem km_tg_s {pc tgt : Nat} {off : Int} (h : km_tg pc off = some tgt) : (pc : Int) + off = (tgt : Int) := by
  unfold km_tg at h
  split at h
  · have := Option.some.inj h; omega
  · cases h
def km_cmp : Jvm.ClassFile.Cond → Int32 → Int32 → Bool
  | .eq, x, y => decide (x = y)
  | .ne, x, y => decide (¬ x = y)
  | .lt, x, y => decide (x < y)
  | .ge, x, y => decide (y ≤ x)
  | .gt, x, y => decide (y < x)
  | .le, x, y => decide (x ≤ y)
/-- where it goes on -/
def km_jmp (pc : Nat) (ins : KI) (st : List Value) : Option (Nat × List Value) :=
  match ins with
  | .goto off => match km_tg pc off with | some t => some (t, st) | none => none
  | .ifCond c off => match km_tg pc off, st with
    | some t, .int x :: r => some (cond (km_cmp c x 0) t (pc + 3), r)
    | _, _ => none
  | .if_icmp c off => match km_tg pc off, st with
    | some t, .int y :: .int x :: r => some (cond (km_cmp c x y) t (pc + 3), r)
    | _, _ => none
  | .tableswitch dflt lo hi offs => match st with
    | .int x :: r => if x.toInt < lo ∨ hi < x.toInt then (match km_tg pc dflt with | some t => some (t, r) | none => none)
      else (match offs[(x.toInt - lo).toNat]? with | some off => (match km_tg pc off with | some t => some (t, r) | none => none) | none => none)
    | _ => none
  | _ => none
/-- what stands ahead of i, without a long that reaches into i -/
def km_clrk (ls : km_L) (k : Nat) : km_L := match ls[k]? with
  | some (some w) => cond (Nat.beq w.category 2) (ls.set k none) ls
  | _ => ls
def km_clr (ls : km_L) : Nat → km_L
  | 0 => ls
  | k + 1 => km_clrk ls k
def km_st1 (ls : km_L) (i : Nat) (v : Value) : Option km_L := cond (Nat.blt i ls.length) (some ((km_clr ls i).set i (some v))) none
def km_st2 (ls : km_L) (i : Nat) (v : Value) : Option km_L := cond (Nat.blt (i + 1) ls.length) (some (((km_clr ls i).set i (some v)).set (i + 1) none)) none
theorem km_clr_len (ls : km_L) (i : Nat) : (km_clr ls i).length = ls.length := by
  cases i with
  | zero => rfl
  | succ k =>
    show (km_clrk ls k).length = _
    unfold km_clrk
    split
    · rename_i w hw
      cases Nat.beq w.category 2
      · rfl
      · show (ls.set k none).length = _
        exact List.length_set
    · rfl
theorem km_clr_s {ls : km_L} {i j : Nat} {w : Value} (h : (km_clr ls i)[j]? = some (some w)) : ls[j]? = some (some w) ∧ ¬ (j + 1 = i ∧ w.category = 2) := by
  cases i with
  | zero => exact ⟨h, fun z => by omega⟩
  | succ k =>
    have h1 : (km_clrk ls k)[j]? = some (some w) := h
    clear h
    unfold km_clrk at h1
    split at h1
    · rename_i v hv
      cases hb : Nat.beq v.category 2 with
      | true =>
        rw [hb] at h1
        have h2 : (ls.set k none)[j]? = some (some w) := h1
        by_cases hj : k = j
        · subst hj
          exfalso
          have hl : k < ls.length := (List.getElem?_eq_some_iff.mp hv).1
          rw [List.getElem?_set_self hl] at h2
          cases Option.some.inj h2
        · rw [List.getElem?_set_ne hj] at h2
          exact ⟨h2, fun z => hj (by omega)⟩
      | false =>
        rw [hb] at h1
        have h2 : ls[j]? = some (some w) := h1
        refine ⟨h2, fun z => ?_⟩
        have e : j = k := by omega
        subst e
        rw [hv] at h2
        obtain rfl := Option.some.inj (Option.some.inj h2)
        rw [z.2] at hb
        cases hb
    · rename_i hv
      refine ⟨h1, fun z => ?_⟩
      have e : j = k := by omega
      subst e
      exact hv _ h1
def km_ldI (ls : km_L) (i : Nat) (st : List Value) : Option (km_L × List Value) := match ls[i]? with
  | some (some (.int x)) => some (ls, .int x :: st)
  | _ => none
def km_ldJ (ls : km_L) (i : Nat) (st : List Value) : Option (km_L × List Value) := match ls[i]? with
  | some (some (.long x)) => some (ls, .long x :: st)
  | _ => none
def km_ldA (ls : km_L) (i : Nat) (st : List Value) : Option (km_L × List Value) := match ls[i]? with
  | some (some (.ref x)) => some (ls, .ref x :: st)
  | _ => none
def km_stI (ls : km_L) (i : Nat) (st : List Value) : Option (km_L × List Value) := match st with
  | .int x :: r => (match km_st1 ls i (.int x) with | some ls' => some (ls', r) | none => none)
  | _ => none
def km_stA (ls : km_L) (i : Nat) (st : List Value) : Option (km_L × List Value) := match st with
  | .ref x :: r => (match km_st1 ls i (.ref x) with | some ls' => some (ls', r) | none => none)
  | _ => none
def km_stJ (ls : km_L) (i : Nat) (st : List Value) : Option (km_L × List Value) := match st with
  | .long x :: r => (match km_st2 ls i (.long x) with | some ls' => some (ls', r) | none => none)
  | _ => none
/-- loads and stores of locals -/
def km_loc (ins : KI) (ls : km_L) (st : List Value) : Option (km_L × List Value) :=
  match ins with
  | .iload i => km_ldI ls i st
  | .iload_n i => km_ldI ls (i : Nat) st
  | .lload i => km_ldJ ls i st
  | .lload_n i => km_ldJ ls (i : Nat) st
  | .aload i => km_ldA ls i st
  | .aload_n i => km_ldA ls (i : Nat) st
  | .istore i => km_stI ls i st
  | .istore_n i => km_stI ls (i : Nat) st
  | .lstore i => km_stJ ls i st
  | .lstore_n i => km_stJ ls (i : Nat) st
  | .astore i => km_stA ls i st
  | .astore_n i => km_stA ls (i : Nat) st
  | .iinc i n => match ls[i]? with
    | some (some (.int x)) => (match km_st1 ls i (.int (x + Int32.ofInt n)) with | some ls' => some (ls', st) | none => none)
    | _ => none
  | _ => none
def km_rd (L : km_M) (a kd i : Nat) : Option Value := match L[a]? with
  | some q => cond (Nat.beq q.1 kd && Nat.blt i q.2.1) (some (q.2.2 i)) none
  | none => none
def km_wr (L : km_M) (a kd i : Nat) (v : Value) : Option km_M := match L[a]? with
  | some q => cond (Nat.beq q.1 kd && Nat.blt i q.2.1) (some (L.set a (q.1, q.2.1, updV q.2.2 i v))) none
  | none => none
def km_Ty : Nat → Nat → FieldType
  | 0 => tyX0 | 1 => tyX1 | 2 => tyX2 | 3 => tyX3 | 4 => tyX4 | 5 => tyX5 | 6 => tyX6 | 7 => tyX7 | 8 => tyX8 | _ => tyX9
/-- what a field of a type may take -/
def km_fit : FieldType → Value → Bool
  | .int, .int _ => true
  | .boolean, .int x => decide (x = 0 ∨ x = 1)
  | .array _, .ref _ => true
  | .object _, .ref _ => true
  | _, _ => false
def km_aty : Nat → FieldType
  | 10 => .byte | 11 => .int | 12 => .long | 13 => .boolean | 14 => .object RX2 | 15 => .object RX5 | _ => .array .long
def km_or {α : Type} (a b : Option α) : Option α := match a with
  | some x => some x
  | none => b
def km_ar (L : km_M) (a kd : Nat) (i : Int32) : Option Value := if i < 0 then none else km_rd L a kd i.toNatClampNeg
def km_aw (L : km_M) (a kd : Nat) (i : Int32) (v : Value) : Option km_M := if i < 0 then none else km_wr L a kd i.toNatClampNeg v
def km_kd (L : km_M) (a k : Nat) : Bool := match L[a]? with
  | some q => Nat.beq q.1 k
  | none => false
def km_new (L : km_M) (r : List Value) (k n : Nat) (v : Nat → Value) : Option (List Value × km_M) :=
  cond (Nat.blt (L.length + 100) km_scr) (some (.ref L.length :: r, L ++ [(k, n, v)])) none
def km_cpy (f g : Nat → Value) (sp dp n : Nat) : Nat → Value := fun k => if dp ≤ k ∧ k < dp + n then f (sp + (k - dp)) else g k
def km_isI : Value → Bool
  | .int _ => true
  | _ => false
/-- the four texts: their bytes -/
def km_tx : Nat → List Nat
  | 0 => [114, 105, 110, 103] | 1 => [98, 114, 97, 105, 100] | 2 => [111, 118, 101, 114] | _ => [117, 110, 100, 101, 114]
/-- what reads and writes the memory; c: the class whose pool it is, it: whether it is a constructor; xs, Lx: the script -/
def km_mem (xs : Nat → Int32) (Lx : Nat) (c : Nat) (it : Bool) (ins : KI) (st : List Value) (L : km_M) : Option (List Value × km_M) :=
  match ins with
  | .getfield i => match st, km_fF km_F c i with
    | .ref a :: r, some (k, j, _) => (match km_rd L a k j with | some v => some (v :: r, L) | none => none)
    | _, _ => none
  | .putfield i => match st, km_fF km_F c i with
    | v :: .ref a :: r, some (k, j, _) => cond (km_fit (km_Ty k j) v && (!(km_X k j).2.2.2 || (it && Nat.beq k c))) (match km_wr L a k j v with | some L' => some (r, L') | none => none) none
    | _, _ => none
  | .iaload => match st with
    | .int i :: .ref a :: r => cond (Nat.beq a km_scr) (if i < 0 ∨ Lx ≤ i.toNatClampNeg then none else some (.int (xs i.toNatClampNeg) :: r, L))
        (match km_ar L a 11 i with | some v => some (v :: r, L) | none => none)
    | _ => none
  | .baload => match st with
    | .int i :: .ref a :: r => (match km_or (km_ar L a 10 i) (km_ar L a 13 i) with | some v => some (v :: r, L) | none => none)
    | _ => none
  | .laload => match st with
    | .int i :: .ref a :: r => (match km_ar L a 12 i with | some v => some (v :: r, L) | none => none)
    | _ => none
  | .aaload => match st with
    | .int i :: .ref a :: r => (match km_or (km_ar L a 14 i) (km_or (km_ar L a 15 i) (km_ar L a 16 i)) with | some v => some (v :: r, L) | none => none)
    | _ => none
  | .iastore => match st with
    | .int x :: .int i :: .ref a :: r => (match km_aw L a 11 i (.int x) with | some L' => some (r, L') | none => none)
    | _ => none
  | .bastore => match st with
    | .int x :: .int i :: .ref a :: r => (match km_or (km_aw L a 10 i (.int x.toInt8.toInt32)) (km_aw L a 13 i (.int (x &&& 1))) with | some L' => some (r, L') | none => none)
    | _ => none
  | .lastore => match st with
    | .long x :: .int i :: .ref a :: r => (match km_aw L a 12 i (.long x) with | some L' => some (r, L') | none => none)
    | _ => none
  | .aastore => match st with
    | .ref x :: .int i :: .ref a :: r => (match km_or (cond (km_kd L x 2) (km_aw L a 14 i (.ref x)) none) (cond (km_kd L x 5) (km_aw L a 15 i (.ref x)) none) with | some L' => some (r, L') | none => none)
    | _ => none
  | .arraylength => match st with
    | .ref a :: r => cond (Nat.beq a km_scr) (some (.int (Int32.ofNat Lx) :: r, L)) (match L[a]? with | some q => cond (Nat.blt 9 q.1 && Nat.blt q.1 17) (some (.int (Int32.ofNat q.2.1) :: r, L)) none | none => none)
    | _ => none
  | .new i => match km_fF km_W5 c i with
    | some (k, _, _) => cond (Nat.blt k 10) (km_new L st k (km_N k) (fun j => defaultValue (km_Ty k j))) none
    | none => none
  | .newarray t => match st with
    | .int n :: r => if n < 0 ∨ 60000000 < n.toNatClampNeg then none else
      match t with
      | .byte => km_new L r 10 n.toNatClampNeg (fun _ => .int 0)
      | .int => km_new L r 11 n.toNatClampNeg (fun _ => .int 0)
      | .long => km_new L r 12 n.toNatClampNeg (fun _ => .long 0)
      | .boolean => km_new L r 13 n.toNatClampNeg (fun _ => .int 0)
      | _ => none
    | _ => none
  | .anewarray i => match st, km_fF km_W5 c i with
    | .int n :: r, some (k, _, _) => if n < 0 ∨ 60000000 < n.toNatClampNeg then none else
      cond (Nat.beq k 2) (km_new L r 14 n.toNatClampNeg (fun _ => .null)) (cond (Nat.beq k 5) (km_new L r 15 n.toNatClampNeg (fun _ => .null)) none)
    | _, _ => none
  | .multianewarray i d => match st, km_fF km_W5 c i with
    | .int y :: .int x :: r, some (k, _, _) => if x < 0 ∨ 60 < x.toNatClampNeg ∨ y < 0 ∨ 60000000 < y.toNatClampNeg then none else
      cond (Nat.beq d 2 && Nat.beq k 16 && Nat.blt (L.length + 100) km_scr) (some (.ref L.length :: r, (L ++ ([(16, x.toNatClampNeg, fun j => Value.ref (L.length + 1 + j))] : km_M)) ++ (List.replicate x.toNatClampNeg (12, y.toNatClampNeg, fun _ => Value.long 0) : km_M))) none
    | _, _ => none
  | .invokespecial i => match st, km_fF km_I c i with
    | .ref _ :: r, some (4, _, _) => cond (Nat.ble ((r.map fun v => v.category).sum) 8) (some (r, L)) none
    | _, _ => none
  | .invokestatic i => match st, km_fF km_I c i with
    | .int n :: .int dp :: .ref b :: .int sp :: .ref a :: r, some (5, _, _) =>
      (match L[a]?, L[b]? with
       | some f, some g => if Nat.beq f.1 11 = true ∧ Nat.beq g.1 11 = true ∧ ¬ sp < 0 ∧ ¬ dp < 0 ∧ ¬ n < 0 ∧ sp.toNatClampNeg + n.toNatClampNeg ≤ f.2.1 ∧ dp.toNatClampNeg + n.toNatClampNeg ≤ g.2.1 ∧ ((r.map fun v => v.category).sum ≤ 8) ∧ ((List.range n.toNatClampNeg).all (fun i => km_isI (f.2.2 (sp.toNatClampNeg + i))) = true)
           then some (r, L.set b (11, g.2.1, km_cpy f.2.2 g.2.2 sp.toNatClampNeg dp.toNatClampNeg n.toNatClampNeg)) else none
       | _, _ => none)
    | _, _ => none
  | .invokevirtual i => match st, km_fF km_I c i with
    | .ref a :: r, some (6, _, _) => cond (Nat.blt km_scr a && Nat.blt a 1000005 && Nat.ble ((r.map fun v => v.category).sum) 8) (some (.int (Int32.ofNat (km_tx (a - 1000001)).length) :: r, L)) none
    | .int x :: .ref a :: r, some (7, _, _) => cond (Nat.blt km_scr a && Nat.blt a 1000005 && Nat.ble ((r.map fun v => v.category).sum) 8)
        (if x < 0 then none else match (km_tx (a - 1000001))[x.toNatClampNeg]? with | some b => some (.int (Int32.ofNat b) :: r, L) | none => none) none
    | _, _ => none
  | _ => none
/-- a return: what it answers -/
def km_ret (rt : Option FieldType) (ins : KI) (st : List Value) : Option (Option Value) :=
  match ins with
  | .ireturn => match st, rt with
    | [.int v], some .int => some (some (.int v))
    | [.int v], some .boolean => cond (decide (v = 0 ∨ v = 1)) (some (some (.int v))) none
    | _, _ => none
  | .lreturn => match st, rt with
    | [.long v], some .long => some (some (.long v))
    | _, _ => none
  | .areturn => match st, rt with
    | [.ref a], some (.object _) => some (some (.ref a))
    | _, _ => none
  | .return_ => match st, rt with
    | [], none => some none
    | _, _ => none
  | _ => none
def km_po (m : Nat) : Nat := match km_T[m]? with
  | some q => q.2.2.2.2.1
  | none => 99
def km_na (m : Nat) : Nat := match km_T[m]? with
  | some q => q.2.2.2.2.2.1
  | none => 0
def km_lay : List Value → km_L
  | [] => []
  | v :: t => if v.category = 2 then some v :: none :: km_lay t else some v :: km_lay t
def km_ent (mx : Nat) (as : List Value) : km_L := km_lay as ++ List.replicate (mx - (km_lay as).length) none
/-- a call: which method, with what, what stays on the stack -/
def km_inv (c : Nat) (ins : KI) (st : List Value) (L : km_M) : Option (Nat × List Value × List Value) :=
  match ins with
  | .invokestatic i => match km_fF km_I c i with
    | some (0, j, _) => cond (Nat.ble (km_na j) st.length && Nat.ble (((st.drop (km_na j)).map fun v => v.category).sum) 8) (some (j, (st.take (km_na j)).reverse, st.drop (km_na j))) none
    | _ => none
  | .invokevirtual i => match km_fF km_I c i with
    | some (1, j, _) => (match (st.take (km_na j)).reverse with
      | .ref a :: _ => cond (Nat.ble (km_na j) st.length && Nat.ble (((st.drop (km_na j)).map fun v => v.category).sum) 8 && km_kd L a (km_po j)) (some (j, (st.take (km_na j)).reverse, st.drop (km_na j))) none
      | _ => none)
    | _ => none
  | .invokespecial i => match km_fF km_I c i with
    | some (k, j, _) => cond (Nat.beq k 2 || Nat.beq k 3) (match (st.take (km_na j)).reverse with
      | .ref a :: _ => cond (Nat.ble (km_na j) st.length && Nat.ble (((st.drop (km_na j)).map fun v => v.category).sum) 8 && km_kd L a (km_po j)) (some (j, (st.take (km_na j)).reverse, st.drop (km_na j))) none
      | _ => none) none
    | _ => none
  | _ => none
def km_init (m : Nat) : Bool := match km_T[m]? with
  | some q => q.1.name == "<init>"
  | none => false
/-- THE RUN: fuel, how deep calls may go yet, method, place, locals, stack, memory -/
def km_run (xs : Nat → Int32) (Lx : Nat) : Nat → Nat → Nat → Nat → km_L → List Value → km_M → Option (Option Value × km_M)
  | 0, _, _, _, _, _, _ => none
  | f + 1, d, m, pc, ls, st, L =>
    match km_T[m]? with
    | none => none
    | some q =>
    match km_at q.2.2.2.2.2.2.2 pc with
    | none => none
    | some ins =>
    match km_pure q.2.2.2.2.1 ins st with
    | some st' => km_run xs Lx f d m (pc + km_len ins) ls st' L
    | none =>
    match km_loc ins ls st with
    | some (ls', st') => km_run xs Lx f d m (pc + km_len ins) ls' st' L
    | none =>
    match km_jmp pc ins st with
    | some (pc', st') => km_run xs Lx f d m pc' ls st' L
    | none =>
    match km_mem xs Lx q.2.2.2.2.1 (km_init m) ins st L with
    | some (st', L') => km_run xs Lx f d m (pc + km_len ins) ls st' L'
    | none =>
    match km_ret q.2.2.2.1 ins st with
    | some r => some (r, L)
    | none =>
    match km_inv q.2.2.2.2.1 ins st L with
    | none => none
    | some (j, as, rest) =>
    match d with
    | 0 => none
    | d' + 1 =>
    match km_T[j]? with
    | none => none
    | some qj =>
    match cond (Nat.ble (km_lay as).length qj.2.2.1) (km_run xs Lx f d' j 0 (km_ent qj.2.2.1 as) [] L) none with
    | none => none
    | some (r, L') => km_run xs Lx f d m (pc + 3) ls (r.toList ++ rest) L'
end
section
/-! small rows that both layers need -/
theorem km_cb {α : Type} {b : Bool} {x y : Option α} {v : α} (h : cond b x y = some v) : (b = true ∧ x = some v) ∨ (b = false ∧ y = some v) := by
  cases b
  · exact Or.inr ⟨rfl, h⟩
  · exact Or.inl ⟨rfl, h⟩
theorem km_ldA_s {ls ls' : km_L} {i : Nat} {st st' : List Value} (h : km_ldA ls i st = some (ls', st')) : ls' = ls ∧ ∃ x, ls[i]? = some (some (.ref x)) ∧ st' = .ref x :: st := by
  unfold km_ldA at h
  split at h
  · cases h; exact ⟨rfl, _, by assumption, rfl⟩
  · cases h
theorem km_ldI_s {ls ls' : km_L} {i : Nat} {st st' : List Value} (h : km_ldI ls i st = some (ls', st')) : ls' = ls ∧ ∃ x, ls[i]? = some (some (.int x)) ∧ st' = .int x :: st := by
  unfold km_ldI at h
  split at h
  · cases h; exact ⟨rfl, _, by assumption, rfl⟩
  · cases h
theorem km_ldJ_s {ls ls' : km_L} {i : Nat} {st st' : List Value} (h : km_ldJ ls i st = some (ls', st')) : ls' = ls ∧ ∃ x, ls[i]? = some (some (.long x)) ∧ st' = .long x :: st := by
  unfold km_ldJ at h
  split at h
  · cases h; exact ⟨rfl, _, by assumption, rfl⟩
  · cases h
theorem km_stA_s {ls ls' : km_L} {i : Nat} {st st' : List Value} (h : km_stA ls i st = some (ls', st')) : ∃ x, st = .ref x :: st' ∧ km_st1 ls i (.ref x) = some ls' := by
  unfold km_stA at h
  split at h
  · split at h
    · cases h; exact ⟨_, rfl, by assumption⟩
    · cases h
  · cases h
theorem km_stI_s {ls ls' : km_L} {i : Nat} {st st' : List Value} (h : km_stI ls i st = some (ls', st')) : ∃ x, st = .int x :: st' ∧ km_st1 ls i (.int x) = some ls' := by
  unfold km_stI at h
  split at h
  · split at h
    · cases h; exact ⟨_, rfl, by assumption⟩
    · cases h
  · cases h
theorem km_stJ_s {ls ls' : km_L} {i : Nat} {st st' : List Value} (h : km_stJ ls i st = some (ls', st')) : ∃ x, st = .long x :: st' ∧ km_st2 ls i (.long x) = some ls' := by
  unfold km_stJ at h
  split at h
  · split at h
    · cases h; exact ⟨_, rfl, by assumption⟩
    · cases h
  · cases h
theorem km_lt {L : km_M} {a : Nat} {q : km_C} (h : L[a]? = some q) : a < L.length := (List.getElem?_eq_some_iff.mp h).1
theorem km_po_at {j : Nat} {q : km_Q} (h : km_T[j]? = some q) : km_po j = q.2.2.2.2.1 ∧ km_na j = q.2.2.2.2.2.1 := by
  unfold km_po km_na
  rw [h]
  exact ⟨rfl, rfl⟩
end
section
theorem gq0 : km_T[0]? = some km_q0 := rfl
theorem gq1 : km_T[1]? = some km_q1 := rfl
theorem gq2 : km_T[2]? = some km_q2 := rfl
theorem gq3 : km_T[3]? = some km_q3 := rfl
theorem gq4 : km_T[4]? = some km_q4 := rfl
theorem gq5 : km_T[5]? = some km_q5 := rfl
theorem gq6 : km_T[6]? = some km_q6 := rfl
theorem gq7 : km_T[7]? = some km_q7 := rfl
theorem gq8 : km_T[8]? = some km_q8 := rfl
theorem gq9 : km_T[9]? = some km_q9 := rfl
theorem gq10 : km_T[10]? = some km_q10 := rfl
theorem gq11 : km_T[11]? = some km_q11 := rfl
theorem gq12 : km_T[12]? = some km_q12 := rfl
theorem gq13 : km_T[13]? = some km_q13 := rfl
theorem gq14 : km_T[14]? = some km_q14 := rfl
theorem gq15 : km_T[15]? = some km_q15 := rfl
theorem gq16 : km_T[16]? = some km_q16 := rfl
theorem gq17 : km_T[17]? = some km_q17 := rfl
theorem gq18 : km_T[18]? = some km_q18 := rfl
theorem gq19 : km_T[19]? = some km_q19 := rfl
theorem gq20 : km_T[20]? = some km_q20 := rfl
theorem gq21 : km_T[21]? = some km_q21 := rfl
theorem gq22 : km_T[22]? = some km_q22 := rfl
theorem gq23 : km_T[23]? = some km_q23 := rfl
theorem gq24 : km_T[24]? = some km_q24 := rfl
theorem gq25 : km_T[25]? = some km_q25 := rfl
theorem gq26 : km_T[26]? = some km_q26 := rfl
theorem gq27 : km_T[27]? = some km_q27 := rfl
theorem gq28 : km_T[28]? = some km_q28 := rfl
theorem gq29 : km_T[29]? = some km_q29 := rfl
theorem gq30 : km_T[30]? = some km_q30 := rfl
theorem gq31 : km_T[31]? = some km_q31 := rfl
theorem gq32 : km_T[32]? = some km_q32 := rfl
theorem gq33 : km_T[33]? = some km_q33 := rfl
theorem gq34 : km_T[34]? = some km_q34 := rfl
theorem gq35 : km_T[35]? = some km_q35 := rfl
theorem gq36 : km_T[36]? = some km_q36 := rfl
theorem gq37 : km_T[37]? = some km_q37 := rfl
theorem gq38 : km_T[38]? = some km_q38 := rfl
theorem gq39 : km_T[39]? = some km_q39 := rfl
theorem gq40 : km_T[40]? = some km_q40 := rfl
theorem gq41 : km_T[41]? = some km_q41 := rfl
theorem gq42 : km_T[42]? = some km_q42 := rfl
theorem gq43 : km_T[43]? = some km_q43 := rfl
theorem gq44 : km_T[44]? = some km_q44 := rfl
theorem gq45 : km_T[45]? = some km_q45 := rfl
theorem gq46 : km_T[46]? = some km_q46 := rfl
theorem gq47 : km_T[47]? = some km_q47 := rfl
theorem gq48 : km_T[48]? = some km_q48 := rfl
theorem gq49 : km_T[49]? = some km_q49 := rfl
theorem gq50 : km_T[50]? = some km_q50 := rfl
theorem gq51 : km_T[51]? = some km_q51 := rfl
theorem gq52 : km_T[52]? = some km_q52 := rfl
theorem gq53 : km_T[53]? = some km_q53 := rfl
theorem gq54 : km_T[54]? = some km_q54 := rfl
theorem gq55 : km_T[55]? = some km_q55 := rfl
theorem gq56 : km_T[56]? = some km_q56 := rfl
theorem gq57 : km_T[57]? = some km_q57 := rfl
theorem gq58 : km_T[58]? = some km_q58 := rfl
theorem gq59 : km_T[59]? = some km_q59 := rfl
theorem gq60 : km_T[60]? = some km_q60 := rfl
theorem gq61 : km_T[61]? = some km_q61 := rfl
theorem gq62 : km_T[62]? = some km_q62 := rfl
theorem gq63 : km_T[63]? = some km_q63 := rfl
theorem gq64 : km_T[64]? = some km_q64 := rfl
theorem gq65 : km_T[65]? = some km_q65 := rfl
theorem gq66 : km_T[66]? = some km_q66 := rfl
theorem gq67 : km_T[67]? = some km_q67 := rfl
theorem gq68 : km_T[68]? = some km_q68 := rfl
theorem gq69 : km_T[69]? = some km_q69 := rfl
theorem gq70 : km_T[70]? = some km_q70 := rfl
theorem gq71 : km_T[71]? = some km_q71 := rfl
theorem gq72 : km_T[72]? = some km_q72 := rfl
theorem gq73 : km_T[73]? = some km_q73 := rfl
theorem gq74 : km_T[74]? = some km_q74 := rfl
theorem gq75 : km_T[75]? = some km_q75 := rfl
theorem gq76 : km_T[76]? = some km_q76 := rfl
theorem gq77 : km_T[77]? = some km_q77 := rfl
theorem gq78 : km_T[78]? = some km_q78 := rfl
theorem gq79 : km_T[79]? = some km_q79 := rfl
theorem gq80 : km_T[80]? = some km_q80 := rfl
theorem gq81 : km_T[81]? = some km_q81 := rfl
theorem gq82 : km_T[82]? = some km_q82 := rfl
theorem gq83 : km_T[83]? = some km_q83 := rfl
theorem gq84 : km_T[84]? = some km_q84 := rfl
theorem gq85 : km_T[85]? = some km_q85 := rfl
theorem gq86 : km_T[86]? = some km_q86 := rfl
theorem gq87 : km_T[87]? = some km_q87 := rfl
theorem gq88 : km_T[88]? = some km_q88 := rfl
theorem gq89 : km_T[89]? = some km_q89 := rfl
theorem gq90 : km_T[90]? = some km_q90 := rfl
theorem gq91 : km_T[91]? = some km_q91 := rfl
theorem gq92 : km_T[92]? = some km_q92 := rfl
theorem gq93 : km_T[93]? = some km_q93 := rfl
theorem gq94 : km_T[94]? = some km_q94 := rfl
theorem gq95 : km_T[95]? = some km_q95 := rfl
theorem gq96 : km_T[96]? = some km_q96 := rfl
theorem gq97 : km_T[97]? = some km_q97 := rfl
theorem gq98 : km_T[98]? = some km_q98 := rfl
theorem gq99 : km_T[99]? = some km_q99 := rfl
theorem gq100 : km_T[100]? = some km_q100 := rfl
theorem gq101 : km_T[101]? = some km_q101 := rfl
theorem gq102 : km_T[102]? = some km_q102 := rfl
theorem gq103 : km_T[103]? = some km_q103 := rfl
theorem gq104 : km_T[104]? = some km_q104 := rfl
theorem gq105 : km_T[105]? = some km_q105 := rfl
theorem gq106 : km_T[106]? = some km_q106 := rfl
theorem gq107 : km_T[107]? = some km_q107 := rfl
theorem gq108 : km_T[108]? = some km_q108 := rfl
theorem gq109 : km_T[109]? = some km_q109 := rfl
theorem gq110 : km_T[110]? = some km_q110 := rfl
theorem gq111 : km_T[111]? = some km_q111 := rfl
theorem gq112 : km_T[112]? = some km_q112 := rfl
theorem gq113 : km_T[113]? = some km_q113 := rfl
theorem gq114 : km_T[114]? = some km_q114 := rfl
theorem gq115 : km_T[115]? = some km_q115 := rfl
theorem gq116 : km_T[116]? = some km_q116 := rfl
theorem gq117 : km_T[117]? = some km_q117 := rfl
theorem gq118 : km_T[118]? = some km_q118 := rfl
theorem gq119 : km_T[119]? = some km_q119 := rfl
theorem gq120 : km_T[120]? = some km_q120 := rfl
theorem gq121 : km_T[121]? = some km_q121 := rfl
theorem gq122 : km_T[122]? = some km_q122 := rfl
theorem gq123 : km_T[123]? = some km_q123 := rfl
theorem gq124 : km_T[124]? = some km_q124 := rfl
theorem gq125 : km_T[125]? = some km_q125 := rfl
theorem gq126 : km_T[126]? = some km_q126 := rfl
theorem gq127 : km_T[127]? = some km_q127 := rfl
theorem gq128 : km_T[128]? = some km_q128 := rfl
theorem gq129 : km_T[129]? = some km_q129 := rfl
theorem gq130 : km_T[130]? = some km_q130 := rfl
theorem gq131 : km_T[131]? = some km_q131 := rfl
theorem gq132 : km_T[132]? = some km_q132 := rfl
theorem gq133 : km_T[133]? = some km_q133 := rfl
theorem gq134 : km_T[134]? = some km_q134 := rfl
theorem gq135 : km_T[135]? = some km_q135 := rfl
theorem gq136 : km_T[136]? = some km_q136 := rfl
theorem gq137 : km_T[137]? = some km_q137 := rfl
theorem gq138 : km_T[138]? = some km_q138 := rfl
theorem gq139 : km_T[139]? = some km_q139 := rfl
theorem gq140 : km_T[140]? = some km_q140 := rfl
theorem gq141 : km_T[141]? = some km_q141 := rfl
theorem gq142 : km_T[142]? = some km_q142 := rfl
theorem gq143 : km_T[143]? = some km_q143 := rfl
theorem gq144 : km_T[144]? = some km_q144 := rfl
theorem gq145 : km_T[145]? = some km_q145 := rfl
theorem gq146 : km_T[146]? = some km_q146 := rfl
theorem gq147 : km_T[147]? = some km_q147 := rfl
theorem gq148 : km_T[148]? = some km_q148 := rfl
theorem gq149 : km_T[149]? = some km_q149 := rfl
theorem gq150 : km_T[150]? = some km_q150 := rfl
theorem gq151 : km_T[151]? = some km_q151 := rfl
theorem gq152 : km_T[152]? = some km_q152 := rfl
theorem gq153 : km_T[153]? = some km_q153 := rfl
theorem gq154 : km_T[154]? = some km_q154 := rfl
theorem gq155 : km_T[155]? = some km_q155 := rfl
theorem gq156 : km_T[156]? = some km_q156 := rfl
theorem gq157 : km_T[157]? = some km_q157 := rfl
theorem gq158 : km_T[158]? = some km_q158 := rfl
theorem gq159 : km_T[159]? = some km_q159 := rfl
theorem gq160 : km_T[160]? = some km_q160 := rfl
theorem gq161 : km_T[161]? = some km_q161 := rfl
theorem gq162 : km_T[162]? = some km_q162 := rfl
theorem gq163 : km_T[163]? = some km_q163 := rfl
theorem gq164 : km_T[164]? = some km_q164 := rfl
theorem gq165 : km_T[165]? = some km_q165 := rfl
theorem gq166 : km_T[166]? = some km_q166 := rfl
theorem gq167 : km_T[167]? = some km_q167 := rfl
theorem gq168 : km_T[168]? = some km_q168 := rfl
theorem gq169 : km_T[169]? = some km_q169 := rfl
theorem gq170 : km_T[170]? = some km_q170 := rfl
theorem gq171 : km_T[171]? = some km_q171 := rfl
theorem gq172 : km_T[172]? = some km_q172 := rfl
theorem gq173 : km_T[173]? = some km_q173 := rfl
theorem gq174 : km_T[174]? = some km_q174 := rfl
theorem gq175 : km_T[175]? = some km_q175 := rfl
theorem gq176 : km_T[176]? = some km_q176 := rfl
theorem gq177 : km_T[177]? = some km_q177 := rfl
theorem gq178 : km_T[178]? = some km_q178 := rfl
theorem gq179 : km_T[179]? = some km_q179 := rfl
theorem gq180 : km_T[180]? = some km_q180 := rfl
theorem gq181 : km_T[181]? = some km_q181 := rfl
theorem gq182 : km_T[182]? = some km_q182 := rfl
theorem gq183 : km_T[183]? = some km_q183 := rfl
theorem gq184 : km_T[184]? = some km_q184 := rfl
theorem gq185 : km_T[185]? = some km_q185 := rfl
theorem gq186 : km_T[186]? = some km_q186 := rfl
theorem gq187 : km_T[187]? = some km_q187 := rfl
theorem gq188 : km_T[188]? = some km_q188 := rfl
theorem gq189 : km_T[189]? = some km_q189 := rfl
theorem gq190 : km_T[190]? = some km_q190 := rfl
theorem gq191 : km_T[191]? = some km_q191 := rfl
theorem gq192 : km_T[192]? = some km_q192 := rfl
theorem gq193 : km_T[193]? = some km_q193 := rfl
theorem gq194 : km_T[194]? = some km_q194 := rfl
theorem gq195 : km_T[195]? = some km_q195 := rfl
theorem gq196 : km_T[196]? = some km_q196 := rfl
theorem gq197 : km_T[197]? = some km_q197 := rfl
theorem gq198 : km_T[198]? = some km_q198 := rfl
theorem gq199 : km_T[199]? = some km_q199 := rfl
theorem gq200 : km_T[200]? = some km_q200 := rfl
theorem gq201 : km_T[201]? = some km_q201 := rfl
theorem gq202 : km_T[202]? = some km_q202 := rfl
theorem gq203 : km_T[203]? = some km_q203 := rfl
theorem gq204 : km_T[204]? = some km_q204 := rfl
theorem gq205 : km_T[205]? = some km_q205 := rfl
theorem gq206 : km_T[206]? = some km_q206 := rfl
theorem gq207 : km_T[207]? = some km_q207 := rfl
theorem gq208 : km_T[208]? = some km_q208 := rfl
theorem gq209 : km_T[209]? = some km_q209 := rfl
theorem gq210 : km_T[210]? = some km_q210 := rfl
theorem gq211 : km_T[211]? = some km_q211 := rfl
theorem gq212 : km_T[212]? = some km_q212 := rfl
theorem gq213 : km_T[213]? = some km_q213 := rfl
theorem gq214 : km_T[214]? = some km_q214 := rfl
theorem gq215 : km_T[215]? = some km_q215 := rfl
theorem gq216 : km_T[216]? = some km_q216 := rfl
theorem gq217 : km_T[217]? = some km_q217 := rfl
theorem gq218 : km_T[218]? = some km_q218 := rfl
theorem gq219 : km_T[219]? = some km_q219 := rfl
theorem gq220 : km_T[220]? = some km_q220 := rfl
theorem gq221 : km_T[221]? = some km_q221 := rfl
theorem gq222 : km_T[222]? = some km_q222 := rfl
theorem gq223 : km_T[223]? = some km_q223 := rfl
end
section
/-! the cells behind both constructors (wip/whole/layout.py): kind, length; what the references hold -/
def km_sh : List (Nat × Nat) := [(8, 17), (7, 6), (10, 2000), (4, 18), (11, 5), (11, 134), (11, 134), (11, 134), (13, 134), (13, 134), (11, 8), (11, 8), (11, 8), (5, 5), (11, 5), (11, 16), (11, 8), (2, 11), (11, 16), (11, 16), (11, 16), (11, 8), (11, 8), (11, 32), (11, 32), (11, 32), (11, 33), (11, 32), (0, 3), (11, 16), (16, 8), (12, 12), (12, 12), (12, 12), (12, 12), (12, 12), (12, 12), (12, 12), (12, 12), (1, 3), (11, 121), (11, 117), (1, 3), (11, 121), (11, 117), (3, 3), (15, 40), (5, 5), (11, 5), (11, 16), (11, 8), (5, 5), (11, 5), (11, 16), (11, 8), (5, 5), (11, 5), (11, 16), (11, 8), (5, 5), (11, 5), (11, 16), (11, 8), (5, 5), (11, 5), (11, 16), (11, 8), (5, 5), (11, 5), (11, 16), (11, 8), (5, 5), (11, 5), (11, 16), (11, 8), (5, 5), (11, 5), (11, 16), (11, 8), (5, 5), (11, 5), (11, 16), (11, 8), (5, 5), (11, 5), (11, 16), (11, 8), (5, 5), (11, 5), (11, 16), (11, 8), (5, 5), (11, 5), (11, 16), (11, 8), (5, 5), (11, 5), (11, 16), (11, 8), (5, 5), (11, 5), (11, 16), (11, 8), (5, 5), (11, 5), (11, 16), (11, 8), (5, 5), (11, 5), (11, 16), (11, 8), (5, 5), (11, 5), (11, 16), (11, 8), (5, 5), (11, 5), (11, 16), (11, 8), (5, 5), (11, 5), (11, 16), (11, 8), (5, 5), (11, 5), (11, 16), (11, 8), (5, 5), (11, 5), (11, 16), (11, 8), (5, 5), (11, 5), (11, 16), (11, 8), (5, 5), (11, 5), (11, 16), (11, 8), (5, 5), (11, 5), (11, 16), (11, 8), (5, 5), (11, 5), (11, 16), (11, 8), (5, 5), (11, 5), (11, 16), (11, 8), (5, 5), (11, 5), (11, 16), (11, 8), (5, 5), (11, 5), (11, 16), (11, 8), (5, 5), (11, 5), (11, 16), (11, 8), (5, 5), (11, 5), (11, 16), (11, 8), (5, 5), (11, 5), (11, 16), (11, 8), (5, 5), (11, 5), (11, 16), (11, 8), (5, 5), (11, 5), (11, 16), (11, 8), (5, 5), (11, 5), (11, 16), (11, 8), (5, 5), (11, 5), (11, 16), (11, 8), (5, 5), (11, 5), (11, 16), (11, 8), (5, 5), (11, 5), (11, 16), (11, 8), (5, 5), (11, 5), (11, 16), (11, 8), (5, 5), (11, 5), (11, 16), (11, 8), (5, 5), (11, 5), (11, 16), (11, 8), (15, 3), (13, 3), (5, 5), (11, 5), (11, 16), (11, 8), (2, 11), (11, 16), (11, 16), (11, 16), (11, 8), (11, 8), (11, 32), (11, 32), (11, 32), (11, 33), (11, 32), (6, 2), (15, 4), (14, 4), (5, 5), (11, 5), (11, 16), (11, 8), (2, 11), (11, 16), (11, 16), (11, 16), (11, 8), (11, 8), (11, 32), (11, 32), (11, 32), (11, 33), (11, 32), (5, 5), (11, 5), (11, 16), (11, 8), (2, 11), (11, 16), (11, 16), (11, 16), (11, 8), (11, 8), (11, 32), (11, 32), (11, 32), (11, 33), (11, 32), (5, 5), (11, 5), (11, 16), (11, 8), (2, 11), (11, 16), (11, 16), (11, 16), (11, 8), (11, 8), (11, 32), (11, 32), (11, 32), (11, 33), (11, 32), (5, 5), (11, 5), (11, 16), (11, 8), (2, 11), (11, 16), (11, 16), (11, 16), (11, 8), (11, 8), (11, 32), (11, 32), (11, 32), (11, 33), (11, 32), (5, 5), (11, 5), (11, 16), (11, 8), (5, 5), (11, 5), (11, 16), (11, 8), (5, 5), (11, 5), (11, 16), (11, 8), (9, 52), (10, 2000), (10, 2000), (11, 403), (11, 403), (11, 403), (12, 403), (12, 4), (11, 78), (11, 78), (11, 8), (11, 8), (11, 8), (11, 8), (11, 16), (11, 16), (11, 16), (11, 16), (11, 32), (13, 32), (11, 32), (11, 32), (13, 32), (11, 16), (11, 3120), (11, 234), (13, 3), (11, 78), (11, 201), (11, 201), (11, 201), (11, 201), (11, 16), (12, 96), (11, 312), (11, 4)]
/-- what a place that holds a reference holds -/
def km_rf (a i : Nat) : Nat :=
  match km_sh[a]? with
  | some (5, _) => a + (i - 1)
  | some (2, _) => cond (Nat.ble i 6) (a + (i + 1)) (a + i)
  | some (1, _) => a + (i + 1)
  | some (15, _) => cond (Nat.beq a 46) (47 + 4 * i) (cond (Nat.beq a 207) (287 + 4 * i) (227 + 15 * i))
  | some (14, _) => 231 + 15 * i
  | some (16, _) => 31 + i
  | some (9, _) => ([0, 300, 0, 301, 0, 302, 303, 304, 305, 306, 0, 0, 0, 0, 0, 0, 0, 307, 308, 309, 0, 0, 310, 311, 312, 0, 313, 314, 315, 316, 317, 318, 0, 319, 320, 321, 322, 323, 0, 0, 324, 325, 326, 327, 328, 329, 330, 331, 332, 0, 333, 334] : List Nat).getD i 0
  | some (8, _) => ([1, 3, 13, 17, 28, 39, 42, 45, 207, 208, 209, 213, 224, 0, 0, 0, 0] : List Nat).getD i 0
  | some (7, _) => 2
  | some (4, _) => 4 + (i - 9)
  | some (3, _) => 46
  | some (6, _) => 225 + i
  | some (0, _) => 29 + (i - 1)
  | _ => 0
end
section
/-! more fuel, more known of the locals: the same run -/
def km_Le (l l' : km_L) : Prop := l.length = l'.length ∧ ∀ (i : Nat) (v : Value), l[i]? = some (some v) → l'[i]? = some (some v)
theorem km_Le.rf {l : km_L} : km_Le l l := ⟨rfl, fun _ _ h => h⟩
theorem km_clr_at {ls : km_L} {i j : Nat} {w : Value} (h : ls[j]? = some (some w)) (hn : ¬ (j + 1 = i ∧ w.category = 2)) : (km_clr ls i)[j]? = some (some w) := by
  cases i with
  | zero => exact h
  | succ k =>
    show (km_clrk ls k)[j]? = _
    unfold km_clrk
    split
    · rename_i v hv
      cases hb : Nat.beq v.category 2 with
      | true =>
        show (ls.set k none)[j]? = _
        by_cases hj : k = j
        · subst hj
          rw [hv] at h
          obtain rfl := Option.some.inj (Option.some.inj h)
          exact absurd ⟨rfl, Nat.eq_of_beq_eq_true hb⟩ hn
        · rw [List.getElem?_set_ne hj]; exact h
      | false => exact h
    · exact h
theorem km_clr_le {l l' : km_L} (h : km_Le l l') (i : Nat) : km_Le (km_clr l i) (km_clr l' i) := by
  refine ⟨by rw [km_clr_len, km_clr_len]; exact h.1, fun j v hv => ?_⟩
  obtain ⟨h1, h2⟩ := km_clr_s hv
  exact km_clr_at (h.2 j v h1) h2
theorem km_set_le {l l' : km_L} (h : km_Le l l') (i : Nat) (x : Option Value) : km_Le (l.set i x) (l'.set i x) := by
  refine ⟨by rw [List.length_set, List.length_set]; exact h.1, fun j v hv => ?_⟩
  by_cases hj : i = j
  · subst hj
    by_cases hi : i < l.length
    · rw [List.getElem?_set_self hi] at hv
      rw [List.getElem?_set_self (by rw [← h.1]; exact hi)]
      exact hv
    · rw [List.getElem?_eq_none (by rw [List.length_set]; omega)] at hv
      cases hv
  · rw [List.getElem?_set_ne hj] at hv ⊢
    exact h.2 j v hv
theorem km_st1_le {l l' l2 : km_L} (h : km_Le l l') {i : Nat} {v : Value} (h1 : km_st1 l i v = some l2) : ∃ l2', km_st1 l' i v = some l2' ∧ km_Le l2 l2' := by
  unfold km_st1 at h1 ⊢
  rw [← h.1]
  rcases km_cb h1 with ⟨hb, h2⟩ | ⟨-, h2⟩
  · cases h2
    rw [hb]
    exact ⟨_, rfl, km_set_le (km_clr_le h i) _ _⟩
  · cases h2
theorem km_st2_le {l l' l2 : km_L} (h : km_Le l l') {i : Nat} {v : Value} (h1 : km_st2 l i v = some l2) : ∃ l2', km_st2 l' i v = some l2' ∧ km_Le l2 l2' := by
  unfold km_st2 at h1 ⊢
  rw [← h.1]
  rcases km_cb h1 with ⟨hb, h2⟩ | ⟨-, h2⟩
  · cases h2
    rw [hb]
    exact ⟨_, rfl, km_set_le (km_set_le (km_clr_le h i) _ _) _ _⟩
  · cases h2
theorem km_loc_le {l l' l2 : km_L} (h : km_Le l l') {ins : KI} {st st2 : List Value} (h1 : km_loc ins l st = some (l2, st2)) : ∃ l2', km_loc ins l' st = some (l2', st2) ∧ km_Le l2 l2' := by
  cases ins <;> simp only [km_loc, reduceCtorEq] at h1
  case iload i => obtain ⟨rfl, x, h2, rfl⟩ := km_ldI_s h1; exact ⟨l', by simp only [km_loc, km_ldI, h.2 _ _ h2], h⟩
  case iload_n i => obtain ⟨rfl, x, h2, rfl⟩ := km_ldI_s h1; exact ⟨l', by simp only [km_loc, km_ldI, h.2 _ _ h2], h⟩
  case lload i => obtain ⟨rfl, x, h2, rfl⟩ := km_ldJ_s h1; exact ⟨l', by simp only [km_loc, km_ldJ, h.2 _ _ h2], h⟩
  case lload_n i => obtain ⟨rfl, x, h2, rfl⟩ := km_ldJ_s h1; exact ⟨l', by simp only [km_loc, km_ldJ, h.2 _ _ h2], h⟩
  case aload i => obtain ⟨rfl, x, h2, rfl⟩ := km_ldA_s h1; exact ⟨l', by simp only [km_loc, km_ldA, h.2 _ _ h2], h⟩
  case aload_n i => obtain ⟨rfl, x, h2, rfl⟩ := km_ldA_s h1; exact ⟨l', by simp only [km_loc, km_ldA, h.2 _ _ h2], h⟩
  case istore i => obtain ⟨x, rfl, h2⟩ := km_stI_s h1; obtain ⟨l3, h3, h4⟩ := km_st1_le h h2; exact ⟨l3, by simp only [km_loc, km_stI, h3], h4⟩
  case istore_n i => obtain ⟨x, rfl, h2⟩ := km_stI_s h1; obtain ⟨l3, h3, h4⟩ := km_st1_le h h2; exact ⟨l3, by simp only [km_loc, km_stI, h3], h4⟩
  case astore i => obtain ⟨x, rfl, h2⟩ := km_stA_s h1; obtain ⟨l3, h3, h4⟩ := km_st1_le h h2; exact ⟨l3, by simp only [km_loc, km_stA, h3], h4⟩
  case astore_n i => obtain ⟨x, rfl, h2⟩ := km_stA_s h1; obtain ⟨l3, h3, h4⟩ := km_st1_le h h2; exact ⟨l3, by simp only [km_loc, km_stA, h3], h4⟩
  case lstore i => obtain ⟨x, rfl, h2⟩ := km_stJ_s h1; obtain ⟨l3, h3, h4⟩ := km_st2_le h h2; exact ⟨l3, by simp only [km_loc, km_stJ, h3], h4⟩
  case lstore_n i => obtain ⟨x, rfl, h2⟩ := km_stJ_s h1; obtain ⟨l3, h3, h4⟩ := km_st2_le h h2; exact ⟨l3, by simp only [km_loc, km_stJ, h3], h4⟩
  case iinc i n =>
    split at h1
    · rename_i x h0
      split at h1
      · rename_i l3 h2
        cases h1
        obtain ⟨l3, h3, h4⟩ := km_st1_le h h2
        refine ⟨l3, ?_, h4⟩
        simp only [km_loc]
        rw [h.2 _ _ h0]
        dsimp only
        rw [h3]
      · cases h1
    · cases h1
theorem km_loc_none {l l' : km_L} {ins : KI} {st : List Value} {x : km_L × List Value} (h : km_loc ins l st = none) (h1 : km_loc ins l' st = some x) (pc : Nat) (xs : Nat → Int32) (Lx c : Nat) (it : Bool) (L : km_M) (rt : Option FieldType) : km_jmp pc ins st = none ∧ km_mem xs Lx c it ins st L = none ∧ km_ret rt ins st = none ∧ km_inv c ins st L = none := by
  cases ins <;> simp only [km_loc, reduceCtorEq] at h1
  all_goals exact ⟨rfl, rfl, rfl, rfl⟩
theorem km_run_le {xs : Nat → Int32} {Lx : Nat} : ∀ (f d m pc : Nat) (ls : km_L) (st : List Value) (L : km_M) (r : Option Value × km_M), km_run xs Lx f d m pc ls st L = some r → ∀ (g : Nat) (ls' : km_L), f ≤ g → km_Le ls ls' → km_run xs Lx g d m pc ls' st L = some r := by
  intro f
  induction f with
  | zero => intro d m pc ls st L r h; cases h
  | succ f ih =>
    intro d m pc ls st L r h g ls' hg hle
    obtain ⟨g, rfl⟩ : ∃ k, g = k + 1 := ⟨g - 1, by omega⟩
    have hg : f ≤ g := by omega
    unfold km_run at h ⊢
    split at h
    · cases h
    · rename_i q hq
      (try rw [hq])
      (try dsimp only)
      split at h
      · cases h
      · rename_i ins hins
        (try rw [hins])
        (try dsimp only)
        split at h
        · rename_i st2 hp
          (try rw [hp])
          exact ih _ _ _ _ _ _ _ h g ls' hg hle
        · rename_i hp
          (try rw [hp])
          (try dsimp only)
          split at h
          · rename_i ls2 st2 hl
            obtain ⟨l3, h3, h4⟩ := km_loc_le hle hl
            (try rw [h3])
            exact ih _ _ _ _ _ _ _ h g l3 hg h4
          · rename_i hl
            have hl' : km_loc ins ls' st = none ∨ False := by
              cases hx : km_loc ins ls' st with
              | none => exact Or.inl rfl
              | some x =>
                obtain ⟨e1, e2, e3, e4⟩ := km_loc_none hl hx pc xs Lx q.2.2.2.2.1 (km_init m) L q.2.2.2.1
                rw [e1, e2, e3, e4] at h
                cases h
            (try rw [hl'.resolve_right id])
            (try dsimp only)
            split at h
            · rename_i hj
              (try rw [hj])
              exact ih _ _ _ _ _ _ _ h g ls' hg hle
            · rename_i hj
              (try rw [hj])
              (try dsimp only)
              split at h
              · rename_i hm
                (try rw [hm])
                exact ih _ _ _ _ _ _ _ h g ls' hg hle
              · rename_i hm
                (try rw [hm])
                (try dsimp only)
                split at h
                · rename_i hr
                  (try rw [hr])
                  exact h
                · rename_i hr
                  (try rw [hr])
                  (try dsimp only)
                  split at h
                  · cases h
                  · rename_i j as rest hv
                    (try rw [hv])
                    (try dsimp only)
                    split at h
                    · cases h
                    · (try dsimp only)
                      split at h
                      · cases h
                      · rename_i qj hqj
                        (try rw [hqj])
                        (try dsimp only)
                        split at h
                        · cases h
                        · rename_i r1 L1 hc
                          rcases km_cb hc with ⟨hb, hc⟩ | ⟨-, hc⟩
                          · rw [hb]
                            have h5 := ih _ _ _ _ _ _ _ hc g _ hg km_Le.rf
                            (try dsimp only [cond_true])
                            (try rw [h5])
                            exact ih _ _ _ _ _ _ _ h g ls' hg hle
                          · cases hc
/-! the view: addresses, places, whole numbers -/
abbrev km_V : Type := Nat → Nat → Int
abbrev kI (x : Int) : Value := .int (Int32.ofInt x)
abbrev kJ (x : Int) : Value := .long (Int64.ofInt x)
def km_el (k i : Nat) : Nat := cond (Nat.blt k 10) (match km_Ty k i with | .int => 0 | .boolean => 0 | .long => 1 | _ => 2) (match k with | 10 => 0 | 11 => 0 | 13 => 0 | 12 => 1 | _ => 2)
def km_vl (k a i : Nat) (x : Int) : Value := match km_el k i with
  | 0 => kI x
  | 1 => kJ x
  | _ => .ref (km_rf a i)
def km_Vw (V : km_V) (L : km_M) : Prop := L.length = km_sh.length ∧ ∀ a k n, km_sh[a]? = some (k, n) → ∃ f, L[a]? = some (k, n, f) ∧ ∀ i, i < n → f i = km_vl k a i (V a i)
def up (V : km_V) (a i : Nat) (x : Int) : km_V := fun b j => if b = a ∧ j = i then x else V b j
theorem km_Vw.rd {V : km_V} {L : km_M} (h : km_Vw V L) {a k n i : Nat} (hs : km_sh[a]? = some (k, n)) (hi : i < n) : km_rd L a k i = some (km_vl k a i (V a i)) := by
  obtain ⟨f, h1, h2⟩ := h.2 a k n hs
  unfold km_rd
  rw [h1]
  dsimp only
  rw [Nat.beq_refl, show Nat.blt i n = true from Nat.ble_eq_true_of_le hi]
  exact congrArg some (h2 i hi)
theorem km_Vw.wr {V : km_V} {L : km_M} (h : km_Vw V L) {a k n i : Nat} (hs : km_sh[a]? = some (k, n)) (hi : i < n) {v : Value} {x : Int} (hv : v = km_vl k a i x) : ∃ L', km_wr L a k i v = some L' ∧ km_Vw (up V a i x) L' := by
  obtain ⟨f, h1, h2⟩ := h.2 a k n hs
  refine ⟨L.set a (k, n, updV f i v), ?_, ?_, ?_⟩
  · unfold km_wr
    rw [h1]
    dsimp only
    rw [Nat.beq_refl, show Nat.blt i n = true from Nat.ble_eq_true_of_le hi]
    rfl
  · rw [List.length_set]; exact h.1
  · intro b kb nb hb
    by_cases hab : a = b
    · subst hab
      rw [hs] at hb
      cases hb
      refine ⟨updV f i v, by rw [List.getElem?_set_self (km_lt h1)], fun j hj => ?_⟩
      unfold updV up
      by_cases hj2 : j = i
      · subst hj2
        rw [if_pos rfl, if_pos ⟨rfl, rfl⟩]
        exact hv
      · rw [if_neg hj2, if_neg (fun z => hj2 z.2)]
        exact h2 j hj
    · obtain ⟨g, g1, g2⟩ := h.2 b kb nb hb
      refine ⟨g, by rw [List.getElem?_set_ne hab]; exact g1, fun j hj => ?_⟩
      unfold up
      rw [if_neg (fun z => hab z.1.symm)]
      exact g2 j hj
theorem km_Vw.kd {V : km_V} {L : km_M} (h : km_Vw V L) {a k n : Nat} (hs : km_sh[a]? = some (k, n)) : km_kd L a k = true := by
  obtain ⟨f, h1, -⟩ := h.2 a k n hs
  unfold km_kd
  rw [h1]
  exact Nat.beq_refl k
end
section
/-! THE LOGIC'S JUDGEMENT: from this place, with this view, the run comes to an end, and Q holds of its answer and view -/
def kGo (xs : Nat → Int32) (Lx d m pc : Nat) (ls : km_L) (st : List Value) (V : km_V) (Q : Option Value → km_V → Prop) : Prop := ∀ L, km_Vw V L → ∃ (f : Nat) (r : Option Value) (L' : km_M) (V' : km_V), km_run xs Lx f d m pc ls st L = some (r, L') ∧ km_Vw V' L' ∧ Q r V'
theorem kGo.mono {xs : Nat → Int32} {Lx d m pc : Nat} {ls : km_L} {st : List Value} {V : km_V} {Q Q' : Option Value → km_V → Prop} (h : kGo xs Lx d m pc ls st V Q) (hq : ∀ r V', Q r V' → Q' r V') : kGo xs Lx d m pc ls st V Q' := by
  intro L hL
  obtain ⟨f, r, L', V', h1, h2, h3⟩ := h L hL
  exact ⟨f, r, L', V', h1, h2, hq _ _ h3⟩
theorem kGo.weak {xs : Nat → Int32} {Lx d m pc : Nat} {ls ls' : km_L} {st : List Value} {V : km_V} {Q : Option Value → km_V → Prop} (hl : km_Le ls ls') (h : kGo xs Lx d m pc ls st V Q) : kGo xs Lx d m pc ls' st V Q := by
  intro L hL
  obtain ⟨f, r, L', V', h1, h2⟩ := h L hL
  exact ⟨f, r, L', V', km_run_le _ _ _ _ _ _ _ _ h1 f ls' (Nat.le_refl f) hl, h2⟩
def km_leb : km_L → km_L → Bool
  | [], [] => true
  | none :: t, _ :: t' => km_leb t t'
  | _, _ => false
section ST
variable {xs : Nat → Int32} {Lx d m pc : Nat} {ls : km_L} {st : List Value} {V : km_V} {Q : Option Value → km_V → Prop} {q : km_Q}
theorem g_pure {ins : KI} {st' : List Value} (hq : km_T[m]? = some q) (hi : km_at q.2.2.2.2.2.2.2 pc = some ins) (hp : km_pure q.2.2.2.2.1 ins st = some st') (k : kGo xs Lx d m (pc + km_len ins) ls st' V Q) : kGo xs Lx d m pc ls st V Q := by
  intro L hL
  obtain ⟨f, r, L', V', h1, h2⟩ := k L hL
  refine ⟨f + 1, r, L', V', ?_, h2⟩
  unfold km_run
  simp only [hq, hi, hp]
  exact h1
theorem g_loc {ins : KI} {ls' : km_L} {st' : List Value} (hq : km_T[m]? = some q) (hi : km_at q.2.2.2.2.2.2.2 pc = some ins) (hp : km_pure q.2.2.2.2.1 ins st = none) (hl : km_loc ins ls st = some (ls', st')) (k : kGo xs Lx d m (pc + km_len ins) ls' st' V Q) : kGo xs Lx d m pc ls st V Q := by
  intro L hL
  obtain ⟨f, r, L', V', h1, h2⟩ := k L hL
  refine ⟨f + 1, r, L', V', ?_, h2⟩
  unfold km_run
  simp only [hq, hi, hp, hl]
  exact h1
theorem g_jmp {ins : KI} {pc' : Nat} {st' : List Value} (hq : km_T[m]? = some q) (hi : km_at q.2.2.2.2.2.2.2 pc = some ins) (hp : km_pure q.2.2.2.2.1 ins st = none) (hl : km_loc ins ls st = none) (hj : km_jmp pc ins st = some (pc', st')) (k : kGo xs Lx d m pc' ls st' V Q) : kGo xs Lx d m pc ls st V Q := by
  intro L hL
  obtain ⟨f, r, L', V', h1, h2⟩ := k L hL
  refine ⟨f + 1, r, L', V', ?_, h2⟩
  unfold km_run
  simp only [hq, hi, hp, hl, hj]
  exact h1
theorem g_mem {ins : KI} {st' : List Value} {V1 : km_V} (hq : km_T[m]? = some q) (hi : km_at q.2.2.2.2.2.2.2 pc = some ins) (hp : km_pure q.2.2.2.2.1 ins st = none) (hl : km_loc ins ls st = none) (hj : km_jmp pc ins st = none) (hm : ∀ L, km_Vw V L → ∃ L1, km_mem xs Lx q.2.2.2.2.1 (km_init m) ins st L = some (st', L1) ∧ km_Vw V1 L1) (k : kGo xs Lx d m (pc + km_len ins) ls st' V1 Q) : kGo xs Lx d m pc ls st V Q := by
  intro L hL
  obtain ⟨L1, e1, e2⟩ := hm L hL
  obtain ⟨f, r, L', V', h1, h2⟩ := k L1 e2
  refine ⟨f + 1, r, L', V', ?_, h2⟩
  unfold km_run
  simp only [hq, hi, hp, hl, hj, e1]
  exact h1
theorem g_ret {ins : KI} {r : Option Value} (hq : km_T[m]? = some q) (hi : km_at q.2.2.2.2.2.2.2 pc = some ins) (hp : km_pure q.2.2.2.2.1 ins st = none) (hl : km_loc ins ls st = none) (hj : km_jmp pc ins st = none) (hm : ∀ L, km_mem xs Lx q.2.2.2.2.1 (km_init m) ins st L = none) (hr : km_ret q.2.2.2.1 ins st = some r) (k : Q r V) : kGo xs Lx d m pc ls st V Q := by
  intro L hL
  refine ⟨1, r, L, V, ?_, hL, k⟩
  unfold km_run
  simp only [hq, hi, hp, hl, hj, hm L, hr]
theorem g_inv {ins : KI} {j : Nat} {as rest : List Value} {qj : km_Q} (hq : km_T[m]? = some q) (hi : km_at q.2.2.2.2.2.2.2 pc = some ins) (hp : km_pure q.2.2.2.2.1 ins st = none) (hl : km_loc ins ls st = none) (hj : km_jmp pc ins st = none) (hm : ∀ L, km_mem xs Lx q.2.2.2.2.1 (km_init m) ins st L = none) (hr : km_ret q.2.2.2.1 ins st = none) (hv : ∀ L, km_Vw V L → km_inv q.2.2.2.2.1 ins st L = some (j, as, rest)) (hqj : km_T[j]? = some qj) (hle : Nat.ble (km_lay as).length qj.2.2.1 = true)
    (k : kGo xs Lx d j 0 (km_ent qj.2.2.1 as) [] V (fun r V' => kGo xs Lx (d + 1) m (pc + 3) ls (r.toList ++ rest) V' Q)) : kGo xs Lx (d + 1) m pc ls st V Q := by
  intro L hL
  obtain ⟨f1, r1, L1, V1, h1, h2, h3⟩ := k L hL
  obtain ⟨f2, r2, L2, V2, h4, h5⟩ := h3 L1 h2
  refine ⟨f1 + f2 + 1, r2, L2, V2, ?_, h5⟩
  unfold km_run
  simp only [hq, hi, hp, hl, hj, hm L, hr, hv L hL, hqj, hle]
  rw [km_run_le _ _ _ _ _ _ _ _ h1 (f1 + f2) _ (by omega) km_Le.rf]
  exact km_run_le _ _ _ _ _ _ _ _ h4 (f1 + f2) _ (by omega) km_Le.rf
end ST
end
section
/-! the steps, over whole numbers -/
theorem k32 {x : Int} (h : -2147483648 ≤ x ∧ x ≤ 2147483647) : (Int32.ofInt x).toInt = x := Int32.toInt_ofInt_of_le (by omega) (by omega)
theorem k64 {x : Int} (h : -9223372036854775808 ≤ x ∧ x ≤ 9223372036854775807) : (Int64.ofInt x).toInt = x := Int64.toInt_ofInt_of_le (by omega) (by omega)
theorem k32_lt {x y : Int} (hx : -2147483648 ≤ x ∧ x ≤ 2147483647) (hy : -2147483648 ≤ y ∧ y ≤ 2147483647) : (Int32.ofInt x < Int32.ofInt y) ↔ x < y := by rw [Int32.lt_iff_toInt_lt, k32 hx, k32 hy]
theorem k32_le {x y : Int} (hx : -2147483648 ≤ x ∧ x ≤ 2147483647) (hy : -2147483648 ≤ y ∧ y ≤ 2147483647) : (Int32.ofInt x ≤ Int32.ofInt y) ↔ x ≤ y := by rw [Int32.le_iff_toInt_le, k32 hx, k32 hy]
theorem k32_eq {x y : Int} (hx : -2147483648 ≤ x ∧ x ≤ 2147483647) (hy : -2147483648 ≤ y ∧ y ≤ 2147483647) : (Int32.ofInt x = Int32.ofInt y) ↔ x = y := by rw [← Int32.toInt_inj, k32 hx, k32 hy]
theorem k64_eq {x y : Int} (hx : -9223372036854775808 ≤ x ∧ x ≤ 9223372036854775807) (hy : -9223372036854775808 ≤ y ∧ y ≤ 9223372036854775807) : (Int64.ofInt x = Int64.ofInt y) ↔ x = y := by rw [← Int64.toInt_inj, k64 hx, k64 hy]
theorem k32_of {x : Int32} {z : Int} (h : x.toInt = z) : x = Int32.ofInt z := by rw [← h, Int32.ofInt_toInt]
theorem k64_of {x : Int64} {z : Int} (h : x.toInt = z) : x = Int64.ofInt z := by rw [← h, Int64.ofInt_toInt]
theorem k_bmod {z : Int} (h : -2147483648 ≤ z ∧ z ≤ 2147483647) : z.bmod (2 ^ 32) = z := by
  rw [show ((2 ^ 32 : Nat)) = 4294967296 from rfl, Int.bmod_def]
  omega
theorem k_bmod64 {z : Int} (h : -9223372036854775808 ≤ z ∧ z ≤ 9223372036854775807) : z.bmod (2 ^ 64) = z := by
  rw [show ((2 ^ 64 : Nat)) = 18446744073709551616 from rfl, Int.bmod_def]
  omega
theorem k_tdiv {x y : Int} (h0 : 0 ≤ x) (h1 : 0 < y) : x.tdiv y = x / y ∧ 0 ≤ x / y ∧ x / y ≤ x := by
  refine ⟨Int.tdiv_eq_ediv_of_nonneg h0, Int.ediv_nonneg h0 (by omega), Int.ediv_le_self _ h0⟩
theorem k_div {x y : Int} (hx : 0 ≤ x ∧ x ≤ 2147483647) (hy : 0 < y ∧ y ≤ 2147483647) : Int32.ofInt x / Int32.ofInt y = Int32.ofInt (x / y) := by
  obtain ⟨e, h1, h2⟩ := k_tdiv hx.1 hy.1
  refine k32_of ?_
  rw [Int32.toInt_div, k32 (by omega), k32 (by omega), e, k_bmod (by omega)]
theorem k_divT {x y : Int} (hx : -2147483648 ≤ x ∧ x ≤ 2147483647) (hy : -2147483648 ≤ y ∧ y ≤ 2147483647) : Int32.ofInt x / Int32.ofInt y = Int32.ofInt (x.tdiv y) := by
  rw [← Int32.toInt_inj, Int32.toInt_div, k32 hx, k32 hy, Int32.toInt_ofInt]
theorem k_divT64 {x y : Int} (hx : -9223372036854775808 ≤ x ∧ x ≤ 9223372036854775807) (hy : -9223372036854775808 ≤ y ∧ y ≤ 9223372036854775807) : Int64.ofInt x / Int64.ofInt y = Int64.ofInt (x.tdiv y) := by
  rw [← Int64.toInt_inj, Int64.toInt_div, k64 hx, k64 hy, Int64.toInt_ofInt]
section TY
variable {xs : Nat → Int32} {Lx d m pc : Nat} {ls : km_L} {st : List Value} {V : km_V} {Q : Option Value → km_V → Prop} {q : km_Q}
theorem g_iconst (pc' : Nat) {n : Int} (hq : km_T[m]? = some q) (hi : km_at q.2.2.2.2.2.2.2 pc = some (.iconst n)) (e : pc + 1 = pc') (k : kGo xs Lx d m pc' ls (kI n :: st) V Q) : kGo xs Lx d m pc ls st V Q := by
  subst e; exact g_pure hq hi rfl k
theorem g_bipush (pc' : Nat) {n : Int} (hq : km_T[m]? = some q) (hi : km_at q.2.2.2.2.2.2.2 pc = some (.bipush n)) (e : pc + 2 = pc') (h : (Int8.ofInt n).toInt32 = Int32.ofInt n) (k : kGo xs Lx d m pc' ls (kI n :: st) V Q) : kGo xs Lx d m pc ls st V Q := by
  subst e; exact g_pure hq hi (by show some _ = some _; rw [h]) k
theorem g_sipush (pc' : Nat) {n : Int} (hq : km_T[m]? = some q) (hi : km_at q.2.2.2.2.2.2.2 pc = some (.sipush n)) (e : pc + 3 = pc') (h : (Int16.ofInt n).toInt32 = Int32.ofInt n) (k : kGo xs Lx d m pc' ls (kI n :: st) V Q) : kGo xs Lx d m pc ls st V Q := by
  subst e; exact g_pure hq hi (by show some _ = some _; rw [h]) k
theorem g_lconst (pc' : Nat) (z : Int) {n : Fin 2} (hq : km_T[m]? = some q) (hi : km_at q.2.2.2.2.2.2.2 pc = some (.lconst n)) (e : pc + 1 = pc') (h : Int64.ofNat (n : Nat) = Int64.ofInt z) (k : kGo xs Lx d m pc' ls (kJ z :: st) V Q) : kGo xs Lx d m pc ls st V Q := by
  subst e; exact g_pure hq hi (by show some _ = some _; rw [h]) k
theorem g_ldc (pc' : Nat) (z : Int) {i : Nat} {v : Int32} (hq : km_T[m]? = some q) (hi : km_at q.2.2.2.2.2.2.2 pc = some (.ldc i)) (e : pc + 2 = pc') (h : km_kc q.2.2.2.2.1 i = some (.int v)) (hv : v = Int32.ofInt z) (k : kGo xs Lx d m pc' ls (kI z :: st) V Q) : kGo xs Lx d m pc ls st V Q := by
  subst e; subst hv; exact g_pure hq hi (by simp only [km_pure, h]; rfl) k
theorem g_ldcS (pc' : Nat) {i a : Nat} (hq : km_T[m]? = some q) (hi : km_at q.2.2.2.2.2.2.2 pc = some (.ldc i)) (e : pc + 2 = pc') (h : km_kc q.2.2.2.2.1 i = some (.ref a)) (k : kGo xs Lx d m pc' ls (.ref a :: st) V Q) : kGo xs Lx d m pc ls st V Q := by
  subst e; exact g_pure hq hi (by simp only [km_pure, h]; rfl) k
theorem g_ldcw (pc' : Nat) (z : Int) {i : Nat} {v : Int32} (hq : km_T[m]? = some q) (hi : km_at q.2.2.2.2.2.2.2 pc = some (.ldc_w i)) (e : pc + 3 = pc') (h : km_kc q.2.2.2.2.1 i = some (.int v)) (hv : v = Int32.ofInt z) (k : kGo xs Lx d m pc' ls (kI z :: st) V Q) : kGo xs Lx d m pc ls st V Q := by
  subst e; subst hv; exact g_pure hq hi (by simp only [km_pure, h]; rfl) k
theorem g_ldc2 (pc' : Nat) (z : Int) {i : Nat} {v : Int64} (hq : km_T[m]? = some q) (hi : km_at q.2.2.2.2.2.2.2 pc = some (.ldc2_w i)) (e : pc + 3 = pc') (h : km_kc q.2.2.2.2.1 i = some (.long v)) (hv : v = Int64.ofInt z) (k : kGo xs Lx d m pc' ls (kJ z :: st) V Q) : kGo xs Lx d m pc ls st V Q := by
  subst e; subst hv; exact g_pure hq hi (by simp only [km_pure, h]; rfl) k
theorem g_iadd (pc' : Nat) {x y : Int} (hq : km_T[m]? = some q) (hi : km_at q.2.2.2.2.2.2.2 pc = some .iadd) (e : pc + 1 = pc') (k : kGo xs Lx d m pc' ls (kI (x + y) :: st) V Q) : kGo xs Lx d m pc ls (kI y :: kI x :: st) V Q := by
  subst e; exact g_pure hq hi (by simp only [km_pure, km_ii, km_ll, km_i1, km_l1, kI, kJ, Int32.ofInt_add]) k
theorem g_isub (pc' : Nat) {x y : Int} (hq : km_T[m]? = some q) (hi : km_at q.2.2.2.2.2.2.2 pc = some .isub) (e : pc + 1 = pc') (k : kGo xs Lx d m pc' ls (kI (x - y) :: st) V Q) : kGo xs Lx d m pc ls (kI y :: kI x :: st) V Q := by
  subst e; exact g_pure hq hi (by simp only [km_pure, km_ii, km_ll, km_i1, km_l1, kI, kJ, Int32.ofInt_sub]) k
theorem g_imul (pc' : Nat) {x y : Int} (hq : km_T[m]? = some q) (hi : km_at q.2.2.2.2.2.2.2 pc = some .imul) (e : pc + 1 = pc') (k : kGo xs Lx d m pc' ls (kI (x * y) :: st) V Q) : kGo xs Lx d m pc ls (kI y :: kI x :: st) V Q := by
  subst e; exact g_pure hq hi (by simp only [km_pure, km_ii, km_ll, km_i1, km_l1, kI, kJ, Int32.ofInt_mul]) k
theorem g_ineg (pc' : Nat) {x : Int} (hq : km_T[m]? = some q) (hi : km_at q.2.2.2.2.2.2.2 pc = some .ineg) (e : pc + 1 = pc') (k : kGo xs Lx d m pc' ls (kI (-x) :: st) V Q) : kGo xs Lx d m pc ls (kI x :: st) V Q := by
  subst e; exact g_pure hq hi (by simp only [km_pure, km_ii, km_ll, km_i1, km_l1, kI, kJ, Int32.ofInt_neg]) k
theorem g_ladd (pc' : Nat) {x y : Int} (hq : km_T[m]? = some q) (hi : km_at q.2.2.2.2.2.2.2 pc = some .ladd) (e : pc + 1 = pc') (k : kGo xs Lx d m pc' ls (kJ (x + y) :: st) V Q) : kGo xs Lx d m pc ls (kJ y :: kJ x :: st) V Q := by
  subst e; exact g_pure hq hi (by simp only [km_pure, km_ii, km_ll, km_i1, km_l1, kI, kJ, Int64.ofInt_add]) k
theorem g_lsub (pc' : Nat) {x y : Int} (hq : km_T[m]? = some q) (hi : km_at q.2.2.2.2.2.2.2 pc = some .lsub) (e : pc + 1 = pc') (k : kGo xs Lx d m pc' ls (kJ (x - y) :: st) V Q) : kGo xs Lx d m pc ls (kJ y :: kJ x :: st) V Q := by
  subst e; exact g_pure hq hi (by simp only [km_pure, km_ii, km_ll, km_i1, km_l1, kI, kJ, Int64.ofInt_sub]) k
theorem g_lmul (pc' : Nat) {x y : Int} (hq : km_T[m]? = some q) (hi : km_at q.2.2.2.2.2.2.2 pc = some .lmul) (e : pc + 1 = pc') (k : kGo xs Lx d m pc' ls (kJ (x * y) :: st) V Q) : kGo xs Lx d m pc ls (kJ y :: kJ x :: st) V Q := by
  subst e; exact g_pure hq hi (by simp only [km_pure, km_ii, km_ll, km_i1, km_l1, kI, kJ, Int64.ofInt_mul]) k
theorem g_lneg (pc' : Nat) {x : Int} (hq : km_T[m]? = some q) (hi : km_at q.2.2.2.2.2.2.2 pc = some .lneg) (e : pc + 1 = pc') (k : kGo xs Lx d m pc' ls (kJ (-x) :: st) V Q) : kGo xs Lx d m pc ls (kJ x :: st) V Q := by
  subst e; exact g_pure hq hi (by simp only [km_pure, km_ii, km_ll, km_i1, km_l1, kI, kJ, Int64.ofInt_neg]) k
theorem g_idiv (pc' : Nat) {x y : Int} (hq : km_T[m]? = some q) (hi : km_at q.2.2.2.2.2.2.2 pc = some .idiv) (e : pc + 1 = pc') (hx : 0 ≤ x ∧ x ≤ 2147483647) (hy : 0 < y ∧ y ≤ 2147483647) (k : kGo xs Lx d m pc' ls (kI (x / y) :: st) V Q) : kGo xs Lx d m pc ls (kI y :: kI x :: st) V Q := by
  subst e
  refine g_pure hq hi ?_ k
  have h0 : ¬ Int32.ofInt y = 0 := fun z => by
    have := (k32_eq (x := y) (y := 0) (by omega) (by omega)).mp z
    omega
  simp only [km_pure, km_ii, kI, if_neg h0, k_div hx hy]
theorem g_irem (pc' : Nat) {x y : Int} (hq : km_T[m]? = some q) (hi : km_at q.2.2.2.2.2.2.2 pc = some .irem) (e : pc + 1 = pc') (hx : 0 ≤ x ∧ x ≤ 2147483647) (hy : 0 < y ∧ y ≤ 2147483647) (k : kGo xs Lx d m pc' ls (kI (x % y) :: st) V Q) : kGo xs Lx d m pc ls (kI y :: kI x :: st) V Q := by
  subst e
  refine g_pure hq hi ?_ k
  have h0 : ¬ Int32.ofInt y = 0 := fun z => by
    have := (k32_eq (x := y) (y := 0) (by omega) (by omega)).mp z
    omega
  simp only [km_pure, km_ii, kI, if_neg h0, k_div hx hy]
  rw [← Int32.ofInt_mul, ← Int32.ofInt_sub]
  have e1 : x - x / y * y = x % y := by rw [Int.emod_def, Int.mul_comm]
  rw [e1]
theorem g_idivT (pc' : Nat) {x y : Int} (hq : km_T[m]? = some q) (hi : km_at q.2.2.2.2.2.2.2 pc = some .idiv) (e : pc + 1 = pc') (hx : -2147483648 ≤ x ∧ x ≤ 2147483647) (hy : (-2147483648 ≤ y ∧ y ≤ 2147483647) ∧ y ≠ 0) (k : kGo xs Lx d m pc' ls (kI (x.tdiv y) :: st) V Q) : kGo xs Lx d m pc ls (kI y :: kI x :: st) V Q := by
  subst e
  refine g_pure hq hi ?_ k
  have h0 : ¬ Int32.ofInt y = 0 := fun z => hy.2 ((k32_eq (x := y) (y := 0) hy.1 (by omega)).mp z)
  simp only [km_pure, km_ii, kI, if_neg h0, k_divT hx hy.1]
theorem g_iremT (pc' : Nat) {x y : Int} (hq : km_T[m]? = some q) (hi : km_at q.2.2.2.2.2.2.2 pc = some .irem) (e : pc + 1 = pc') (hx : -2147483648 ≤ x ∧ x ≤ 2147483647) (hy : (-2147483648 ≤ y ∧ y ≤ 2147483647) ∧ y ≠ 0) (k : kGo xs Lx d m pc' ls (kI (x.tmod y) :: st) V Q) : kGo xs Lx d m pc ls (kI y :: kI x :: st) V Q := by
  subst e
  refine g_pure hq hi ?_ k
  have h0 : ¬ Int32.ofInt y = 0 := fun z => hy.2 ((k32_eq (x := y) (y := 0) hy.1 (by omega)).mp z)
  simp only [km_pure, km_ii, kI, if_neg h0, k_divT hx hy.1]
  rw [← Int32.ofInt_mul, ← Int32.ofInt_sub]
  have e1 : x - x.tdiv y * y = x.tmod y := by rw [Int.tmod_def, Int.mul_comm]
  rw [e1]
theorem g_ldivT (pc' : Nat) {x y : Int} (hq : km_T[m]? = some q) (hi : km_at q.2.2.2.2.2.2.2 pc = some .ldiv) (e : pc + 1 = pc') (hx : -9223372036854775808 ≤ x ∧ x ≤ 9223372036854775807) (hy : (-9223372036854775808 ≤ y ∧ y ≤ 9223372036854775807) ∧ y ≠ 0) (k : kGo xs Lx d m pc' ls (kJ (x.tdiv y) :: st) V Q) : kGo xs Lx d m pc ls (kJ y :: kJ x :: st) V Q := by
  subst e
  refine g_pure hq hi ?_ k
  have h0 : ¬ Int64.ofInt y = 0 := fun z => hy.2 ((k64_eq (x := y) (y := 0) hy.1 (by omega)).mp z)
  simp only [km_pure, km_ll, kJ, if_neg h0, k_divT64 hx hy.1]
theorem g_lremT (pc' : Nat) {x y : Int} (hq : km_T[m]? = some q) (hi : km_at q.2.2.2.2.2.2.2 pc = some .lrem) (e : pc + 1 = pc') (hx : -9223372036854775808 ≤ x ∧ x ≤ 9223372036854775807) (hy : (-9223372036854775808 ≤ y ∧ y ≤ 9223372036854775807) ∧ y ≠ 0) (k : kGo xs Lx d m pc' ls (kJ (x.tmod y) :: st) V Q) : kGo xs Lx d m pc ls (kJ y :: kJ x :: st) V Q := by
  subst e
  refine g_pure hq hi ?_ k
  have h0 : ¬ Int64.ofInt y = 0 := fun z => hy.2 ((k64_eq (x := y) (y := 0) hy.1 (by omega)).mp z)
  simp only [km_pure, km_ll, kJ, if_neg h0, k_divT64 hx hy.1]
  rw [← Int64.ofInt_mul, ← Int64.ofInt_sub]
  have e1 : x - x.tdiv y * y = x.tmod y := by rw [Int.tmod_def, Int.mul_comm]
  rw [e1]
theorem g_i2l (pc' : Nat) {x : Int} (hq : km_T[m]? = some q) (hi : km_at q.2.2.2.2.2.2.2 pc = some .i2l) (e : pc + 1 = pc') (hx : -2147483648 ≤ x ∧ x ≤ 2147483647) (k : kGo xs Lx d m pc' ls (kJ x :: st) V Q) : kGo xs Lx d m pc ls (kI x :: st) V Q := by
  subst e
  refine g_pure hq hi ?_ k
  simp only [km_pure, km_i1, kI, kJ]
  rw [← Int64.ofInt_int32ToInt, k32 hx]
theorem g_l2i (pc' : Nat) {x : Int} (hq : km_T[m]? = some q) (hi : km_at q.2.2.2.2.2.2.2 pc = some .l2i) (e : pc + 1 = pc') (k : kGo xs Lx d m pc' ls (kI x :: st) V Q) : kGo xs Lx d m pc ls (kJ x :: st) V Q := by
  subst e
  refine g_pure hq hi ?_ k
  simp only [km_pure, km_l1, kI, kJ]
  rw [Int64.toInt32_ofInt]
theorem g_dup (pc' : Nat) {v : Value} (hq : km_T[m]? = some q) (hi : km_at q.2.2.2.2.2.2.2 pc = some .dup) (e : pc + 1 = pc') (hv : v.category = 1) (k : kGo xs Lx d m pc' ls (v :: v :: st) V Q) : kGo xs Lx d m pc ls (v :: st) V Q := by
  subst e; exact g_pure hq hi (by simp only [km_pure, km_dup, if_pos hv]) k
theorem g_dup2 (pc' : Nat) {v w : Value} (hq : km_T[m]? = some q) (hi : km_at q.2.2.2.2.2.2.2 pc = some .dup2) (e : pc + 1 = pc') (hv : v.category = 1) (hw : w.category = 1) (k : kGo xs Lx d m pc' ls (v :: w :: v :: w :: st) V Q) : kGo xs Lx d m pc ls (v :: w :: st) V Q := by
  subst e; exact g_pure hq hi (by simp only [km_pure, km_dup2, if_pos (And.intro hv hw)]) k
theorem g_pop (pc' : Nat) {v : Value} (hq : km_T[m]? = some q) (hi : km_at q.2.2.2.2.2.2.2 pc = some .pop) (e : pc + 1 = pc') (hv : v.category = 1) (k : kGo xs Lx d m pc' ls st V Q) : kGo xs Lx d m pc ls (v :: st) V Q := by
  subst e; exact g_pure hq hi (by simp only [km_pure, km_pop, if_pos hv]) k
end TY
end
section
/-! bits, over whole numbers -/
theorem k_and (a b : Nat) : Int32.ofInt a &&& Int32.ofInt b = Int32.ofInt ((a &&& b : Nat) : Int) := by
  rw [← Int32.toBitVec_inj, Int32.toBitVec_and, Int32.toBitVec_ofInt, Int32.toBitVec_ofInt, Int32.toBitVec_ofInt, BitVec.ofInt_natCast, BitVec.ofInt_natCast, BitVec.ofInt_natCast, BitVec.ofNat_and]
theorem k_or (a b : Nat) : Int32.ofInt a ||| Int32.ofInt b = Int32.ofInt ((a ||| b : Nat) : Int) := by
  rw [← Int32.toBitVec_inj, Int32.toBitVec_or, Int32.toBitVec_ofInt, Int32.toBitVec_ofInt, Int32.toBitVec_ofInt, BitVec.ofInt_natCast, BitVec.ofInt_natCast, BitVec.ofInt_natCast, BitVec.ofNat_or]
theorem k_xor (a b : Nat) : Int32.ofInt a ^^^ Int32.ofInt b = Int32.ofInt ((a ^^^ b : Nat) : Int) := by
  rw [← Int32.toBitVec_inj, Int32.toBitVec_xor, Int32.toBitVec_ofInt, Int32.toBitVec_ofInt, Int32.toBitVec_ofInt, BitVec.ofInt_natCast, BitVec.ofInt_natCast, BitVec.ofInt_natCast, BitVec.ofNat_xor]
theorem k_or64 (a b : Nat) : Int64.ofInt a ||| Int64.ofInt b = Int64.ofInt ((a ||| b : Nat) : Int) := by
  rw [← Int64.toBitVec_inj, Int64.toBitVec_or, Int64.toBitVec_ofInt, Int64.toBitVec_ofInt, Int64.toBitVec_ofInt, BitVec.ofInt_natCast, BitVec.ofInt_natCast, BitVec.ofInt_natCast, BitVec.ofNat_or]
theorem k_and64 (a b : Nat) : Int64.ofInt a &&& Int64.ofInt b = Int64.ofInt ((a &&& b : Nat) : Int) := by
  rw [← Int64.toBitVec_inj, Int64.toBitVec_and, Int64.toBitVec_ofInt, Int64.toBitVec_ofInt, Int64.toBitVec_ofInt, BitVec.ofInt_natCast, BitVec.ofInt_natCast, BitVec.ofInt_natCast, BitVec.ofNat_and]
theorem k_emod (x : Int) : Int32.ofInt x = Int32.ofInt (x % 4294967296) := by
  rw [← Int32.toInt_inj, Int32.toInt_ofInt, Int32.toInt_ofInt]
  show x.bmod 4294967296 = (x % 4294967296).bmod 4294967296
  rw [Int.bmod_def, Int.bmod_def, show ((4294967296 : Nat) : Int) = 4294967296 from rfl, Int.emod_emod]
theorem k_emod64 (x : Int) : Int64.ofInt x = Int64.ofInt (x % 18446744073709551616) := by
  rw [← Int64.toInt_inj, Int64.toInt_ofInt, Int64.toInt_ofInt]
  show x.bmod 18446744073709551616 = (x % 18446744073709551616).bmod 18446744073709551616
  rw [Int.bmod_def, Int.bmod_def, show ((18446744073709551616 : Nat) : Int) = 18446744073709551616 from rfl, Int.emod_emod]
theorem k_mask (x : Int) {k : Nat} (hk : k ≤ 31) : Int32.ofInt x &&& Int32.ofInt ((2 ^ k - 1 : Nat) : Int) = Int32.ofInt (x % ((2 ^ k : Nat) : Int)) := by
  rw [k_emod x]
  obtain ⟨a, ha⟩ : ∃ a : Nat, x % 4294967296 = (a : Int) := ⟨(x % 4294967296).toNat, by omega⟩
  rw [ha, k_and, Nat.and_two_pow_sub_one_eq_mod]
  congr 1
  have hd : ((2 ^ k : Nat) : Int) ∣ 4294967296 := by
    have : (2 ^ k : Nat) ∣ 2 ^ 32 := Nat.pow_dvd_pow 2 (by omega)
    exact Int.natCast_dvd_natCast.mpr this
  rw [Int.natCast_emod, ← ha, Int.emod_emod_of_dvd _ hd]
theorem k_mask64 (x : Int) {k : Nat} (hk : k ≤ 63) : Int64.ofInt x &&& Int64.ofInt ((2 ^ k - 1 : Nat) : Int) = Int64.ofInt (x % ((2 ^ k : Nat) : Int)) := by
  rw [k_emod64 x]
  obtain ⟨a, ha⟩ : ∃ a : Nat, x % 18446744073709551616 = (a : Int) := ⟨(x % 18446744073709551616).toNat, by omega⟩
  rw [ha, k_and64, Nat.and_two_pow_sub_one_eq_mod]
  congr 1
  have hd : ((2 ^ k : Nat) : Int) ∣ 18446744073709551616 := by
    have : (2 ^ k : Nat) ∣ 2 ^ 64 := Nat.pow_dvd_pow 2 (by omega)
    exact Int.natCast_dvd_natCast.mpr this
  rw [Int.natCast_emod, ← ha, Int.emod_emod_of_dvd _ hd]
theorem k_m4 : ∀ a : Nat, a < 64 → Int32.ofInt (a : Int) &&& Int32.ofInt (-4) = Int32.ofInt ((a - a % 4 : Nat) : Int) := by decide +kernel
theorem k_sh : ∀ k : Nat, k < 32 → (Int32.ofInt (k : Int) &&& 31).toBitVec.smod 32 = BitVec.ofNat 32 k ∧ BitVec.ofInt 32 ((2 ^ k : Nat) : Int) = BitVec.twoPow 32 k := by decide +kernel
theorem k_sh64 : ∀ k : Nat, k < 64 → ((Int32.ofInt (k : Int)).toInt64 &&& 63).toBitVec.smod 64 = BitVec.ofNat 64 k ∧ BitVec.ofInt 64 ((2 ^ k : Nat) : Int) = BitVec.twoPow 64 k := by decide +kernel
theorem k_shl (x : Int) {k : Nat} (hk : k < 32) : Int32.ofInt x <<< (Int32.ofInt (k : Int) &&& 31) = Int32.ofInt (x * ((2 ^ k : Nat) : Int)) := by
  obtain ⟨h1, h2⟩ := k_sh k hk
  rw [← Int32.toBitVec_inj, Int32.toBitVec_shiftLeft, h1, Int32.toBitVec_ofInt, Int32.toBitVec_ofInt, BitVec.ofInt_mul, h2, BitVec.shiftLeft_eq', BitVec.toNat_ofNat, Nat.mod_eq_of_lt (by omega), BitVec.shiftLeft_eq_mul_twoPow]
theorem k_shl64 (x : Int) {k : Nat} (hk : k < 64) : Int64.ofInt x <<< ((Int32.ofInt (k : Int)).toInt64 &&& 63) = Int64.ofInt (x * ((2 ^ k : Nat) : Int)) := by
  obtain ⟨h1, h2⟩ := k_sh64 k hk
  rw [← Int64.toBitVec_inj, Int64.toBitVec_shiftLeft, h1, Int64.toBitVec_ofInt, Int64.toBitVec_ofInt, BitVec.ofInt_mul, h2, BitVec.shiftLeft_eq', BitVec.toNat_ofNat, Nat.mod_eq_of_lt (by omega), BitVec.shiftLeft_eq_mul_twoPow]
theorem k_shr {x : Int} (hx : -2147483648 ≤ x ∧ x ≤ 2147483647) {k : Nat} (hk : k < 32) : Int32.ofInt x >>> (Int32.ofInt (k : Int) &&& 31) = Int32.ofInt (x / ((2 ^ k : Nat) : Int)) := by
  obtain ⟨h1, -⟩ := k_sh k hk
  refine k32_of ?_
  show (Int32.ofInt x >>> (Int32.ofInt (k : Int) &&& 31)).toBitVec.toInt = _
  rw [Int32.toBitVec_shiftRight, h1]
  show ((Int32.ofInt x).toBitVec.sshiftRight (BitVec.ofNat 32 k).toNat).toInt = _
  rw [BitVec.toInt_sshiftRight, BitVec.toNat_ofNat, Nat.mod_eq_of_lt (by omega), Int.shiftRight_eq_div_pow]
  rw [show (Int32.ofInt x).toBitVec.toInt = x from k32 hx]
theorem k_shr64 {x : Int} (hx : -9223372036854775808 ≤ x ∧ x ≤ 9223372036854775807) {k : Nat} (hk : k < 64) : Int64.ofInt x >>> ((Int32.ofInt (k : Int)).toInt64 &&& 63) = Int64.ofInt (x / ((2 ^ k : Nat) : Int)) := by
  obtain ⟨h1, -⟩ := k_sh64 k hk
  refine k64_of ?_
  show (Int64.ofInt x >>> ((Int32.ofInt (k : Int)).toInt64 &&& 63)).toBitVec.toInt = _
  rw [Int64.toBitVec_shiftRight, h1]
  show ((Int64.ofInt x).toBitVec.sshiftRight (BitVec.ofNat 64 k).toNat).toInt = _
  rw [BitVec.toInt_sshiftRight, BitVec.toNat_ofNat, Nat.mod_eq_of_lt (by omega), Int.shiftRight_eq_div_pow]
  rw [show (Int64.ofInt x).toBitVec.toInt = x from k64 hx]
theorem k_nat {x : Int} (h : 0 ≤ x) : ((x.toNat : Nat) : Int) = x := Int.toNat_of_nonneg h
section TB
variable {xs : Nat → Int32} {Lx d m pc : Nat} {ls : km_L} {st : List Value} {V : km_V} {Q : Option Value → km_V → Prop} {q : km_Q}
theorem g_iandM (pc' k0 : Nat) {x y : Int} (hq : km_T[m]? = some q) (hi : km_at q.2.2.2.2.2.2.2 pc = some .iand) (e : pc + 1 = pc') (hk : k0 ≤ 31) (hy : y = ((2 ^ k0 - 1 : Nat) : Int)) (k : kGo xs Lx d m pc' ls (kI (x % ((2 ^ k0 : Nat) : Int)) :: st) V Q) : kGo xs Lx d m pc ls (kI y :: kI x :: st) V Q := by
  subst e; subst hy; exact g_pure hq hi (by simp only [km_pure, km_ii, kI, k_mask x hk]) k
theorem g_iand (pc' : Nat) {x y : Int} (hq : km_T[m]? = some q) (hi : km_at q.2.2.2.2.2.2.2 pc = some .iand) (e : pc + 1 = pc') (hx : 0 ≤ x) (hy : 0 ≤ y) (k : kGo xs Lx d m pc' ls (kI ((x.toNat &&& y.toNat : Nat) : Int) :: st) V Q) : kGo xs Lx d m pc ls (kI y :: kI x :: st) V Q := by
  subst e
  refine g_pure hq hi ?_ k
  simp only [km_pure, km_ii, kI]
  rw [← k_and, k_nat hx, k_nat hy]
theorem g_iandN (pc' : Nat) {x : Int} (hq : km_T[m]? = some q) (hi : km_at q.2.2.2.2.2.2.2 pc = some .iand) (e : pc + 1 = pc') (hx : 0 ≤ x ∧ x < 64) (k : kGo xs Lx d m pc' ls (kI (x - x % 4) :: st) V Q) : kGo xs Lx d m pc ls (kI (-4) :: kI x :: st) V Q := by
  subst e
  refine g_pure hq hi ?_ k
  simp only [km_pure, km_ii, kI]
  rw [← k_nat hx.1, k_m4 _ (by omega)]
  congr 4
  omega
theorem g_ior (pc' : Nat) {x y : Int} (hq : km_T[m]? = some q) (hi : km_at q.2.2.2.2.2.2.2 pc = some .ior) (e : pc + 1 = pc') (hx : 0 ≤ x) (hy : 0 ≤ y) (k : kGo xs Lx d m pc' ls (kI ((x.toNat ||| y.toNat : Nat) : Int) :: st) V Q) : kGo xs Lx d m pc ls (kI y :: kI x :: st) V Q := by
  subst e
  refine g_pure hq hi ?_ k
  simp only [km_pure, km_ii, kI]
  rw [← k_or, k_nat hx, k_nat hy]
theorem g_ixor (pc' : Nat) {x y : Int} (hq : km_T[m]? = some q) (hi : km_at q.2.2.2.2.2.2.2 pc = some .ixor) (e : pc + 1 = pc') (hx : 0 ≤ x) (hy : 0 ≤ y) (k : kGo xs Lx d m pc' ls (kI ((x.toNat ^^^ y.toNat : Nat) : Int) :: st) V Q) : kGo xs Lx d m pc ls (kI y :: kI x :: st) V Q := by
  subst e
  refine g_pure hq hi ?_ k
  simp only [km_pure, km_ii, kI]
  rw [← k_xor, k_nat hx, k_nat hy]
theorem g_lor (pc' : Nat) {x y : Int} (hq : km_T[m]? = some q) (hi : km_at q.2.2.2.2.2.2.2 pc = some .lor) (e : pc + 1 = pc') (hx : 0 ≤ x) (hy : 0 ≤ y) (k : kGo xs Lx d m pc' ls (kJ ((x.toNat ||| y.toNat : Nat) : Int) :: st) V Q) : kGo xs Lx d m pc ls (kJ y :: kJ x :: st) V Q := by
  subst e
  refine g_pure hq hi ?_ k
  simp only [km_pure, km_ll, kJ]
  rw [← k_or64, k_nat hx, k_nat hy]
theorem g_landM (pc' k0 : Nat) {x y : Int} (hq : km_T[m]? = some q) (hi : km_at q.2.2.2.2.2.2.2 pc = some .land) (e : pc + 1 = pc') (hk : k0 ≤ 63) (hy : y = ((2 ^ k0 - 1 : Nat) : Int)) (k : kGo xs Lx d m pc' ls (kJ (x % ((2 ^ k0 : Nat) : Int)) :: st) V Q) : kGo xs Lx d m pc ls (kJ y :: kJ x :: st) V Q := by
  subst e; subst hy; exact g_pure hq hi (by simp only [km_pure, km_ll, kJ, k_mask64 x hk]) k
theorem g_ishl (pc' : Nat) {x y : Int} (hq : km_T[m]? = some q) (hi : km_at q.2.2.2.2.2.2.2 pc = some .ishl) (e : pc + 1 = pc') (hy : 0 ≤ y ∧ y < 32) (k : kGo xs Lx d m pc' ls (kI (x * ((2 ^ y.toNat : Nat) : Int)) :: st) V Q) : kGo xs Lx d m pc ls (kI y :: kI x :: st) V Q := by
  subst e
  refine g_pure hq hi ?_ k
  simp only [km_pure, km_ii, kI]
  rw [← k_shl x (k := y.toNat) (by omega), k_nat hy.1]
theorem g_ishr (pc' : Nat) {x y : Int} (hq : km_T[m]? = some q) (hi : km_at q.2.2.2.2.2.2.2 pc = some .ishr) (e : pc + 1 = pc') (hx : -2147483648 ≤ x ∧ x ≤ 2147483647) (hy : 0 ≤ y ∧ y < 32) (k : kGo xs Lx d m pc' ls (kI (x / ((2 ^ y.toNat : Nat) : Int)) :: st) V Q) : kGo xs Lx d m pc ls (kI y :: kI x :: st) V Q := by
  subst e
  refine g_pure hq hi ?_ k
  simp only [km_pure, km_ii, kI]
  rw [← k_shr hx (k := y.toNat) (by omega), k_nat hy.1]
theorem g_lshl (pc' : Nat) {x y : Int} (hq : km_T[m]? = some q) (hi : km_at q.2.2.2.2.2.2.2 pc = some .lshl) (e : pc + 1 = pc') (hy : 0 ≤ y ∧ y < 64) (k : kGo xs Lx d m pc' ls (kJ (x * ((2 ^ y.toNat : Nat) : Int)) :: st) V Q) : kGo xs Lx d m pc ls (kI y :: kJ x :: st) V Q := by
  subst e
  refine g_pure hq hi ?_ k
  simp only [km_pure, km_li, kI, kJ]
  rw [← k_shl64 x (k := y.toNat) (by omega), k_nat hy.1]
theorem g_lshr (pc' : Nat) {x y : Int} (hq : km_T[m]? = some q) (hi : km_at q.2.2.2.2.2.2.2 pc = some .lshr) (e : pc + 1 = pc') (hx : -9223372036854775808 ≤ x ∧ x ≤ 9223372036854775807) (hy : 0 ≤ y ∧ y < 64) (k : kGo xs Lx d m pc' ls (kJ (x / ((2 ^ y.toNat : Nat) : Int)) :: st) V Q) : kGo xs Lx d m pc ls (kI y :: kJ x :: st) V Q := by
  subst e
  refine g_pure hq hi ?_ k
  simp only [km_pure, km_li, kI, kJ]
  rw [← k_shr64 hx (k := y.toNat) (by omega), k_nat hy.1]
/-- what a byte keeps -/
def k8 (x : Int) : Int := (x + 128) % 256 - 128
theorem k_i8 (x : Int) : (Int32.ofInt x).toInt8.toInt32 = Int32.ofInt (k8 x) := by
  refine k32_of ?_
  rw [Int8.toInt_toInt32, Int32.toInt_toInt8, Int32.toInt_ofInt]
  show (x.bmod 4294967296).bmod 256 = _
  rw [Int.bmod_def, Int.bmod_def]
  unfold k8
  omega
theorem g_i2b (pc' : Nat) {x : Int} (hq : km_T[m]? = some q) (hi : km_at q.2.2.2.2.2.2.2 pc = some .i2b) (e : pc + 1 = pc') (k : kGo xs Lx d m pc' ls (kI (k8 x) :: st) V Q) : kGo xs Lx d m pc ls (kI x :: st) V Q := by
  subst e; exact g_pure hq hi (by simp only [km_pure, km_i1, kI, k_i8]) k
/-- how two longs stand -/
def kcmp (x y : Int) : Int := if y < x then 1 else if x = y then 0 else -1
theorem k_cmp {x y : Int} (hx : -9223372036854775808 ≤ x ∧ x ≤ 9223372036854775807) (hy : -9223372036854775808 ≤ y ∧ y ≤ 9223372036854775807) : lg_cmp (Int64.ofInt x) (Int64.ofInt y) = Int32.ofInt (kcmp x y) := by
  unfold lg_cmp kcmp
  simp only [gt_iff_lt, Int64.lt_iff_toInt_lt, k64 hx, k64 hy, k64_eq hx hy]
  split
  · rfl
  · split <;> rfl
theorem g_lcmp (pc' : Nat) {x y : Int} (hq : km_T[m]? = some q) (hi : km_at q.2.2.2.2.2.2.2 pc = some .lcmp) (e : pc + 1 = pc') (hx : -9223372036854775808 ≤ x ∧ x ≤ 9223372036854775807) (hy : -9223372036854775808 ≤ y ∧ y ≤ 9223372036854775807) (k : kGo xs Lx d m pc' ls (kI (kcmp x y) :: st) V Q) : kGo xs Lx d m pc ls (kJ y :: kJ x :: st) V Q := by
  subst e; exact g_pure hq hi (by simp only [km_pure, km_ll, kI, kJ, k_cmp hx hy]) k
end TB
end
section
/-! the steps: where it goes, locals, memory, calls -/
section TF
variable {xs : Nat → Int32} {Lx d m pc : Nat} {ls : km_L} {st : List Value} {V : km_V} {Q : Option Value → km_V → Prop} {q : km_Q}
theorem g_goto (pc' : Nat) {off : Int} (hq : km_T[m]? = some q) (hi : km_at q.2.2.2.2.2.2.2 pc = some (.goto off)) (e : km_tg pc off = some pc') (k : kGo xs Lx d m pc' ls st V Q) : kGo xs Lx d m pc ls st V Q :=
  g_jmp hq hi rfl rfl (by simp only [km_jmp, e]) k
theorem g_icmp_eq (t n : Nat) {x y : Int} {off : Int} (hq : km_T[m]? = some q) (hi : km_at q.2.2.2.2.2.2.2 pc = some (.if_icmp .eq off)) (e : km_tg pc off = some t) (e3 : pc + 3 = n) (hx : -2147483648 ≤ x ∧ x ≤ 2147483647) (hy : -2147483648 ≤ y ∧ y ≤ 2147483647) (kt : x = y → kGo xs Lx d m t ls st V Q) (kf : x ≠ y → kGo xs Lx d m n ls st V Q) : kGo xs Lx d m pc ls (kI y :: kI x :: st) V Q := by
  subst e3
  by_cases h : x = y
  · exact g_jmp hq hi rfl rfl (by simp only [km_jmp, e, kI, km_cmp, k32_eq hx hy, k32_lt hx hy, k32_lt hy hx, k32_le hx hy, k32_le hy hx, h, not_true_eq_false, not_false_eq_true, decide_true, decide_false, cond_true, cond_false]) (kt (by omega))
  · exact g_jmp hq hi rfl rfl (by simp only [km_jmp, e, kI, km_cmp, k32_eq hx hy, k32_lt hx hy, k32_lt hy hx, k32_le hx hy, k32_le hy hx, h, not_true_eq_false, not_false_eq_true, decide_true, decide_false, cond_true, cond_false]) (kf (by omega))
theorem g_if_eq (t n : Nat) {x : Int} {off : Int} (hq : km_T[m]? = some q) (hi : km_at q.2.2.2.2.2.2.2 pc = some (.ifCond .eq off)) (e : km_tg pc off = some t) (e3 : pc + 3 = n) (hx : -2147483648 ≤ x ∧ x ≤ 2147483647) (kt : x = 0 → kGo xs Lx d m t ls st V Q) (kf : x ≠ 0 → kGo xs Lx d m n ls st V Q) : kGo xs Lx d m pc ls (kI x :: st) V Q := by
  subst e3
  have hy : -2147483648 ≤ (0 : Int) ∧ (0 : Int) ≤ 2147483647 := by omega
  have e0 : (0 : Int32) = Int32.ofInt 0 := rfl
  by_cases h : x = 0
  · exact g_jmp hq hi rfl rfl (by simp only [km_jmp, e, kI, km_cmp, e0, k32_eq hx hy, k32_lt hx hy, k32_lt hy hx, k32_le hx hy, k32_le hy hx, h, not_true_eq_false, not_false_eq_true, decide_true, decide_false, cond_true, cond_false]) (kt (by omega))
  · exact g_jmp hq hi rfl rfl (by simp only [km_jmp, e, kI, km_cmp, e0, k32_eq hx hy, k32_lt hx hy, k32_lt hy hx, k32_le hx hy, k32_le hy hx, h, not_true_eq_false, not_false_eq_true, decide_true, decide_false, cond_true, cond_false]) (kf (by omega))
theorem g_icmp_ne (t n : Nat) {x y : Int} {off : Int} (hq : km_T[m]? = some q) (hi : km_at q.2.2.2.2.2.2.2 pc = some (.if_icmp .ne off)) (e : km_tg pc off = some t) (e3 : pc + 3 = n) (hx : -2147483648 ≤ x ∧ x ≤ 2147483647) (hy : -2147483648 ≤ y ∧ y ≤ 2147483647) (kt : x ≠ y → kGo xs Lx d m t ls st V Q) (kf : x = y → kGo xs Lx d m n ls st V Q) : kGo xs Lx d m pc ls (kI y :: kI x :: st) V Q := by
  subst e3
  by_cases h : x ≠ y
  · exact g_jmp hq hi rfl rfl (by simp only [km_jmp, e, kI, km_cmp, k32_eq hx hy, k32_lt hx hy, k32_lt hy hx, k32_le hx hy, k32_le hy hx, h, not_true_eq_false, not_false_eq_true, decide_true, decide_false, cond_true, cond_false]) (kt (by omega))
  · exact g_jmp hq hi rfl rfl (by simp only [km_jmp, e, kI, km_cmp, k32_eq hx hy, k32_lt hx hy, k32_lt hy hx, k32_le hx hy, k32_le hy hx, h, not_true_eq_false, not_false_eq_true, decide_true, decide_false, cond_true, cond_false]) (kf (by omega))
theorem g_if_ne (t n : Nat) {x : Int} {off : Int} (hq : km_T[m]? = some q) (hi : km_at q.2.2.2.2.2.2.2 pc = some (.ifCond .ne off)) (e : km_tg pc off = some t) (e3 : pc + 3 = n) (hx : -2147483648 ≤ x ∧ x ≤ 2147483647) (kt : x ≠ 0 → kGo xs Lx d m t ls st V Q) (kf : x = 0 → kGo xs Lx d m n ls st V Q) : kGo xs Lx d m pc ls (kI x :: st) V Q := by
  subst e3
  have hy : -2147483648 ≤ (0 : Int) ∧ (0 : Int) ≤ 2147483647 := by omega
  have e0 : (0 : Int32) = Int32.ofInt 0 := rfl
  by_cases h : x ≠ 0
  · exact g_jmp hq hi rfl rfl (by simp only [km_jmp, e, kI, km_cmp, e0, k32_eq hx hy, k32_lt hx hy, k32_lt hy hx, k32_le hx hy, k32_le hy hx, h, not_true_eq_false, not_false_eq_true, decide_true, decide_false, cond_true, cond_false]) (kt (by omega))
  · exact g_jmp hq hi rfl rfl (by simp only [km_jmp, e, kI, km_cmp, e0, k32_eq hx hy, k32_lt hx hy, k32_lt hy hx, k32_le hx hy, k32_le hy hx, h, not_true_eq_false, not_false_eq_true, decide_true, decide_false, cond_true, cond_false]) (kf (by omega))
theorem g_icmp_lt (t n : Nat) {x y : Int} {off : Int} (hq : km_T[m]? = some q) (hi : km_at q.2.2.2.2.2.2.2 pc = some (.if_icmp .lt off)) (e : km_tg pc off = some t) (e3 : pc + 3 = n) (hx : -2147483648 ≤ x ∧ x ≤ 2147483647) (hy : -2147483648 ≤ y ∧ y ≤ 2147483647) (kt : x < y → kGo xs Lx d m t ls st V Q) (kf : y ≤ x → kGo xs Lx d m n ls st V Q) : kGo xs Lx d m pc ls (kI y :: kI x :: st) V Q := by
  subst e3
  by_cases h : x < y
  · exact g_jmp hq hi rfl rfl (by simp only [km_jmp, e, kI, km_cmp, k32_eq hx hy, k32_lt hx hy, k32_lt hy hx, k32_le hx hy, k32_le hy hx, h, not_true_eq_false, not_false_eq_true, decide_true, decide_false, cond_true, cond_false]) (kt (by omega))
  · exact g_jmp hq hi rfl rfl (by simp only [km_jmp, e, kI, km_cmp, k32_eq hx hy, k32_lt hx hy, k32_lt hy hx, k32_le hx hy, k32_le hy hx, h, not_true_eq_false, not_false_eq_true, decide_true, decide_false, cond_true, cond_false]) (kf (by omega))
theorem g_if_lt (t n : Nat) {x : Int} {off : Int} (hq : km_T[m]? = some q) (hi : km_at q.2.2.2.2.2.2.2 pc = some (.ifCond .lt off)) (e : km_tg pc off = some t) (e3 : pc + 3 = n) (hx : -2147483648 ≤ x ∧ x ≤ 2147483647) (kt : x < 0 → kGo xs Lx d m t ls st V Q) (kf : 0 ≤ x → kGo xs Lx d m n ls st V Q) : kGo xs Lx d m pc ls (kI x :: st) V Q := by
  subst e3
  have hy : -2147483648 ≤ (0 : Int) ∧ (0 : Int) ≤ 2147483647 := by omega
  have e0 : (0 : Int32) = Int32.ofInt 0 := rfl
  by_cases h : x < 0
  · exact g_jmp hq hi rfl rfl (by simp only [km_jmp, e, kI, km_cmp, e0, k32_eq hx hy, k32_lt hx hy, k32_lt hy hx, k32_le hx hy, k32_le hy hx, h, not_true_eq_false, not_false_eq_true, decide_true, decide_false, cond_true, cond_false]) (kt (by omega))
  · exact g_jmp hq hi rfl rfl (by simp only [km_jmp, e, kI, km_cmp, e0, k32_eq hx hy, k32_lt hx hy, k32_lt hy hx, k32_le hx hy, k32_le hy hx, h, not_true_eq_false, not_false_eq_true, decide_true, decide_false, cond_true, cond_false]) (kf (by omega))
theorem g_icmp_ge (t n : Nat) {x y : Int} {off : Int} (hq : km_T[m]? = some q) (hi : km_at q.2.2.2.2.2.2.2 pc = some (.if_icmp .ge off)) (e : km_tg pc off = some t) (e3 : pc + 3 = n) (hx : -2147483648 ≤ x ∧ x ≤ 2147483647) (hy : -2147483648 ≤ y ∧ y ≤ 2147483647) (kt : y ≤ x → kGo xs Lx d m t ls st V Q) (kf : x < y → kGo xs Lx d m n ls st V Q) : kGo xs Lx d m pc ls (kI y :: kI x :: st) V Q := by
  subst e3
  by_cases h : y ≤ x
  · exact g_jmp hq hi rfl rfl (by simp only [km_jmp, e, kI, km_cmp, k32_eq hx hy, k32_lt hx hy, k32_lt hy hx, k32_le hx hy, k32_le hy hx, h, not_true_eq_false, not_false_eq_true, decide_true, decide_false, cond_true, cond_false]) (kt (by omega))
  · exact g_jmp hq hi rfl rfl (by simp only [km_jmp, e, kI, km_cmp, k32_eq hx hy, k32_lt hx hy, k32_lt hy hx, k32_le hx hy, k32_le hy hx, h, not_true_eq_false, not_false_eq_true, decide_true, decide_false, cond_true, cond_false]) (kf (by omega))
theorem g_if_ge (t n : Nat) {x : Int} {off : Int} (hq : km_T[m]? = some q) (hi : km_at q.2.2.2.2.2.2.2 pc = some (.ifCond .ge off)) (e : km_tg pc off = some t) (e3 : pc + 3 = n) (hx : -2147483648 ≤ x ∧ x ≤ 2147483647) (kt : 0 ≤ x → kGo xs Lx d m t ls st V Q) (kf : x < 0 → kGo xs Lx d m n ls st V Q) : kGo xs Lx d m pc ls (kI x :: st) V Q := by
  subst e3
  have hy : -2147483648 ≤ (0 : Int) ∧ (0 : Int) ≤ 2147483647 := by omega
  have e0 : (0 : Int32) = Int32.ofInt 0 := rfl
  by_cases h : 0 ≤ x
  · exact g_jmp hq hi rfl rfl (by simp only [km_jmp, e, kI, km_cmp, e0, k32_eq hx hy, k32_lt hx hy, k32_lt hy hx, k32_le hx hy, k32_le hy hx, h, not_true_eq_false, not_false_eq_true, decide_true, decide_false, cond_true, cond_false]) (kt (by omega))
  · exact g_jmp hq hi rfl rfl (by simp only [km_jmp, e, kI, km_cmp, e0, k32_eq hx hy, k32_lt hx hy, k32_lt hy hx, k32_le hx hy, k32_le hy hx, h, not_true_eq_false, not_false_eq_true, decide_true, decide_false, cond_true, cond_false]) (kf (by omega))
theorem g_icmp_gt (t n : Nat) {x y : Int} {off : Int} (hq : km_T[m]? = some q) (hi : km_at q.2.2.2.2.2.2.2 pc = some (.if_icmp .gt off)) (e : km_tg pc off = some t) (e3 : pc + 3 = n) (hx : -2147483648 ≤ x ∧ x ≤ 2147483647) (hy : -2147483648 ≤ y ∧ y ≤ 2147483647) (kt : y < x → kGo xs Lx d m t ls st V Q) (kf : x ≤ y → kGo xs Lx d m n ls st V Q) : kGo xs Lx d m pc ls (kI y :: kI x :: st) V Q := by
  subst e3
  by_cases h : y < x
  · exact g_jmp hq hi rfl rfl (by simp only [km_jmp, e, kI, km_cmp, k32_eq hx hy, k32_lt hx hy, k32_lt hy hx, k32_le hx hy, k32_le hy hx, h, not_true_eq_false, not_false_eq_true, decide_true, decide_false, cond_true, cond_false]) (kt (by omega))
  · exact g_jmp hq hi rfl rfl (by simp only [km_jmp, e, kI, km_cmp, k32_eq hx hy, k32_lt hx hy, k32_lt hy hx, k32_le hx hy, k32_le hy hx, h, not_true_eq_false, not_false_eq_true, decide_true, decide_false, cond_true, cond_false]) (kf (by omega))
theorem g_if_gt (t n : Nat) {x : Int} {off : Int} (hq : km_T[m]? = some q) (hi : km_at q.2.2.2.2.2.2.2 pc = some (.ifCond .gt off)) (e : km_tg pc off = some t) (e3 : pc + 3 = n) (hx : -2147483648 ≤ x ∧ x ≤ 2147483647) (kt : 0 < x → kGo xs Lx d m t ls st V Q) (kf : x ≤ 0 → kGo xs Lx d m n ls st V Q) : kGo xs Lx d m pc ls (kI x :: st) V Q := by
  subst e3
  have hy : -2147483648 ≤ (0 : Int) ∧ (0 : Int) ≤ 2147483647 := by omega
  have e0 : (0 : Int32) = Int32.ofInt 0 := rfl
  by_cases h : 0 < x
  · exact g_jmp hq hi rfl rfl (by simp only [km_jmp, e, kI, km_cmp, e0, k32_eq hx hy, k32_lt hx hy, k32_lt hy hx, k32_le hx hy, k32_le hy hx, h, not_true_eq_false, not_false_eq_true, decide_true, decide_false, cond_true, cond_false]) (kt (by omega))
  · exact g_jmp hq hi rfl rfl (by simp only [km_jmp, e, kI, km_cmp, e0, k32_eq hx hy, k32_lt hx hy, k32_lt hy hx, k32_le hx hy, k32_le hy hx, h, not_true_eq_false, not_false_eq_true, decide_true, decide_false, cond_true, cond_false]) (kf (by omega))
theorem g_icmp_le (t n : Nat) {x y : Int} {off : Int} (hq : km_T[m]? = some q) (hi : km_at q.2.2.2.2.2.2.2 pc = some (.if_icmp .le off)) (e : km_tg pc off = some t) (e3 : pc + 3 = n) (hx : -2147483648 ≤ x ∧ x ≤ 2147483647) (hy : -2147483648 ≤ y ∧ y ≤ 2147483647) (kt : x ≤ y → kGo xs Lx d m t ls st V Q) (kf : y < x → kGo xs Lx d m n ls st V Q) : kGo xs Lx d m pc ls (kI y :: kI x :: st) V Q := by
  subst e3
  by_cases h : x ≤ y
  · exact g_jmp hq hi rfl rfl (by simp only [km_jmp, e, kI, km_cmp, k32_eq hx hy, k32_lt hx hy, k32_lt hy hx, k32_le hx hy, k32_le hy hx, h, not_true_eq_false, not_false_eq_true, decide_true, decide_false, cond_true, cond_false]) (kt (by omega))
  · exact g_jmp hq hi rfl rfl (by simp only [km_jmp, e, kI, km_cmp, k32_eq hx hy, k32_lt hx hy, k32_lt hy hx, k32_le hx hy, k32_le hy hx, h, not_true_eq_false, not_false_eq_true, decide_true, decide_false, cond_true, cond_false]) (kf (by omega))
theorem g_if_le (t n : Nat) {x : Int} {off : Int} (hq : km_T[m]? = some q) (hi : km_at q.2.2.2.2.2.2.2 pc = some (.ifCond .le off)) (e : km_tg pc off = some t) (e3 : pc + 3 = n) (hx : -2147483648 ≤ x ∧ x ≤ 2147483647) (kt : x ≤ 0 → kGo xs Lx d m t ls st V Q) (kf : 0 < x → kGo xs Lx d m n ls st V Q) : kGo xs Lx d m pc ls (kI x :: st) V Q := by
  subst e3
  have hy : -2147483648 ≤ (0 : Int) ∧ (0 : Int) ≤ 2147483647 := by omega
  have e0 : (0 : Int32) = Int32.ofInt 0 := rfl
  by_cases h : x ≤ 0
  · exact g_jmp hq hi rfl rfl (by simp only [km_jmp, e, kI, km_cmp, e0, k32_eq hx hy, k32_lt hx hy, k32_lt hy hx, k32_le hx hy, k32_le hy hx, h, not_true_eq_false, not_false_eq_true, decide_true, decide_false, cond_true, cond_false]) (kt (by omega))
  · exact g_jmp hq hi rfl rfl (by simp only [km_jmp, e, kI, km_cmp, e0, k32_eq hx hy, k32_lt hx hy, k32_lt hy hx, k32_le hx hy, k32_le hy hx, h, not_true_eq_false, not_false_eq_true, decide_true, decide_false, cond_true, cond_false]) (kf (by omega))
theorem g_iload (pc' : Nat) {i : Nat} {x : Int} (hq : km_T[m]? = some q) (hi : km_at q.2.2.2.2.2.2.2 pc = some (.iload i)) (e : pc + 2 = pc') (hl : ls[i]? = some (some (kI x))) (k : kGo xs Lx d m pc' ls (kI x :: st) V Q) : kGo xs Lx d m pc ls st V Q := by
  subst e
  exact g_loc hq hi rfl (by simp only [km_loc, km_ldI, hl, kI, kJ]) k
theorem g_iload_n (pc' : Nat) {i : Fin 4} {x : Int} (hq : km_T[m]? = some q) (hi : km_at q.2.2.2.2.2.2.2 pc = some (.iload_n i)) (e : pc + 1 = pc') (hl : ls[(i : Nat)]? = some (some (kI x))) (k : kGo xs Lx d m pc' ls (kI x :: st) V Q) : kGo xs Lx d m pc ls st V Q := by
  subst e
  exact g_loc hq hi rfl (by simp only [km_loc, km_ldI, hl, kI, kJ]) k
theorem g_lload (pc' : Nat) {i : Nat} {x : Int} (hq : km_T[m]? = some q) (hi : km_at q.2.2.2.2.2.2.2 pc = some (.lload i)) (e : pc + 2 = pc') (hl : ls[i]? = some (some (kJ x))) (k : kGo xs Lx d m pc' ls (kJ x :: st) V Q) : kGo xs Lx d m pc ls st V Q := by
  subst e
  exact g_loc hq hi rfl (by simp only [km_loc, km_ldJ, hl, kI, kJ]) k
theorem g_lload_n (pc' : Nat) {i : Fin 4} {x : Int} (hq : km_T[m]? = some q) (hi : km_at q.2.2.2.2.2.2.2 pc = some (.lload_n i)) (e : pc + 1 = pc') (hl : ls[(i : Nat)]? = some (some (kJ x))) (k : kGo xs Lx d m pc' ls (kJ x :: st) V Q) : kGo xs Lx d m pc ls st V Q := by
  subst e
  exact g_loc hq hi rfl (by simp only [km_loc, km_ldJ, hl, kI, kJ]) k
theorem g_aload (pc' : Nat) {i : Nat} {x : Nat} (hq : km_T[m]? = some q) (hi : km_at q.2.2.2.2.2.2.2 pc = some (.aload i)) (e : pc + 2 = pc') (hl : ls[i]? = some (some (.ref x))) (k : kGo xs Lx d m pc' ls (.ref x :: st) V Q) : kGo xs Lx d m pc ls st V Q := by
  subst e
  exact g_loc hq hi rfl (by simp only [km_loc, km_ldA, hl, kI, kJ]) k
theorem g_aload_n (pc' : Nat) {i : Fin 4} {x : Nat} (hq : km_T[m]? = some q) (hi : km_at q.2.2.2.2.2.2.2 pc = some (.aload_n i)) (e : pc + 1 = pc') (hl : ls[(i : Nat)]? = some (some (.ref x))) (k : kGo xs Lx d m pc' ls (.ref x :: st) V Q) : kGo xs Lx d m pc ls st V Q := by
  subst e
  exact g_loc hq hi rfl (by simp only [km_loc, km_ldA, hl, kI, kJ]) k
theorem g_istore (pc' : Nat) {i : Nat} {x : Int} {ls' : km_L} (hq : km_T[m]? = some q) (hi : km_at q.2.2.2.2.2.2.2 pc = some (.istore i)) (e : pc + 2 = pc') (hl : km_st1 ls i (kI x) = some ls') (k : kGo xs Lx d m pc' ls' st V Q) : kGo xs Lx d m pc ls (kI x :: st) V Q := by
  subst e
  exact g_loc hq hi rfl (by simp only [km_loc, km_stI, kI, kJ] at hl ⊢; rw [hl]) k
theorem g_istore_n (pc' : Nat) {i : Fin 4} {x : Int} {ls' : km_L} (hq : km_T[m]? = some q) (hi : km_at q.2.2.2.2.2.2.2 pc = some (.istore_n i)) (e : pc + 1 = pc') (hl : km_st1 ls (i : Nat) (kI x) = some ls') (k : kGo xs Lx d m pc' ls' st V Q) : kGo xs Lx d m pc ls (kI x :: st) V Q := by
  subst e
  exact g_loc hq hi rfl (by simp only [km_loc, km_stI, kI, kJ] at hl ⊢; rw [hl]) k
theorem g_lstore (pc' : Nat) {i : Nat} {x : Int} {ls' : km_L} (hq : km_T[m]? = some q) (hi : km_at q.2.2.2.2.2.2.2 pc = some (.lstore i)) (e : pc + 2 = pc') (hl : km_st2 ls i (kJ x) = some ls') (k : kGo xs Lx d m pc' ls' st V Q) : kGo xs Lx d m pc ls (kJ x :: st) V Q := by
  subst e
  exact g_loc hq hi rfl (by simp only [km_loc, km_stJ, kI, kJ] at hl ⊢; rw [hl]) k
theorem g_lstore_n (pc' : Nat) {i : Fin 4} {x : Int} {ls' : km_L} (hq : km_T[m]? = some q) (hi : km_at q.2.2.2.2.2.2.2 pc = some (.lstore_n i)) (e : pc + 1 = pc') (hl : km_st2 ls (i : Nat) (kJ x) = some ls') (k : kGo xs Lx d m pc' ls' st V Q) : kGo xs Lx d m pc ls (kJ x :: st) V Q := by
  subst e
  exact g_loc hq hi rfl (by simp only [km_loc, km_stJ, kI, kJ] at hl ⊢; rw [hl]) k
theorem g_astore (pc' : Nat) {i : Nat} {x : Nat} {ls' : km_L} (hq : km_T[m]? = some q) (hi : km_at q.2.2.2.2.2.2.2 pc = some (.astore i)) (e : pc + 2 = pc') (hl : km_st1 ls i (.ref x) = some ls') (k : kGo xs Lx d m pc' ls' st V Q) : kGo xs Lx d m pc ls (.ref x :: st) V Q := by
  subst e
  exact g_loc hq hi rfl (by simp only [km_loc, km_stA, kI, kJ] at hl ⊢; rw [hl]) k
theorem g_astore_n (pc' : Nat) {i : Fin 4} {x : Nat} {ls' : km_L} (hq : km_T[m]? = some q) (hi : km_at q.2.2.2.2.2.2.2 pc = some (.astore_n i)) (e : pc + 1 = pc') (hl : km_st1 ls (i : Nat) (.ref x) = some ls') (k : kGo xs Lx d m pc' ls' st V Q) : kGo xs Lx d m pc ls (.ref x :: st) V Q := by
  subst e
  exact g_loc hq hi rfl (by simp only [km_loc, km_stA, kI, kJ] at hl ⊢; rw [hl]) k
theorem g_iinc (pc' : Nat) {i : Nat} {n x : Int} {ls' : km_L} (hq : km_T[m]? = some q) (hi : km_at q.2.2.2.2.2.2.2 pc = some (.iinc i n)) (e : pc + 3 = pc') (hx : ls[i]? = some (some (kI x))) (hl : km_st1 ls i (kI (x + n)) = some ls') (k : kGo xs Lx d m pc' ls' st V Q) : kGo xs Lx d m pc ls st V Q := by
  subst e
  refine g_loc hq hi rfl ?_ k
  simp only [kI, Int32.ofInt_add] at hx hl
  simp only [km_loc, hx, hl]
/-! memory -/
theorem km_vlI {k a i : Nat} (x : Int) (h : km_el k i = 0) : km_vl k a i x = kI x := by simp only [km_vl, h]
theorem km_vlJ {k a i : Nat} (x : Int) (h : km_el k i = 1) : km_vl k a i x = kJ x := by simp only [km_vl, h]
theorem km_vlA {k a i : Nat} (x : Int) (h : km_el k i = 2) : km_vl k a i x = .ref (km_rf a i) := by simp only [km_vl, h]
theorem g_getI (pc' : Nat) {i k j n pl a : Nat} (hq : km_T[m]? = some q) (hi : km_at q.2.2.2.2.2.2.2 pc = some (.getfield i)) (e : pc + 3 = pc') (hf : km_fF km_F q.2.2.2.2.1 i = some (k, j, pl)) (hs : km_sh[a]? = some (k, n)) (hj : Nat.blt j n = true) (he : km_el k j = 0) (kk : kGo xs Lx d m pc' ls (kI (V a j) :: st) V Q) : kGo xs Lx d m pc ls (.ref a :: st) V Q := by
  subst e
  refine g_mem hq hi rfl rfl rfl (fun L hL => ⟨L, ?_, hL⟩) kk
  simp only [km_mem, hf, hL.rd hs (Nat.le_of_ble_eq_true hj), km_vlI _ he]
theorem g_getA (pc' b : Nat) {i k j n pl a : Nat} (hq : km_T[m]? = some q) (hi : km_at q.2.2.2.2.2.2.2 pc = some (.getfield i)) (e : pc + 3 = pc') (hf : km_fF km_F q.2.2.2.2.1 i = some (k, j, pl)) (hs : km_sh[a]? = some (k, n)) (hj : Nat.blt j n = true) (he : km_el k j = 2) (hb : km_rf a j = b) (kk : kGo xs Lx d m pc' ls (.ref b :: st) V Q) : kGo xs Lx d m pc ls (.ref a :: st) V Q := by
  subst e
  subst hb
  refine g_mem hq hi rfl rfl rfl (fun L hL => ⟨L, ?_, hL⟩) kk
  simp only [km_mem, hf, hL.rd hs (Nat.le_of_ble_eq_true hj), km_vlA _ he]
theorem g_putI (pc' : Nat) {i k j n pl a : Nat} {x : Int} (hq : km_T[m]? = some q) (hi : km_at q.2.2.2.2.2.2.2 pc = some (.putfield i)) (e : pc + 3 = pc') (hf : km_fF km_F q.2.2.2.2.1 i = some (k, j, pl)) (hs : km_sh[a]? = some (k, n)) (hj : Nat.blt j n = true) (he : km_Ty k j = .int) (he0 : km_el k j = 0) (hn : (km_X k j).2.2.2 = false) (kk : kGo xs Lx d m pc' ls st (up V a j x) Q) : kGo xs Lx d m pc ls (kI x :: .ref a :: st) V Q := by
  subst e
  refine g_mem hq hi rfl rfl rfl (fun L hL => ?_) kk
  obtain ⟨L1, h1, h2⟩ := hL.wr (v := kI x) hs (Nat.le_of_ble_eq_true hj) (km_vlI x he0).symm
  refine ⟨L1, ?_, h2⟩
  simp only [kI] at h1
  simp only [km_mem, hf, he, hn, km_fit, kI, h1]
  rfl
theorem g_putZ (pc' : Nat) {i k j n pl a : Nat} {x : Int} (hq : km_T[m]? = some q) (hi : km_at q.2.2.2.2.2.2.2 pc = some (.putfield i)) (e : pc + 3 = pc') (hf : km_fF km_F q.2.2.2.2.1 i = some (k, j, pl)) (hs : km_sh[a]? = some (k, n)) (hj : Nat.blt j n = true) (he : km_Ty k j = .boolean) (he0 : km_el k j = 0) (hn : (km_X k j).2.2.2 = false) (hx : x = 0 ∨ x = 1) (kk : kGo xs Lx d m pc' ls st (up V a j x) Q) : kGo xs Lx d m pc ls (kI x :: .ref a :: st) V Q := by
  subst e
  refine g_mem hq hi rfl rfl rfl (fun L hL => ?_) kk
  obtain ⟨L1, h1, h2⟩ := hL.wr (v := kI x) hs (Nat.le_of_ble_eq_true hj) (km_vlI x he0).symm
  refine ⟨L1, ?_, h2⟩
  simp only [kI] at h1
  have h3 : km_fit .boolean (.int (Int32.ofInt x)) = true := by rcases hx with rfl | rfl <;> rfl
  simp only [km_mem, hf, he, hn, kI, h1, h3]
  rfl
theorem km_Vw.ar {V : km_V} {L : km_M} (h : km_Vw V L) {a k n : Nat} {x : Int} (hs : km_sh[a]? = some (k, n)) (hx : 0 ≤ x ∧ x < n) (hn : n < 10000) : km_ar L a k (Int32.ofInt x) = some (km_vl k a x.toNat (V a x.toNat)) := by
  have h0 : ¬ Int32.ofInt x < 0 := fun z => by
    have := (k32_lt (x := x) (y := 0) (by omega) (by omega)).mp z
    omega
  have h1 : (Int32.ofInt x).toNatClampNeg = x.toNat := by
    show (Int32.ofInt x).toInt.toNat = _
    rw [k32 (by omega)]
  unfold km_ar
  rw [if_neg h0, h1]
  exact h.rd hs (by omega)
theorem km_Vw.ar0 {V : km_V} {L : km_M} (h : km_Vw V L) {a k k' n : Nat} {i : Int32} (hs : km_sh[a]? = some (k, n)) (hk : k ≠ k') : km_ar L a k' i = none := by
  obtain ⟨f, h1, -⟩ := h.2 a k n hs
  unfold km_ar km_rd
  rw [h1]
  have : Nat.beq k k' = false := by cases hb : Nat.beq k k' with | false => rfl | true => exact absurd (Nat.eq_of_beq_eq_true hb) hk
  simp [this]
theorem km_Vw.aw {V : km_V} {L : km_M} (h : km_Vw V L) {a k n : Nat} {x : Int} {v : Value} {y : Int} (hs : km_sh[a]? = some (k, n)) (hx : 0 ≤ x ∧ x < n) (hn : n < 10000) (hv : v = km_vl k a x.toNat y) : ∃ L', km_aw L a k (Int32.ofInt x) v = some L' ∧ km_Vw (up V a x.toNat y) L' := by
  have h0 : ¬ Int32.ofInt x < 0 := fun z => by
    have := (k32_lt (x := x) (y := 0) (by omega) (by omega)).mp z
    omega
  have h1 : (Int32.ofInt x).toNatClampNeg = x.toNat := by
    show (Int32.ofInt x).toInt.toNat = _
    rw [k32 (by omega)]
  unfold km_aw
  rw [if_neg h0, h1]
  exact h.wr hs (by omega) hv
theorem km_Vw.aw0 {V : km_V} {L : km_M} (h : km_Vw V L) {a k k' n : Nat} {i : Int32} {v : Value} (hs : km_sh[a]? = some (k, n)) (hk : k ≠ k') : km_aw L a k' i v = none := by
  obtain ⟨f, h1, -⟩ := h.2 a k n hs
  unfold km_aw km_wr
  rw [h1]
  have : Nat.beq k k' = false := by cases hb : Nat.beq k k' with | false => rfl | true => exact absurd (Nat.eq_of_beq_eq_true hb) hk
  simp [this]
theorem km_sh_lt {a : Nat} {z : Nat × Nat} (h : km_sh[a]? = some z) : Nat.beq a km_scr = false := by
  have h1 : a < km_sh.length := (List.getElem?_eq_some_iff.mp h).1
  have h2 : km_sh.length ≤ 1000 := by decide +kernel
  cases hb : Nat.beq a km_scr with
  | false => rfl
  | true =>
    have := Nat.eq_of_beq_eq_true hb
    unfold km_scr at this
    omega
theorem km_shn : ∀ z ∈ km_sh, z.2 < 10000 := by decide +kernel
theorem km_sh_n {a k n : Nat} (h : km_sh[a]? = some (k, n)) : n < 10000 := km_shn _ (List.mem_of_getElem? h)
theorem g_iald (pc' : Nat) {n a : Nat} {x : Int} (hq : km_T[m]? = some q) (hi : km_at q.2.2.2.2.2.2.2 pc = some .iaload) (e : pc + 1 = pc') (hs : km_sh[a]? = some (11, n)) (hx : 0 ≤ x ∧ x < n) (kk : kGo xs Lx d m pc' ls (kI (V a x.toNat) :: st) V Q) : kGo xs Lx d m pc ls (kI x :: .ref a :: st) V Q := by
  subst e
  refine g_mem hq hi rfl rfl rfl (fun L hL => ⟨L, ?_, hL⟩) kk
  simp only [km_mem, kI, km_sh_lt hs, cond_false, hL.ar hs hx (km_sh_n hs), km_vlI (k := 11) _ rfl]
theorem g_bald (pc' : Nat) {n a : Nat} {x : Int} (hq : km_T[m]? = some q) (hi : km_at q.2.2.2.2.2.2.2 pc = some .baload) (e : pc + 1 = pc') (hs : km_sh[a]? = some (10, n)) (hx : 0 ≤ x ∧ x < n) (kk : kGo xs Lx d m pc' ls (kI (V a x.toNat) :: st) V Q) : kGo xs Lx d m pc ls (kI x :: .ref a :: st) V Q := by
  subst e
  refine g_mem hq hi rfl rfl rfl (fun L hL => ⟨L, ?_, hL⟩) kk
  simp only [km_mem, kI, km_or, hL.ar hs hx (km_sh_n hs), km_vlI (k := 10) _ rfl]
theorem g_zald (pc' : Nat) {n a : Nat} {x : Int} (hq : km_T[m]? = some q) (hi : km_at q.2.2.2.2.2.2.2 pc = some .baload) (e : pc + 1 = pc') (hs : km_sh[a]? = some (13, n)) (hx : 0 ≤ x ∧ x < n) (kk : kGo xs Lx d m pc' ls (kI (V a x.toNat) :: st) V Q) : kGo xs Lx d m pc ls (kI x :: .ref a :: st) V Q := by
  subst e
  refine g_mem hq hi rfl rfl rfl (fun L hL => ⟨L, ?_, hL⟩) kk
  simp only [km_mem, kI, km_or, hL.ar0 (k' := 10) hs (by decide), hL.ar hs hx (km_sh_n hs), km_vlI (k := 13) _ rfl]
theorem g_lald (pc' : Nat) {n a : Nat} {x : Int} (hq : km_T[m]? = some q) (hi : km_at q.2.2.2.2.2.2.2 pc = some .laload) (e : pc + 1 = pc') (hs : km_sh[a]? = some (12, n)) (hx : 0 ≤ x ∧ x < n) (kk : kGo xs Lx d m pc' ls (kJ (V a x.toNat) :: st) V Q) : kGo xs Lx d m pc ls (kI x :: .ref a :: st) V Q := by
  subst e
  refine g_mem hq hi rfl rfl rfl (fun L hL => ⟨L, ?_, hL⟩) kk
  simp only [km_mem, kI, hL.ar hs hx (km_sh_n hs), km_vlJ (k := 12) _ rfl]
theorem g_aald (pc' b : Nat) {n a kd : Nat} {x : Int} (hq : km_T[m]? = some q) (hi : km_at q.2.2.2.2.2.2.2 pc = some .aaload) (e : pc + 1 = pc') (hkd : kd = 14 ∨ kd = 15 ∨ kd = 16) (hs : km_sh[a]? = some (kd, n)) (hx : 0 ≤ x ∧ x < n) (hb : km_rf a x.toNat = b) (kk : kGo xs Lx d m pc' ls (.ref b :: st) V Q) : kGo xs Lx d m pc ls (kI x :: .ref a :: st) V Q := by
  subst e; subst hb
  refine g_mem hq hi rfl rfl rfl (fun L hL => ⟨L, ?_, hL⟩) kk
  rcases hkd with rfl | rfl | rfl
  · simp only [km_mem, kI, km_or, hL.ar hs hx (km_sh_n hs), km_vlA (k := 14) _ rfl]
  · simp only [km_mem, kI, km_or, hL.ar0 (k' := 14) hs (by decide), hL.ar hs hx (km_sh_n hs), km_vlA (k := 15) _ rfl]
  · simp only [km_mem, kI, km_or, hL.ar0 (k' := 14) hs (by decide), hL.ar0 (k' := 15) hs (by decide), hL.ar hs hx (km_sh_n hs), km_vlA (k := 16) _ rfl]
theorem g_iast (pc' : Nat) {n a : Nat} {x y : Int} (hq : km_T[m]? = some q) (hi : km_at q.2.2.2.2.2.2.2 pc = some .iastore) (e : pc + 1 = pc') (hs : km_sh[a]? = some (11, n)) (hx : 0 ≤ x ∧ x < n) (kk : kGo xs Lx d m pc' ls st (up V a x.toNat y) Q) : kGo xs Lx d m pc ls (kI y :: kI x :: .ref a :: st) V Q := by
  subst e
  refine g_mem hq hi rfl rfl rfl (fun L hL => ?_) kk
  obtain ⟨L1, h1, h2⟩ := hL.aw (v := kI y) (y := y) hs hx (km_sh_n hs) (km_vlI (k := 11) y rfl).symm
  simp only [kI] at h1
  exact ⟨L1, by simp only [km_mem, kI, h1], h2⟩
theorem g_bast (pc' : Nat) {n a : Nat} {x y : Int} (hq : km_T[m]? = some q) (hi : km_at q.2.2.2.2.2.2.2 pc = some .bastore) (e : pc + 1 = pc') (hs : km_sh[a]? = some (10, n)) (hx : 0 ≤ x ∧ x < n) (kk : kGo xs Lx d m pc' ls st (up V a x.toNat (k8 y)) Q) : kGo xs Lx d m pc ls (kI y :: kI x :: .ref a :: st) V Q := by
  subst e
  refine g_mem hq hi rfl rfl rfl (fun L hL => ?_) kk
  obtain ⟨L1, h1, h2⟩ := hL.aw (v := kI (k8 y)) (y := k8 y) hs hx (km_sh_n hs) (km_vlI (k := 10) _ rfl).symm
  simp only [kI] at h1
  exact ⟨L1, by simp only [km_mem, kI, k_i8, h1, km_or], h2⟩
theorem g_zast (pc' : Nat) {n a : Nat} {x y : Int} (hq : km_T[m]? = some q) (hi : km_at q.2.2.2.2.2.2.2 pc = some .bastore) (e : pc + 1 = pc') (hs : km_sh[a]? = some (13, n)) (hx : 0 ≤ x ∧ x < n) (hy : y = 0 ∨ y = 1) (kk : kGo xs Lx d m pc' ls st (up V a x.toNat y) Q) : kGo xs Lx d m pc ls (kI y :: kI x :: .ref a :: st) V Q := by
  subst e
  refine g_mem hq hi rfl rfl rfl (fun L hL => ?_) kk
  obtain ⟨L1, h1, h2⟩ := hL.aw (v := kI y) (y := y) hs hx (km_sh_n hs) (km_vlI (k := 13) _ rfl).symm
  simp only [kI] at h1
  have h3 : Int32.ofInt y &&& 1 = Int32.ofInt y := by rcases hy with rfl | rfl <;> rfl
  exact ⟨L1, by simp only [km_mem, kI, h3, hL.aw0 (k' := 10) hs (by decide), h1, km_or], h2⟩
theorem g_last (pc' : Nat) {n a : Nat} {x y : Int} (hq : km_T[m]? = some q) (hi : km_at q.2.2.2.2.2.2.2 pc = some .lastore) (e : pc + 1 = pc') (hs : km_sh[a]? = some (12, n)) (hx : 0 ≤ x ∧ x < n) (kk : kGo xs Lx d m pc' ls st (up V a x.toNat y) Q) : kGo xs Lx d m pc ls (kJ y :: kI x :: .ref a :: st) V Q := by
  subst e
  refine g_mem hq hi rfl rfl rfl (fun L hL => ?_) kk
  obtain ⟨L1, h1, h2⟩ := hL.aw (v := kJ y) (y := y) hs hx (km_sh_n hs) (km_vlJ (k := 12) y rfl).symm
  simp only [kJ] at h1
  exact ⟨L1, by simp only [km_mem, kI, kJ, h1], h2⟩
theorem g_alen (pc' : Nat) {n k a : Nat} (hq : km_T[m]? = some q) (hi : km_at q.2.2.2.2.2.2.2 pc = some .arraylength) (e : pc + 1 = pc') (hs : km_sh[a]? = some (k, n)) (hk : (Nat.blt 9 k && Nat.blt k 17) = true) (kk : kGo xs Lx d m pc' ls (kI n :: st) V Q) : kGo xs Lx d m pc ls (.ref a :: st) V Q := by
  subst e
  refine g_mem hq hi rfl rfl rfl (fun L hL => ⟨L, ?_, hL⟩) kk
  obtain ⟨f, h1, -⟩ := hL.2 a k n hs
  simp only [km_mem, km_sh_lt hs, cond_false, h1, hk, cond_true, kI, Int32.ofInt_eq_ofNat]
end TF
end
section
/-! the steps: returns, calls, copies, texts, the script -/
section TC
variable {xs : Nat → Int32} {Lx d m pc : Nat} {ls : km_L} {st : List Value} {V : km_V} {Q : Option Value → km_V → Prop} {q : km_Q}
theorem g_iret {x : Int} (hq : km_T[m]? = some q) (hi : km_at q.2.2.2.2.2.2.2 pc = some .ireturn) (hr : q.2.2.2.1 = some .int) (k : Q (some (kI x)) V) : kGo xs Lx d m pc ls [kI x] V Q :=
  g_ret hq hi rfl rfl rfl (fun _ => rfl) (by simp only [km_ret, hr, kI]) k
theorem g_zret {x : Int} (hq : km_T[m]? = some q) (hi : km_at q.2.2.2.2.2.2.2 pc = some .ireturn) (hr : q.2.2.2.1 = some .boolean) (hx : x = 0 ∨ x = 1) (k : Q (some (kI x)) V) : kGo xs Lx d m pc ls [kI x] V Q := by
  refine g_ret hq hi rfl rfl rfl (fun _ => rfl) ?_ k
  rcases hx with rfl | rfl <;> simp only [km_ret, hr, kI] <;> rfl
theorem g_lret {x : Int} (hq : km_T[m]? = some q) (hi : km_at q.2.2.2.2.2.2.2 pc = some .lreturn) (hr : q.2.2.2.1 = some .long) (k : Q (some (kJ x)) V) : kGo xs Lx d m pc ls [kJ x] V Q :=
  g_ret hq hi rfl rfl rfl (fun _ => rfl) (by simp only [km_ret, hr, kJ]) k
theorem g_aret {x : Nat} {nm : String} (hq : km_T[m]? = some q) (hi : km_at q.2.2.2.2.2.2.2 pc = some .areturn) (hr : q.2.2.2.1 = some (.object nm)) (k : Q (some (.ref x)) V) : kGo xs Lx d m pc ls [.ref x] V Q :=
  g_ret hq hi rfl rfl rfl (fun _ => rfl) (by simp only [km_ret, hr]) k
theorem g_vret (hq : km_T[m]? = some q) (hi : km_at q.2.2.2.2.2.2.2 pc = some .return_) (hr : q.2.2.2.1 = none) (k : Q none V) : kGo xs Lx d m pc ls [] V Q :=
  g_ret hq hi rfl rfl rfl (fun _ => rfl) (by simp only [km_ret, hr]) k
theorem g_static (j : Nat) (rest : List Value) {i pl : Nat} {as : List Value} {qj : km_Q} (hq : km_T[m]? = some q) (hi : km_at q.2.2.2.2.2.2.2 pc = some (.invokestatic i)) (hf : km_fF km_I q.2.2.2.2.1 i = some (0, j, pl)) (hqj : km_T[j]? = some qj)
    (h1 : (st.take qj.2.2.2.2.2.1).reverse = as) (h2 : st.drop qj.2.2.2.2.2.1 = rest) (h3 : (Nat.ble qj.2.2.2.2.2.1 st.length && Nat.ble ((rest.map fun v => v.category).sum) 8) = true) (hle : Nat.ble (km_lay as).length qj.2.2.1 = true)
    (k : kGo xs Lx d j 0 (km_ent qj.2.2.1 as) [] V (fun r V' => kGo xs Lx (d + 1) m (pc + 3) ls (r.toList ++ rest) V' Q)) : kGo xs Lx (d + 1) m pc ls st V Q := by
  have ena := (km_po_at hqj).2
  refine g_inv hq hi rfl rfl rfl (fun L => ?_) rfl (fun L _ => ?_) hqj hle k
  · simp only [km_mem, hf]
  · simp only [km_inv, hf, ena, h1, h2, h3, cond_true]
theorem g_virt (j : Nat) (rest : List Value) {i pl a na : Nat} {as As : List Value} {qj : km_Q} (hq : km_T[m]? = some q) (hi : km_at q.2.2.2.2.2.2.2 pc = some (.invokevirtual i)) (hf : km_fF km_I q.2.2.2.2.1 i = some (1, j, pl)) (hqj : km_T[j]? = some qj) (hs : km_sh[a]? = some (qj.2.2.2.2.1, na))
    (h1 : (st.take qj.2.2.2.2.2.1).reverse = as) (h1' : as = .ref a :: As) (h2 : st.drop qj.2.2.2.2.2.1 = rest) (h3 : (Nat.ble qj.2.2.2.2.2.1 st.length && Nat.ble ((rest.map fun v => v.category).sum) 8) = true) (hle : Nat.ble (km_lay as).length qj.2.2.1 = true)
    (k : kGo xs Lx d j 0 (km_ent qj.2.2.1 as) [] V (fun r V' => kGo xs Lx (d + 1) m (pc + 3) ls (r.toList ++ rest) V' Q)) : kGo xs Lx (d + 1) m pc ls st V Q := by
  have ena := (km_po_at hqj).2
  have epo := (km_po_at hqj).1
  subst h1'
  refine g_inv hq hi rfl rfl rfl (fun L => ?_) rfl (fun L hL => ?_) hqj hle k
  · simp only [km_mem, hf]
  · simp only [km_inv, hf, ena, epo, h1, h2, h3, hL.kd hs, cond_true, Bool.and_true]
theorem g_copy (pc' : Nat) {i z pl a b n na nb : Nat} (hq : km_T[m]? = some q) (hi : km_at q.2.2.2.2.2.2.2 pc = some (.invokestatic i)) (e : pc + 3 = pc') (hf : km_fF km_I q.2.2.2.2.1 i = some (5, z, pl)) (ha : km_sh[a]? = some (11, na)) (hb : km_sh[b]? = some (11, nb)) (h1 : n ≤ na) (h2 : n ≤ nb) (h3 : ((st.map fun v => v.category).sum ≤ 8))
    (k : ∀ V' : km_V, (∀ j, j < n → V' b j = V a j) → (∀ c j, ¬ (c = b ∧ j < n) → V' c j = V c j) → kGo xs Lx d m pc' ls st V' Q) : kGo xs Lx d m pc ls (kI n :: kI 0 :: .ref b :: kI 0 :: .ref a :: st) V Q := by
  subst e
  have hn : n < 10000 := by have := km_sh_n ha; omega
  refine g_mem (V1 := fun c j => if c = b ∧ j < n then V a j else V c j) hq hi rfl rfl rfl (fun L hL => ?_) (k _ (fun j hj => if_pos ⟨rfl, hj⟩) (fun c j h => if_neg h))
  obtain ⟨f, f1, f2⟩ := hL.2 a 11 na ha
  obtain ⟨g, g1, g2⟩ := hL.2 b 11 nb hb
  have e0 : (Int32.ofInt (0 : Int)).toNatClampNeg = 0 := rfl
  have en : (Int32.ofInt (n : Int)).toNatClampNeg = n := by
    show (Int32.ofInt (n : Int)).toInt.toNat = _
    rw [k32 (by omega)]
    omega
  have l0 : ¬ Int32.ofInt (0 : Int) < 0 := by decide
  have ln : ¬ Int32.ofInt (n : Int) < 0 := fun z => by
    have := (k32_lt (x := n) (y := 0) (by omega) (by omega)).mp z
    omega
  refine ⟨L.set b (11, nb, km_cpy f g 0 0 n), ?_, ?_⟩
  · simp only [km_mem, kI, hf, f1, g1, e0, en]
    rw [if_pos]
    refine ⟨rfl, rfl, l0, l0, ln, by omega, by omega, h3, ?_⟩
    refine List.all_eq_true.mpr fun j hj => ?_
    have hj := List.mem_range.mp hj
    rw [f2 _ (by omega), km_vlI (k := 11) _ rfl]
    rfl
  · refine ⟨by rw [List.length_set]; exact hL.1, fun c kc nc hc => ?_⟩
    by_cases hcb : b = c
    · subst hcb
      rw [hb] at hc
      cases hc
      refine ⟨_, by rw [List.getElem?_set_self (km_lt g1)], fun j hj => ?_⟩
      unfold km_cpy
      by_cases hjn : j < n
      · rw [if_pos ⟨Nat.zero_le _, by omega⟩, f2 _ (by omega), km_vlI (k := 11) _ rfl, km_vlI (k := 11) _ rfl]
        dsimp only
        rw [if_pos ⟨rfl, hjn⟩, show 0 + (j - 0) = j by omega]
      · rw [if_neg (fun z => hjn (by omega))]
        dsimp only
        rw [if_neg (fun z : b = b ∧ j < n => hjn z.2)]
        exact g2 j hj
    · obtain ⟨h, h1, h2⟩ := hL.2 c kc nc hc
      refine ⟨h, by rw [List.getElem?_set_ne hcb]; exact h1, fun j hj => ?_⟩
      dsimp only
      rw [if_neg (fun z : c = b ∧ j < n => hcb z.1.symm)]
      exact h2 j hj
theorem g_slen (pc' w : Nat) {i z pl : Nat} (hq : km_T[m]? = some q) (hi : km_at q.2.2.2.2.2.2.2 pc = some (.invokevirtual i)) (e : pc + 3 = pc') (hf : km_fF km_I q.2.2.2.2.1 i = some (6, z, pl)) (hw : w < 4) (h3 : Nat.ble ((st.map fun v => v.category).sum) 8 = true)
    (k : kGo xs Lx d m pc' ls (kI ((km_tx w).length : Nat) :: st) V Q) : kGo xs Lx d m pc ls (.ref (1000001 + w) :: st) V Q := by
  subst e
  refine g_mem hq hi rfl rfl rfl (fun L hL => ⟨L, ?_, hL⟩) k
  have h1 : Nat.blt km_scr (1000001 + w) = true := Nat.ble_eq_true_of_le (by unfold km_scr; omega)
  have h2 : Nat.blt (1000001 + w) 1000005 = true := Nat.ble_eq_true_of_le (by omega)
  simp only [km_mem, hf, h1, h2, h3, Bool.and_true, cond_true, kI, Int32.ofInt_eq_ofNat, Nat.add_sub_cancel_left]
theorem g_char (pc' w b : Nat) {x : Int} {i z pl : Nat} (hq : km_T[m]? = some q) (hi : km_at q.2.2.2.2.2.2.2 pc = some (.invokevirtual i)) (e : pc + 3 = pc') (hf : km_fF km_I q.2.2.2.2.1 i = some (7, z, pl)) (hw : w < 4) (h3 : Nat.ble ((st.map fun v => v.category).sum) 8 = true) (hx : 0 ≤ x ∧ x ≤ 100) (hb : (km_tx w)[x.toNat]? = some b)
    (k : kGo xs Lx d m pc' ls (kI (b : Nat) :: st) V Q) : kGo xs Lx d m pc ls (kI x :: .ref (1000001 + w) :: st) V Q := by
  subst e
  refine g_mem hq hi rfl rfl rfl (fun L hL => ⟨L, ?_, hL⟩) k
  have h1 : Nat.blt km_scr (1000001 + w) = true := Nat.ble_eq_true_of_le (by unfold km_scr; omega)
  have h2 : Nat.blt (1000001 + w) 1000005 = true := Nat.ble_eq_true_of_le (by omega)
  have h0 : ¬ Int32.ofInt x < 0 := fun z => by
    have := (k32_lt (x := x) (y := 0) (by omega) (by omega)).mp z
    omega
  have h4 : (Int32.ofInt x).toNatClampNeg = x.toNat := by
    show (Int32.ofInt x).toInt.toNat = _
    rw [k32 (by omega)]
  simp only [km_mem, kI, hf, h1, h2, h3, Bool.and_true, cond_true, if_neg h0, h4, Nat.add_sub_cancel_left, hb, Int32.ofInt_eq_ofNat]
theorem g_script (pc' : Nat) {x : Int} (hq : km_T[m]? = some q) (hi : km_at q.2.2.2.2.2.2.2 pc = some .iaload) (e : pc + 1 = pc') (hx : 0 ≤ x ∧ x < Lx) (hL : Lx ≤ 10000) (kk : kGo xs Lx d m pc' ls (kI (xs x.toNat).toInt :: st) V Q) : kGo xs Lx d m pc ls (kI x :: .ref km_scr :: st) V Q := by
  subst e
  refine g_mem hq hi rfl rfl rfl (fun L hL => ⟨L, ?_, hL⟩) kk
  have h0 : ¬ Int32.ofInt x < 0 := fun z => by
    have := (k32_lt (x := x) (y := 0) (by omega) (by omega)).mp z
    omega
  have h4 : (Int32.ofInt x).toNatClampNeg = x.toNat := by
    show (Int32.ofInt x).toInt.toNat = _
    rw [k32 (by omega)]
  have h5 : ¬ (Int32.ofInt x < 0 ∨ Lx ≤ x.toNat) := fun z => z.elim h0 (fun z => by omega)
  simp only [km_mem, kI, Nat.beq_refl, cond_true, h4, if_neg h5, Int32.ofInt_toInt]
theorem g_scrlen (pc' : Nat) (hq : km_T[m]? = some q) (hi : km_at q.2.2.2.2.2.2.2 pc = some .arraylength) (e : pc + 1 = pc') (kk : kGo xs Lx d m pc' ls (kI Lx :: st) V Q) : kGo xs Lx d m pc ls (.ref km_scr :: st) V Q := by
  subst e
  refine g_mem hq hi rfl rfl rfl (fun L hL => ⟨L, ?_, hL⟩) kk
  simp only [km_mem, Nat.beq_refl, cond_true, kI, Int32.ofInt_eq_ofNat]
theorem g_switch (t : Nat) {dflt lo hi : Int} {offs : Array Int} {x : Int} (hq : km_T[m]? = some q) (hi' : km_at q.2.2.2.2.2.2.2 pc = some (.tableswitch dflt lo hi offs)) (hx : -2147483648 ≤ x ∧ x ≤ 2147483647) (h : (if x < lo ∨ hi < x then km_tg pc dflt else match offs[(x - lo).toNat]? with | some off => km_tg pc off | none => none) = some t) (k : kGo xs Lx d m t ls st V Q) : kGo xs Lx d m pc ls (kI x :: st) V Q := by
  refine g_jmp hq hi' rfl rfl ?_ k
  simp only [km_jmp, kI, k32 hx]
  by_cases h1 : x < lo ∨ hi < x
  · rw [if_pos h1] at h ⊢
    rw [h]
  · rw [if_neg h1] at h ⊢
    split at h
    · rename_i off ho
      rw [ho]
      dsimp only
      rw [h]
    · cases h
end TC
theorem km_Le.nil : km_Le [] [] := ⟨rfl, fun _ _ h => by cases h⟩
theorem km_Le.n {a : Option Value} {l l' : km_L} (h : km_Le l l') : km_Le (none :: l) (a :: l') := ⟨by simp [h.1], fun i v hv => by
  cases i with
  | zero => cases Option.some.inj hv
  | succ i => exact h.2 i v hv⟩
theorem km_Le.s {a : Value} {l l' : km_L} (h : km_Le l l') : km_Le (some a :: l) (some a :: l') := ⟨by simp [h.1], fun i v hv => by
  cases i with
  | zero => exact hv
  | succ i => exact h.2 i v hv⟩
abbrev kR (x : Int) : Prop := -2147483648 ≤ x ∧ x ≤ 2147483647
abbrev kR64 (x : Int) : Prop := -9223372036854775808 ≤ x ∧ x ≤ 9223372036854775807
/-- a call that answers an int, a long, nothing -/
def kCI (xs : Nat → Int32) (Lx d j mx : Nat) (as : List Value) (V : km_V) (K : Int → km_V → Prop) : Prop := kGo xs Lx d j 0 (km_ent mx as) [] V (fun r V' => ∃ x, r = some (kI x) ∧ K x V')
def kCJ (xs : Nat → Int32) (Lx d j mx : Nat) (as : List Value) (V : km_V) (K : Int → km_V → Prop) : Prop := kGo xs Lx d j 0 (km_ent mx as) [] V (fun r V' => ∃ x, r = some (kJ x) ∧ K x V')
def kCV (xs : Nat → Int32) (Lx d j mx : Nat) (as : List Value) (V : km_V) (K : km_V → Prop) : Prop := kGo xs Lx d j 0 (km_ent mx as) [] V (fun r V' => r = none ∧ K V')
/-! addresses that are variables: rows, drawings, brackets -/
theorem km_sh_len : km_sh.length = 335 := by decide +kernel
theorem sh_lt {r : Nat} {z : Nat × Nat} (h : km_sh[r]? = some z) : r < 335 := by
  rw [← km_sh_len]
  exact (List.getElem?_eq_some_iff.mp h).1
theorem shR2 {r : Nat} (h : km_sh[r]? = some (5, 5)) : km_sh[r + 1]? = some (11, 5) := (by decide +kernel : ∀ r : Nat, r < 335 → km_sh[r]? = some (5, 5) → km_sh[r + 1]? = some (11, 5)) r (sh_lt h) h
theorem rfR2 {r : Nat} (h : km_sh[r]? = some (5, 5)) : km_rf r 2 = r + 1 := by simp only [km_rf, h]
theorem shR3 {r : Nat} (h : km_sh[r]? = some (5, 5)) : km_sh[r + 2]? = some (11, 16) := (by decide +kernel : ∀ r : Nat, r < 335 → km_sh[r]? = some (5, 5) → km_sh[r + 2]? = some (11, 16)) r (sh_lt h) h
theorem rfR3 {r : Nat} (h : km_sh[r]? = some (5, 5)) : km_rf r 3 = r + 2 := by simp only [km_rf, h]
theorem shR4 {r : Nat} (h : km_sh[r]? = some (5, 5)) : km_sh[r + 3]? = some (11, 8) := (by decide +kernel : ∀ r : Nat, r < 335 → km_sh[r]? = some (5, 5) → km_sh[r + 3]? = some (11, 8)) r (sh_lt h) h
theorem rfR4 {r : Nat} (h : km_sh[r]? = some (5, 5)) : km_rf r 4 = r + 3 := by simp only [km_rf, h]
theorem shD0 {r : Nat} (h : km_sh[r]? = some (2, 11)) : km_sh[r + 1]? = some (11, 16) := (by decide +kernel : ∀ r : Nat, r < 335 → km_sh[r]? = some (2, 11) → km_sh[r + 1]? = some (11, 16)) r (sh_lt h) h
theorem rfD0 {r : Nat} (h : km_sh[r]? = some (2, 11)) : km_rf r 0 = r + 1 := by simp only [km_rf, h]; rfl
theorem shD1 {r : Nat} (h : km_sh[r]? = some (2, 11)) : km_sh[r + 2]? = some (11, 16) := (by decide +kernel : ∀ r : Nat, r < 335 → km_sh[r]? = some (2, 11) → km_sh[r + 2]? = some (11, 16)) r (sh_lt h) h
theorem rfD1 {r : Nat} (h : km_sh[r]? = some (2, 11)) : km_rf r 1 = r + 2 := by simp only [km_rf, h]; rfl
theorem shD2 {r : Nat} (h : km_sh[r]? = some (2, 11)) : km_sh[r + 3]? = some (11, 16) := (by decide +kernel : ∀ r : Nat, r < 335 → km_sh[r]? = some (2, 11) → km_sh[r + 3]? = some (11, 16)) r (sh_lt h) h
theorem rfD2 {r : Nat} (h : km_sh[r]? = some (2, 11)) : km_rf r 2 = r + 3 := by simp only [km_rf, h]; rfl
theorem shD3 {r : Nat} (h : km_sh[r]? = some (2, 11)) : km_sh[r + 4]? = some (11, 8) := (by decide +kernel : ∀ r : Nat, r < 335 → km_sh[r]? = some (2, 11) → km_sh[r + 4]? = some (11, 8)) r (sh_lt h) h
theorem rfD3 {r : Nat} (h : km_sh[r]? = some (2, 11)) : km_rf r 3 = r + 4 := by simp only [km_rf, h]; rfl
theorem shD4 {r : Nat} (h : km_sh[r]? = some (2, 11)) : km_sh[r + 5]? = some (11, 8) := (by decide +kernel : ∀ r : Nat, r < 335 → km_sh[r]? = some (2, 11) → km_sh[r + 5]? = some (11, 8)) r (sh_lt h) h
theorem rfD4 {r : Nat} (h : km_sh[r]? = some (2, 11)) : km_rf r 4 = r + 5 := by simp only [km_rf, h]; rfl
theorem shD5 {r : Nat} (h : km_sh[r]? = some (2, 11)) : km_sh[r + 6]? = some (11, 32) := (by decide +kernel : ∀ r : Nat, r < 335 → km_sh[r]? = some (2, 11) → km_sh[r + 6]? = some (11, 32)) r (sh_lt h) h
theorem rfD5 {r : Nat} (h : km_sh[r]? = some (2, 11)) : km_rf r 5 = r + 6 := by simp only [km_rf, h]; rfl
theorem shD6 {r : Nat} (h : km_sh[r]? = some (2, 11)) : km_sh[r + 7]? = some (11, 32) := (by decide +kernel : ∀ r : Nat, r < 335 → km_sh[r]? = some (2, 11) → km_sh[r + 7]? = some (11, 32)) r (sh_lt h) h
theorem rfD6 {r : Nat} (h : km_sh[r]? = some (2, 11)) : km_rf r 6 = r + 7 := by simp only [km_rf, h]; rfl
theorem shD8 {r : Nat} (h : km_sh[r]? = some (2, 11)) : km_sh[r + 8]? = some (11, 32) := (by decide +kernel : ∀ r : Nat, r < 335 → km_sh[r]? = some (2, 11) → km_sh[r + 8]? = some (11, 32)) r (sh_lt h) h
theorem rfD8 {r : Nat} (h : km_sh[r]? = some (2, 11)) : km_rf r 8 = r + 8 := by simp only [km_rf, h]; rfl
theorem shD9 {r : Nat} (h : km_sh[r]? = some (2, 11)) : km_sh[r + 9]? = some (11, 33) := (by decide +kernel : ∀ r : Nat, r < 335 → km_sh[r]? = some (2, 11) → km_sh[r + 9]? = some (11, 33)) r (sh_lt h) h
theorem rfD9 {r : Nat} (h : km_sh[r]? = some (2, 11)) : km_rf r 9 = r + 9 := by simp only [km_rf, h]; rfl
theorem shD10 {r : Nat} (h : km_sh[r]? = some (2, 11)) : km_sh[r + 10]? = some (11, 32) := (by decide +kernel : ∀ r : Nat, r < 335 → km_sh[r]? = some (2, 11) → km_sh[r + 10]? = some (11, 32)) r (sh_lt h) h
theorem rfD10 {r : Nat} (h : km_sh[r]? = some (2, 11)) : km_rf r 10 = r + 10 := by simp only [km_rf, h]; rfl
theorem shB0 {r : Nat} (h : km_sh[r]? = some (1, 3)) : km_sh[r + 1]? = some (11, 121) := (by decide +kernel : ∀ r : Nat, r < 335 → km_sh[r]? = some (1, 3) → km_sh[r + 1]? = some (11, 121)) r (sh_lt h) h
theorem rfB0 {r : Nat} (h : km_sh[r]? = some (1, 3)) : km_rf r 0 = r + 1 := by simp only [km_rf, h]
theorem shB1 {r : Nat} (h : km_sh[r]? = some (1, 3)) : km_sh[r + 2]? = some (11, 117) := (by decide +kernel : ∀ r : Nat, r < 335 → km_sh[r]? = some (1, 3) → km_sh[r + 2]? = some (11, 117)) r (sh_lt h) h
theorem rfB1 {r : Nat} (h : km_sh[r]? = some (1, 3)) : km_rf r 1 = r + 2 := by simp only [km_rf, h]
theorem shXP {x : Int} (h : 0 ≤ x ∧ x < (40 : Nat)) : km_sh[47 + 4 * x.toNat]? = some (5, 5) := by
  have h1 : ∀ i, i < 40 → km_sh[47 + 4 * i]? = some (5, 5) := by decide +kernel
  exact h1 _ (by omega)
theorem shXS {x : Int} (h : 0 ≤ x ∧ x < (3 : Nat)) : km_sh[287 + 4 * x.toNat]? = some (5, 5) := by
  have h1 : ∀ i, i < 3 → km_sh[287 + 4 * i]? = some (5, 5) := by decide +kernel
  exact h1 _ (by omega)
theorem shXL {x : Int} (h : 0 ≤ x ∧ x < (4 : Nat)) : km_sh[227 + 15 * x.toNat]? = some (5, 5) := by
  have h1 : ∀ i, i < 4 → km_sh[227 + 15 * i]? = some (5, 5) := by decide +kernel
  exact h1 _ (by omega)
theorem shXM {x : Int} (h : 0 ≤ x ∧ x < (4 : Nat)) : km_sh[231 + 15 * x.toNat]? = some (2, 11) := by
  have h1 : ∀ i, i < 4 → km_sh[231 + 15 * i]? = some (2, 11) := by decide +kernel
  exact h1 _ (by omega)
theorem shXA {x : Int} (h : 0 ≤ x ∧ x < (8 : Nat)) : km_sh[31 + 1 * x.toNat]? = some (12, 12) := by
  have h1 : ∀ i, i < 8 → km_sh[31 + 1 * i]? = some (12, 12) := by decide +kernel
  exact h1 _ (by omega)
end
section
theorem k_ush : ∀ k : Nat, k < 32 → ((Int32.ofInt (k : Int)).toUInt32 &&& Int32.toUInt32 31) = UInt32.ofNat k := by decide +kernel
theorem k_ushr {a k : Nat} (ha : a < 2147483648) (hk : k < 32) : ((Int32.ofInt (a : Int)).toUInt32 >>> ((Int32.ofInt (k : Int)).toUInt32 &&& Int32.toUInt32 31)).toInt32 = Int32.ofInt ((a / 2 ^ k : Nat) : Int) := by
  rw [k_ush k hk, ← Int32.toBitVec_inj]
  show (Int32.ofInt (a : Int)).toBitVec >>> ((UInt32.ofNat k).toBitVec % 32#32) = _
  rw [Int32.toBitVec_ofInt, Int32.toBitVec_ofInt, BitVec.ofInt_natCast, BitVec.ofInt_natCast]
  apply BitVec.eq_of_toNat_eq
  have h1 : ((UInt32.ofNat k).toBitVec % 32#32).toNat = k := by
    show (BitVec.ofNat 32 k % 32#32).toNat = k
    rw [BitVec.toNat_umod, BitVec.toNat_ofNat, BitVec.toNat_ofNat]
    rw [show (32 % 2 ^ 32 : Nat) = 32 from rfl, Nat.mod_eq_of_lt (show k < 2 ^ 32 by omega), Nat.mod_eq_of_lt hk]
  have h2 : a / 2 ^ k ≤ a := Nat.div_le_self _ _
  rw [BitVec.ushiftRight_eq', BitVec.toNat_ushiftRight, h1, BitVec.toNat_ofNat, BitVec.toNat_ofNat, Nat.shiftRight_eq_div_pow, Nat.mod_eq_of_lt (by omega), Nat.mod_eq_of_lt (by omega)]
section TU
variable {xs : Nat → Int32} {Lx d m pc : Nat} {ls : km_L} {st : List Value} {V : km_V} {Q : Option Value → km_V → Prop} {q : km_Q}
theorem g_iushr (pc' : Nat) {x y : Int} (hq : km_T[m]? = some q) (hi : km_at q.2.2.2.2.2.2.2 pc = some .iushr) (e : pc + 1 = pc') (hx : 0 ≤ x ∧ x ≤ 2147483647) (hy : 0 ≤ y ∧ y < 32) (k : kGo xs Lx d m pc' ls (kI (x / ((2 ^ y.toNat : Nat) : Int)) :: st) V Q) : kGo xs Lx d m pc ls (kI y :: kI x :: st) V Q := by
  subst e
  refine g_pure hq hi ?_ k
  simp only [km_pure, km_ii, kI]
  have h := k_ushr (a := x.toNat) (k := y.toNat) (by omega) (by omega)
  rw [k_nat hx.1, k_nat hy.1] at h
  rw [h]
  congr 4
  rw [Int.natCast_ediv, k_nat hx.1]
end TU
end
section
set_option maxRecDepth 10000 in
theorem b153_0 {xs : Nat → Int32} {Lx d : Nat} {V : km_V} {Q : Option Value → km_V → Prop} {a0 a1 a2 : Int} 
    (h : (kR a0) ∧ (kR a1) ∧ ((a0 < a1 →
    Q (some (kI 0)) V) ∧
   (a1 ≤ a0 →
    (kR a0) ∧ (kR a2) ∧ ((a2 < a0 →
      Q (some (kI 0)) V) ∧
     (a0 ≤ a2 →
      Q (some (kI 1)) V))))) :
    kGo xs Lx (d + 0) 153 0 [some (kI a0), some (kI a1), some (kI a2)] [] V Q := by
  refine g_iload_n 1 gq153 rfl rfl rfl ?_
  refine g_iload_n 2 gq153 rfl rfl rfl ?_
  have c2 := h.1
  replace h := h.2
  have c4 := h.1
  replace h := h.2
  refine g_icmp_lt 14 5 gq153 rfl rfl rfl c2 c4 (fun c => ?_) (fun c => ?_)
  · replace h := h.1 c
    refine g_iconst 15 gq153 rfl rfl ?_
    exact g_zret gq153 rfl rfl (by omega) h
  · replace h := h.2 c
    refine g_iload_n 6 gq153 rfl rfl rfl ?_
    refine g_iload_n 7 gq153 rfl rfl rfl ?_
    have c13 := h.1
    replace h := h.2
    have c15 := h.1
    replace h := h.2
    refine g_icmp_gt 14 10 gq153 rfl rfl rfl c13 c15 (fun c => ?_) (fun c => ?_)
    · replace h := h.1 c
      refine g_iconst 15 gq153 rfl rfl ?_
      exact g_zret gq153 rfl rfl (by omega) h
    · replace h := h.2 c
      refine g_iconst 11 gq153 rfl rfl ?_
      refine g_goto 15 gq153 rfl rfl ?_
      exact g_zret gq153 rfl rfl (by omega) h
set_option maxRecDepth 10000 in
theorem b154_0 {xs : Nat → Int32} {Lx d : Nat} {V : km_V} {Q : Option Value → km_V → Prop} {a0 a1 : Int} 
    (h : (kR a0) ∧ (0 ≤ a1 ∧ a1 < 32) ∧ (kR ((a0 / ((2 ^ Int.toNat a1 : Nat) : Int)) % 2)) ∧ ((((a0 / ((2 ^ Int.toNat a1 : Nat) : Int)) % 2) ≠ 1 →
    Q (some (kI 0)) V) ∧
   (((a0 / ((2 ^ Int.toNat a1 : Nat) : Int)) % 2) = 1 →
    Q (some (kI 1)) V))) :
    kGo xs Lx (d + 0) 154 0 [some (kI a0), some (kI a1)] [] V Q := by
  refine g_iload_n 1 gq154 rfl rfl rfl ?_
  refine g_iload_n 2 gq154 rfl rfl rfl ?_
  have c2 := h.1
  replace h := h.2
  have c4 := h.1
  replace h := h.2
  refine g_ishr 3 gq154 rfl rfl c2 c4 ?_
  refine g_iconst 4 gq154 rfl rfl ?_
  refine g_iandM 5 1 gq154 rfl rfl (by decide) rfl ?_
  refine g_iconst 6 gq154 rfl rfl ?_
  have c10 := h.1
  replace h := h.2
  refine g_icmp_ne 13 9 gq154 rfl rfl rfl c10 (by omega) (fun c => ?_) (fun c => ?_)
  · replace h := h.1 c
    refine g_iconst 14 gq154 rfl rfl ?_
    exact g_zret gq154 rfl rfl (by omega) h
  · replace h := h.2 c
    refine g_iconst 10 gq154 rfl rfl ?_
    refine g_goto 14 gq154 rfl rfl ?_
    exact g_zret gq154 rfl rfl (by omega) h
set_option maxRecDepth 10000 in
theorem b129_0 {xs : Nat → Int32} {Lx d : Nat} {V : km_V} {Q : Option Value → km_V → Prop} {a0 : Int} 
    (h : (kR a0) ∧ ((a0 < 48 →
    Q (some (kI 0)) V) ∧
   (48 ≤ a0 →
    (kR a0) ∧ ((57 < a0 →
      Q (some (kI 0)) V) ∧
     (a0 ≤ 57 →
      Q (some (kI 1)) V))))) :
    kGo xs Lx (d + 0) 129 0 [some (kI a0)] [] V Q := by
  refine g_iload_n 1 gq129 rfl rfl rfl ?_
  refine g_bipush 3 gq129 rfl rfl rfl ?_
  have c2 := h.1
  replace h := h.2
  refine g_icmp_lt 16 6 gq129 rfl rfl rfl c2 (by omega) (fun c => ?_) (fun c => ?_)
  · replace h := h.1 c
    refine g_iconst 17 gq129 rfl rfl ?_
    exact g_zret gq129 rfl rfl (by omega) h
  · replace h := h.2 c
    refine g_iload_n 7 gq129 rfl rfl rfl ?_
    refine g_bipush 9 gq129 rfl rfl rfl ?_
    have c11 := h.1
    replace h := h.2
    refine g_icmp_gt 16 12 gq129 rfl rfl rfl c11 (by omega) (fun c => ?_) (fun c => ?_)
    · replace h := h.1 c
      refine g_iconst 17 gq129 rfl rfl ?_
      exact g_zret gq129 rfl rfl (by omega) h
    · replace h := h.2 c
      refine g_iconst 13 gq129 rfl rfl ?_
      refine g_goto 17 gq129 rfl rfl ?_
      exact g_zret gq129 rfl rfl (by omega) h
set_option maxRecDepth 10000 in
theorem b130_0 {xs : Nat → Int32} {Lx d : Nat} {V : km_V} {Q : Option Value → km_V → Prop} {a0 : Int} 
    (h : (kR a0) ∧ ((a0 < 97 →
    Q (some (kI 0)) V) ∧
   (97 ≤ a0 →
    (kR a0) ∧ ((122 < a0 →
      Q (some (kI 0)) V) ∧
     (a0 ≤ 122 →
      Q (some (kI 1)) V))))) :
    kGo xs Lx (d + 0) 130 0 [some (kI a0)] [] V Q := by
  refine g_iload_n 1 gq130 rfl rfl rfl ?_
  refine g_bipush 3 gq130 rfl rfl rfl ?_
  have c2 := h.1
  replace h := h.2
  refine g_icmp_lt 16 6 gq130 rfl rfl rfl c2 (by omega) (fun c => ?_) (fun c => ?_)
  · replace h := h.1 c
    refine g_iconst 17 gq130 rfl rfl ?_
    exact g_zret gq130 rfl rfl (by omega) h
  · replace h := h.2 c
    refine g_iload_n 7 gq130 rfl rfl rfl ?_
    refine g_bipush 9 gq130 rfl rfl rfl ?_
    have c11 := h.1
    replace h := h.2
    refine g_icmp_gt 16 12 gq130 rfl rfl rfl c11 (by omega) (fun c => ?_) (fun c => ?_)
    · replace h := h.1 c
      refine g_iconst 17 gq130 rfl rfl ?_
      exact g_zret gq130 rfl rfl (by omega) h
    · replace h := h.2 c
      refine g_iconst 13 gq130 rfl rfl ?_
      refine g_goto 17 gq130 rfl rfl ?_
      exact g_zret gq130 rfl rfl (by omega) h
set_option maxRecDepth 10000 in
theorem b89_0 {xs : Nat → Int32} {Lx d : Nat} {V : km_V} {Q : Option Value → km_V → Prop} {a0 : Int} 
    (h : (kR a0) ∧ ((a0 < 48 →
    Q (some (kI 0)) V) ∧
   (48 ≤ a0 →
    (kR a0) ∧ ((57 < a0 →
      Q (some (kI 0)) V) ∧
     (a0 ≤ 57 →
      Q (some (kI 1)) V))))) :
    kGo xs Lx (d + 0) 89 0 [some (kI a0)] [] V Q := by
  refine g_iload_n 1 gq89 rfl rfl rfl ?_
  refine g_bipush 3 gq89 rfl rfl rfl ?_
  have c2 := h.1
  replace h := h.2
  refine g_icmp_lt 16 6 gq89 rfl rfl rfl c2 (by omega) (fun c => ?_) (fun c => ?_)
  · replace h := h.1 c
    refine g_iconst 17 gq89 rfl rfl ?_
    exact g_zret gq89 rfl rfl (by omega) h
  · replace h := h.2 c
    refine g_iload_n 7 gq89 rfl rfl rfl ?_
    refine g_bipush 9 gq89 rfl rfl rfl ?_
    have c11 := h.1
    replace h := h.2
    refine g_icmp_gt 16 12 gq89 rfl rfl rfl c11 (by omega) (fun c => ?_) (fun c => ?_)
    · replace h := h.1 c
      refine g_iconst 17 gq89 rfl rfl ?_
      exact g_zret gq89 rfl rfl (by omega) h
    · replace h := h.2 c
      refine g_iconst 13 gq89 rfl rfl ?_
      refine g_goto 17 gq89 rfl rfl ?_
      exact g_zret gq89 rfl rfl (by omega) h
set_option maxRecDepth 10000 in
theorem b88_0 {xs : Nat → Int32} {Lx d : Nat} {V : km_V} {Q : Option Value → km_V → Prop} {a0 : Int} 
    (h : (kR a0) ∧ ((a0 < 97 →
    Q (some (kI 0)) V) ∧
   (97 ≤ a0 →
    (kR a0) ∧ ((122 < a0 →
      Q (some (kI 0)) V) ∧
     (a0 ≤ 122 →
      Q (some (kI 1)) V))))) :
    kGo xs Lx (d + 0) 88 0 [some (kI a0)] [] V Q := by
  refine g_iload_n 1 gq88 rfl rfl rfl ?_
  refine g_bipush 3 gq88 rfl rfl rfl ?_
  have c2 := h.1
  replace h := h.2
  refine g_icmp_lt 16 6 gq88 rfl rfl rfl c2 (by omega) (fun c => ?_) (fun c => ?_)
  · replace h := h.1 c
    refine g_iconst 17 gq88 rfl rfl ?_
    exact g_zret gq88 rfl rfl (by omega) h
  · replace h := h.2 c
    refine g_iload_n 7 gq88 rfl rfl rfl ?_
    refine g_bipush 9 gq88 rfl rfl rfl ?_
    have c11 := h.1
    replace h := h.2
    refine g_icmp_gt 16 12 gq88 rfl rfl rfl c11 (by omega) (fun c => ?_) (fun c => ?_)
    · replace h := h.1 c
      refine g_iconst 17 gq88 rfl rfl ?_
      exact g_zret gq88 rfl rfl (by omega) h
    · replace h := h.2 c
      refine g_iconst 13 gq88 rfl rfl ?_
      refine g_goto 17 gq88 rfl rfl ?_
      exact g_zret gq88 rfl rfl (by omega) h
set_option maxRecDepth 10000 in
theorem b87_0 {xs : Nat → Int32} {Lx d : Nat} {V : km_V} {Q : Option Value → km_V → Prop} {a0 : Int} 
    (h : (kR a0) ∧ ((a0 = 9 →
    Q (some (kI 1)) V) ∧
   (a0 ≠ 9 →
    (kR a0) ∧ ((a0 = 10 →
      Q (some (kI 1)) V) ∧
     (a0 ≠ 10 →
      (kR a0) ∧ ((a0 = 13 →
        Q (some (kI 1)) V) ∧
       (a0 ≠ 13 →
        (kR a0) ∧ ((a0 ≠ 32 →
          Q (some (kI 0)) V) ∧
         (a0 = 32 →
          Q (some (kI 1)) V))))))))) :
    kGo xs Lx (d + 0) 87 0 [some (kI a0)] [] V Q := by
  refine g_iload_n 1 gq87 rfl rfl rfl ?_
  refine g_bipush 3 gq87 rfl rfl rfl ?_
  have c2 := h.1
  replace h := h.2
  refine g_icmp_eq 24 6 gq87 rfl rfl rfl c2 (by omega) (fun c => ?_) (fun c => ?_)
  · replace h := h.1 c
    refine g_iconst 25 gq87 rfl rfl ?_
    refine g_goto 29 gq87 rfl rfl ?_
    exact g_zret gq87 rfl rfl (by omega) h
  · replace h := h.2 c
    refine g_iload_n 7 gq87 rfl rfl rfl ?_
    refine g_bipush 9 gq87 rfl rfl rfl ?_
    have c12 := h.1
    replace h := h.2
    refine g_icmp_eq 24 12 gq87 rfl rfl rfl c12 (by omega) (fun c => ?_) (fun c => ?_)
    · replace h := h.1 c
      refine g_iconst 25 gq87 rfl rfl ?_
      refine g_goto 29 gq87 rfl rfl ?_
      exact g_zret gq87 rfl rfl (by omega) h
    · replace h := h.2 c
      refine g_iload_n 13 gq87 rfl rfl rfl ?_
      refine g_bipush 15 gq87 rfl rfl rfl ?_
      have c22 := h.1
      replace h := h.2
      refine g_icmp_eq 24 18 gq87 rfl rfl rfl c22 (by omega) (fun c => ?_) (fun c => ?_)
      · replace h := h.1 c
        refine g_iconst 25 gq87 rfl rfl ?_
        refine g_goto 29 gq87 rfl rfl ?_
        exact g_zret gq87 rfl rfl (by omega) h
      · replace h := h.2 c
        refine g_iload_n 19 gq87 rfl rfl rfl ?_
        refine g_bipush 21 gq87 rfl rfl rfl ?_
        have c32 := h.1
        replace h := h.2
        refine g_icmp_ne 28 24 gq87 rfl rfl rfl c32 (by omega) (fun c => ?_) (fun c => ?_)
        · replace h := h.1 c
          refine g_iconst 29 gq87 rfl rfl ?_
          exact g_zret gq87 rfl rfl (by omega) h
        · replace h := h.2 c
          refine g_iconst 25 gq87 rfl rfl ?_
          refine g_goto 29 gq87 rfl rfl ?_
          exact g_zret gq87 rfl rfl (by omega) h
set_option maxRecDepth 10000 in
theorem b218_0 {xs : Nat → Int32} {Lx d : Nat} {V : km_V} {Q : Option Value → km_V → Prop} {a0 : Int} 
    (h : (0 ≤ a0 ∧ a0 ≤ 2147483647) ∧ (0 ≤ (a0 / 2)) ∧ (0 ≤ (a0 - ((Int.toNat (a0 / 2) &&& Int.toNat 1431655765 : Nat) : Int))) ∧ (0 ≤ (a0 - ((Int.toNat (a0 / 2) &&& Int.toNat 1431655765 : Nat) : Int)) ∧ (a0 - ((Int.toNat (a0 / 2) &&& Int.toNat 1431655765 : Nat) : Int)) ≤ 2147483647) ∧ (0 ≤ ((a0 - ((Int.toNat (a0 / 2) &&& Int.toNat 1431655765 : Nat) : Int)) / 4)) ∧ (0 ≤ (((Int.toNat (a0 - ((Int.toNat (a0 / 2) &&& Int.toNat 1431655765 : Nat) : Int)) &&& Int.toNat 858993459 : Nat) : Int) + ((Int.toNat ((a0 - ((Int.toNat (a0 / 2) &&& Int.toNat 1431655765 : Nat) : Int)) / 4) &&& Int.toNat 858993459 : Nat) : Int)) ∧ (((Int.toNat (a0 - ((Int.toNat (a0 / 2) &&& Int.toNat 1431655765 : Nat) : Int)) &&& Int.toNat 858993459 : Nat) : Int) + ((Int.toNat ((a0 - ((Int.toNat (a0 / 2) &&& Int.toNat 1431655765 : Nat) : Int)) / 4) &&& Int.toNat 858993459 : Nat) : Int)) ≤ 2147483647) ∧ (0 ≤ ((((Int.toNat (a0 - ((Int.toNat (a0 / 2) &&& Int.toNat 1431655765 : Nat) : Int)) &&& Int.toNat 858993459 : Nat) : Int) + ((Int.toNat ((a0 - ((Int.toNat (a0 / 2) &&& Int.toNat 1431655765 : Nat) : Int)) / 4) &&& Int.toNat 858993459 : Nat) : Int)) + ((((Int.toNat (a0 - ((Int.toNat (a0 / 2) &&& Int.toNat 1431655765 : Nat) : Int)) &&& Int.toNat 858993459 : Nat) : Int) + ((Int.toNat ((a0 - ((Int.toNat (a0 / 2) &&& Int.toNat 1431655765 : Nat) : Int)) / 4) &&& Int.toNat 858993459 : Nat) : Int)) / 16))) ∧ (0 ≤ ((Int.toNat ((((Int.toNat (a0 - ((Int.toNat (a0 / 2) &&& Int.toNat 1431655765 : Nat) : Int)) &&& Int.toNat 858993459 : Nat) : Int) + ((Int.toNat ((a0 - ((Int.toNat (a0 / 2) &&& Int.toNat 1431655765 : Nat) : Int)) / 4) &&& Int.toNat 858993459 : Nat) : Int)) + ((((Int.toNat (a0 - ((Int.toNat (a0 / 2) &&& Int.toNat 1431655765 : Nat) : Int)) &&& Int.toNat 858993459 : Nat) : Int) + ((Int.toNat ((a0 - ((Int.toNat (a0 / 2) &&& Int.toNat 1431655765 : Nat) : Int)) / 4) &&& Int.toNat 858993459 : Nat) : Int)) / 16)) &&& Int.toNat 252645135 : Nat) : Int) ∧ ((Int.toNat ((((Int.toNat (a0 - ((Int.toNat (a0 / 2) &&& Int.toNat 1431655765 : Nat) : Int)) &&& Int.toNat 858993459 : Nat) : Int) + ((Int.toNat ((a0 - ((Int.toNat (a0 / 2) &&& Int.toNat 1431655765 : Nat) : Int)) / 4) &&& Int.toNat 858993459 : Nat) : Int)) + ((((Int.toNat (a0 - ((Int.toNat (a0 / 2) &&& Int.toNat 1431655765 : Nat) : Int)) &&& Int.toNat 858993459 : Nat) : Int) + ((Int.toNat ((a0 - ((Int.toNat (a0 / 2) &&& Int.toNat 1431655765 : Nat) : Int)) / 4) &&& Int.toNat 858993459 : Nat) : Int)) / 16)) &&& Int.toNat 252645135 : Nat) : Int) ≤ 2147483647) ∧ (0 ≤ (((Int.toNat ((((Int.toNat (a0 - ((Int.toNat (a0 / 2) &&& Int.toNat 1431655765 : Nat) : Int)) &&& Int.toNat 858993459 : Nat) : Int) + ((Int.toNat ((a0 - ((Int.toNat (a0 / 2) &&& Int.toNat 1431655765 : Nat) : Int)) / 4) &&& Int.toNat 858993459 : Nat) : Int)) + ((((Int.toNat (a0 - ((Int.toNat (a0 / 2) &&& Int.toNat 1431655765 : Nat) : Int)) &&& Int.toNat 858993459 : Nat) : Int) + ((Int.toNat ((a0 - ((Int.toNat (a0 / 2) &&& Int.toNat 1431655765 : Nat) : Int)) / 4) &&& Int.toNat 858993459 : Nat) : Int)) / 16)) &&& Int.toNat 252645135 : Nat) : Int) + (((Int.toNat ((((Int.toNat (a0 - ((Int.toNat (a0 / 2) &&& Int.toNat 1431655765 : Nat) : Int)) &&& Int.toNat 858993459 : Nat) : Int) + ((Int.toNat ((a0 - ((Int.toNat (a0 / 2) &&& Int.toNat 1431655765 : Nat) : Int)) / 4) &&& Int.toNat 858993459 : Nat) : Int)) + ((((Int.toNat (a0 - ((Int.toNat (a0 / 2) &&& Int.toNat 1431655765 : Nat) : Int)) &&& Int.toNat 858993459 : Nat) : Int) + ((Int.toNat ((a0 - ((Int.toNat (a0 / 2) &&& Int.toNat 1431655765 : Nat) : Int)) / 4) &&& Int.toNat 858993459 : Nat) : Int)) / 16)) &&& Int.toNat 252645135 : Nat) : Int) / 256)) ∧ (((Int.toNat ((((Int.toNat (a0 - ((Int.toNat (a0 / 2) &&& Int.toNat 1431655765 : Nat) : Int)) &&& Int.toNat 858993459 : Nat) : Int) + ((Int.toNat ((a0 - ((Int.toNat (a0 / 2) &&& Int.toNat 1431655765 : Nat) : Int)) / 4) &&& Int.toNat 858993459 : Nat) : Int)) + ((((Int.toNat (a0 - ((Int.toNat (a0 / 2) &&& Int.toNat 1431655765 : Nat) : Int)) &&& Int.toNat 858993459 : Nat) : Int) + ((Int.toNat ((a0 - ((Int.toNat (a0 / 2) &&& Int.toNat 1431655765 : Nat) : Int)) / 4) &&& Int.toNat 858993459 : Nat) : Int)) / 16)) &&& Int.toNat 252645135 : Nat) : Int) + (((Int.toNat ((((Int.toNat (a0 - ((Int.toNat (a0 / 2) &&& Int.toNat 1431655765 : Nat) : Int)) &&& Int.toNat 858993459 : Nat) : Int) + ((Int.toNat ((a0 - ((Int.toNat (a0 / 2) &&& Int.toNat 1431655765 : Nat) : Int)) / 4) &&& Int.toNat 858993459 : Nat) : Int)) + ((((Int.toNat (a0 - ((Int.toNat (a0 / 2) &&& Int.toNat 1431655765 : Nat) : Int)) &&& Int.toNat 858993459 : Nat) : Int) + ((Int.toNat ((a0 - ((Int.toNat (a0 / 2) &&& Int.toNat 1431655765 : Nat) : Int)) / 4) &&& Int.toNat 858993459 : Nat) : Int)) / 16)) &&& Int.toNat 252645135 : Nat) : Int) / 256)) ≤ 2147483647) ∧ (0 ≤ ((((Int.toNat ((((Int.toNat (a0 - ((Int.toNat (a0 / 2) &&& Int.toNat 1431655765 : Nat) : Int)) &&& Int.toNat 858993459 : Nat) : Int) + ((Int.toNat ((a0 - ((Int.toNat (a0 / 2) &&& Int.toNat 1431655765 : Nat) : Int)) / 4) &&& Int.toNat 858993459 : Nat) : Int)) + ((((Int.toNat (a0 - ((Int.toNat (a0 / 2) &&& Int.toNat 1431655765 : Nat) : Int)) &&& Int.toNat 858993459 : Nat) : Int) + ((Int.toNat ((a0 - ((Int.toNat (a0 / 2) &&& Int.toNat 1431655765 : Nat) : Int)) / 4) &&& Int.toNat 858993459 : Nat) : Int)) / 16)) &&& Int.toNat 252645135 : Nat) : Int) + (((Int.toNat ((((Int.toNat (a0 - ((Int.toNat (a0 / 2) &&& Int.toNat 1431655765 : Nat) : Int)) &&& Int.toNat 858993459 : Nat) : Int) + ((Int.toNat ((a0 - ((Int.toNat (a0 / 2) &&& Int.toNat 1431655765 : Nat) : Int)) / 4) &&& Int.toNat 858993459 : Nat) : Int)) + ((((Int.toNat (a0 - ((Int.toNat (a0 / 2) &&& Int.toNat 1431655765 : Nat) : Int)) &&& Int.toNat 858993459 : Nat) : Int) + ((Int.toNat ((a0 - ((Int.toNat (a0 / 2) &&& Int.toNat 1431655765 : Nat) : Int)) / 4) &&& Int.toNat 858993459 : Nat) : Int)) / 16)) &&& Int.toNat 252645135 : Nat) : Int) / 256)) + ((((Int.toNat ((((Int.toNat (a0 - ((Int.toNat (a0 / 2) &&& Int.toNat 1431655765 : Nat) : Int)) &&& Int.toNat 858993459 : Nat) : Int) + ((Int.toNat ((a0 - ((Int.toNat (a0 / 2) &&& Int.toNat 1431655765 : Nat) : Int)) / 4) &&& Int.toNat 858993459 : Nat) : Int)) + ((((Int.toNat (a0 - ((Int.toNat (a0 / 2) &&& Int.toNat 1431655765 : Nat) : Int)) &&& Int.toNat 858993459 : Nat) : Int) + ((Int.toNat ((a0 - ((Int.toNat (a0 / 2) &&& Int.toNat 1431655765 : Nat) : Int)) / 4) &&& Int.toNat 858993459 : Nat) : Int)) / 16)) &&& Int.toNat 252645135 : Nat) : Int) + (((Int.toNat ((((Int.toNat (a0 - ((Int.toNat (a0 / 2) &&& Int.toNat 1431655765 : Nat) : Int)) &&& Int.toNat 858993459 : Nat) : Int) + ((Int.toNat ((a0 - ((Int.toNat (a0 / 2) &&& Int.toNat 1431655765 : Nat) : Int)) / 4) &&& Int.toNat 858993459 : Nat) : Int)) + ((((Int.toNat (a0 - ((Int.toNat (a0 / 2) &&& Int.toNat 1431655765 : Nat) : Int)) &&& Int.toNat 858993459 : Nat) : Int) + ((Int.toNat ((a0 - ((Int.toNat (a0 / 2) &&& Int.toNat 1431655765 : Nat) : Int)) / 4) &&& Int.toNat 858993459 : Nat) : Int)) / 16)) &&& Int.toNat 252645135 : Nat) : Int) / 256)) / 65536))) ∧ Q (some (kI ((Int.toNat ((((Int.toNat ((((Int.toNat (a0 - ((Int.toNat (a0 / 2) &&& Int.toNat 1431655765 : Nat) : Int)) &&& Int.toNat 858993459 : Nat) : Int) + ((Int.toNat ((a0 - ((Int.toNat (a0 / 2) &&& Int.toNat 1431655765 : Nat) : Int)) / 4) &&& Int.toNat 858993459 : Nat) : Int)) + ((((Int.toNat (a0 - ((Int.toNat (a0 / 2) &&& Int.toNat 1431655765 : Nat) : Int)) &&& Int.toNat 858993459 : Nat) : Int) + ((Int.toNat ((a0 - ((Int.toNat (a0 / 2) &&& Int.toNat 1431655765 : Nat) : Int)) / 4) &&& Int.toNat 858993459 : Nat) : Int)) / 16)) &&& Int.toNat 252645135 : Nat) : Int) + (((Int.toNat ((((Int.toNat (a0 - ((Int.toNat (a0 / 2) &&& Int.toNat 1431655765 : Nat) : Int)) &&& Int.toNat 858993459 : Nat) : Int) + ((Int.toNat ((a0 - ((Int.toNat (a0 / 2) &&& Int.toNat 1431655765 : Nat) : Int)) / 4) &&& Int.toNat 858993459 : Nat) : Int)) + ((((Int.toNat (a0 - ((Int.toNat (a0 / 2) &&& Int.toNat 1431655765 : Nat) : Int)) &&& Int.toNat 858993459 : Nat) : Int) + ((Int.toNat ((a0 - ((Int.toNat (a0 / 2) &&& Int.toNat 1431655765 : Nat) : Int)) / 4) &&& Int.toNat 858993459 : Nat) : Int)) / 16)) &&& Int.toNat 252645135 : Nat) : Int) / 256)) + ((((Int.toNat ((((Int.toNat (a0 - ((Int.toNat (a0 / 2) &&& Int.toNat 1431655765 : Nat) : Int)) &&& Int.toNat 858993459 : Nat) : Int) + ((Int.toNat ((a0 - ((Int.toNat (a0 / 2) &&& Int.toNat 1431655765 : Nat) : Int)) / 4) &&& Int.toNat 858993459 : Nat) : Int)) + ((((Int.toNat (a0 - ((Int.toNat (a0 / 2) &&& Int.toNat 1431655765 : Nat) : Int)) &&& Int.toNat 858993459 : Nat) : Int) + ((Int.toNat ((a0 - ((Int.toNat (a0 / 2) &&& Int.toNat 1431655765 : Nat) : Int)) / 4) &&& Int.toNat 858993459 : Nat) : Int)) / 16)) &&& Int.toNat 252645135 : Nat) : Int) + (((Int.toNat ((((Int.toNat (a0 - ((Int.toNat (a0 / 2) &&& Int.toNat 1431655765 : Nat) : Int)) &&& Int.toNat 858993459 : Nat) : Int) + ((Int.toNat ((a0 - ((Int.toNat (a0 / 2) &&& Int.toNat 1431655765 : Nat) : Int)) / 4) &&& Int.toNat 858993459 : Nat) : Int)) + ((((Int.toNat (a0 - ((Int.toNat (a0 / 2) &&& Int.toNat 1431655765 : Nat) : Int)) &&& Int.toNat 858993459 : Nat) : Int) + ((Int.toNat ((a0 - ((Int.toNat (a0 / 2) &&& Int.toNat 1431655765 : Nat) : Int)) / 4) &&& Int.toNat 858993459 : Nat) : Int)) / 16)) &&& Int.toNat 252645135 : Nat) : Int) / 256)) / 65536)) &&& Int.toNat 63 : Nat) : Int))) V) :
    kGo xs Lx (d + 0) 218 0 [some (kI a0)] [] V Q := by
  refine g_iload_n 1 gq218 rfl rfl rfl ?_
  refine g_iload_n 2 gq218 rfl rfl rfl ?_
  refine g_iconst 3 gq218 rfl rfl ?_
  have c3 := h.1
  replace h := h.2
  refine g_iushr 4 gq218 rfl rfl c3 (by omega) ?_
  refine g_ldcw 7 (1431655765) gq218 rfl rfl rfl rfl ?_
  have c7 := h.1
  replace h := h.2
  refine g_iand 8 gq218 rfl rfl c7 (by omega) ?_
  refine g_isub 9 gq218 rfl rfl ?_
  refine g_istore_n 10 gq218 rfl rfl rfl ?_
  refine g_iload_n 11 gq218 rfl rfl rfl ?_
  refine g_ldcw 14 (858993459) gq218 rfl rfl rfl rfl ?_
  have c14 := h.1
  replace h := h.2
  refine g_iand 15 gq218 rfl rfl c14 (by omega) ?_
  refine g_iload_n 16 gq218 rfl rfl rfl ?_
  refine g_iconst 17 gq218 rfl rfl ?_
  have c19 := h.1
  replace h := h.2
  refine g_iushr 18 gq218 rfl rfl c19 (by omega) ?_
  refine g_ldcw 21 (858993459) gq218 rfl rfl rfl rfl ?_
  have c23 := h.1
  replace h := h.2
  refine g_iand 22 gq218 rfl rfl c23 (by omega) ?_
  refine g_iadd 23 gq218 rfl rfl ?_
  refine g_istore_n 24 gq218 rfl rfl rfl ?_
  refine g_iload_n 25 gq218 rfl rfl rfl ?_
  refine g_iload_n 26 gq218 rfl rfl rfl ?_
  refine g_iconst 27 gq218 rfl rfl ?_
  have c31 := h.1
  replace h := h.2
  refine g_iushr 28 gq218 rfl rfl c31 (by omega) ?_
  refine g_iadd 29 gq218 rfl rfl ?_
  refine g_ldcw 32 (252645135) gq218 rfl rfl rfl rfl ?_
  have c36 := h.1
  replace h := h.2
  refine g_iand 33 gq218 rfl rfl c36 (by omega) ?_
  refine g_istore_n 34 gq218 rfl rfl rfl ?_
  refine g_iload_n 35 gq218 rfl rfl rfl ?_
  refine g_iload_n 36 gq218 rfl rfl rfl ?_
  refine g_bipush 38 gq218 rfl rfl rfl ?_
  have c43 := h.1
  replace h := h.2
  refine g_iushr 39 gq218 rfl rfl c43 (by omega) ?_
  refine g_iadd 40 gq218 rfl rfl ?_
  refine g_istore_n 41 gq218 rfl rfl rfl ?_
  refine g_iload_n 42 gq218 rfl rfl rfl ?_
  refine g_iload_n 43 gq218 rfl rfl rfl ?_
  refine g_bipush 45 gq218 rfl rfl rfl ?_
  have c51 := h.1
  replace h := h.2
  refine g_iushr 46 gq218 rfl rfl c51 (by omega) ?_
  refine g_iadd 47 gq218 rfl rfl ?_
  refine g_istore_n 48 gq218 rfl rfl rfl ?_
  refine g_iload_n 49 gq218 rfl rfl rfl ?_
  refine g_bipush 51 gq218 rfl rfl rfl ?_
  have c58 := h.1
  replace h := h.2
  refine g_iand 52 gq218 rfl rfl c58 (by omega) ?_
  exact g_iret gq218 rfl rfl h
set_option maxRecDepth 10000 in
theorem b221_0 {xs : Nat → Int32} {Lx d : Nat} {V : km_V} {Q : Option Value → km_V → Prop} {a0 a1 : Int} 
    (h : (kR a0) ∧ (kR a1) ∧ ((a0 < a1 →
    Q (some (kI a1)) V) ∧
   (a1 ≤ a0 →
    Q (some (kI a0)) V))) :
    kGo xs Lx (d + 0) 221 0 [some (kI a0), some (kI a1)] [] V Q := by
  refine g_iload_n 1 gq221 rfl rfl rfl ?_
  refine g_iload_n 2 gq221 rfl rfl rfl ?_
  have c2 := h.1
  replace h := h.2
  have c4 := h.1
  replace h := h.2
  refine g_icmp_lt 9 5 gq221 rfl rfl rfl c2 c4 (fun c => ?_) (fun c => ?_)
  · replace h := h.1 c
    refine g_iload_n 10 gq221 rfl rfl rfl ?_
    exact g_iret gq221 rfl rfl h
  · replace h := h.2 c
    refine g_iload_n 6 gq221 rfl rfl rfl ?_
    refine g_goto 10 gq221 rfl rfl ?_
    exact g_iret gq221 rfl rfl h
set_option maxRecDepth 10000 in
theorem b222_0 {xs : Nat → Int32} {Lx d : Nat} {V : km_V} {Q : Option Value → km_V → Prop} {a0 a1 : Int} 
    (h : (kR a0) ∧ (kR a1) ∧ ((a1 < a0 →
    Q (some (kI a1)) V) ∧
   (a0 ≤ a1 →
    Q (some (kI a0)) V))) :
    kGo xs Lx (d + 0) 222 0 [some (kI a0), some (kI a1)] [] V Q := by
  refine g_iload_n 1 gq222 rfl rfl rfl ?_
  refine g_iload_n 2 gq222 rfl rfl rfl ?_
  have c2 := h.1
  replace h := h.2
  have c4 := h.1
  replace h := h.2
  refine g_icmp_gt 9 5 gq222 rfl rfl rfl c2 c4 (fun c => ?_) (fun c => ?_)
  · replace h := h.1 c
    refine g_iload_n 10 gq222 rfl rfl rfl ?_
    exact g_iret gq222 rfl rfl h
  · replace h := h.2 c
    refine g_iload_n 6 gq222 rfl rfl rfl ?_
    refine g_goto 10 gq222 rfl rfl ?_
    exact g_iret gq222 rfl rfl h
set_option maxRecDepth 10000 in
theorem b136_0 {xs : Nat → Int32} {Lx d : Nat} {V : km_V} {Q : Option Value → km_V → Prop} {a1 : Int} 
    (h : (kR (V 299 12)) ∧ (((V 299 12) ≠ 0 →
    Q (some (kI 0)) V) ∧
   ((V 299 12) = 0 →
    (0 ≤ (V 299 11) ∧ (V 299 11) < (403 : Nat)) ∧ (kR (V 302 (Int.toNat (V 299 11)))) ∧ (kR a1) ∧ (((V 302 (Int.toNat (V 299 11))) ≠ a1 →
      Q (some (kI 0)) V) ∧
     ((V 302 (Int.toNat (V 299 11))) = a1 →
      Q (some (kI 1)) V))))) :
    kGo xs Lx (d + 0) 136 0 [some (.ref 299), some (kI a1)] [] V Q := by
  refine g_aload_n 1 gq136 rfl rfl rfl ?_
  refine g_getI 4 gq136 rfl rfl rfl rfl rfl rfl ?_
  have c2 := h.1
  replace h := h.2
  refine g_if_ne 24 7 gq136 rfl rfl rfl c2 (fun c => ?_) (fun c => ?_)
  · replace h := h.1 c
    refine g_iconst 25 gq136 rfl rfl ?_
    exact g_zret gq136 rfl rfl (by omega) h
  · replace h := h.2 c
    refine g_aload_n 8 gq136 rfl rfl rfl ?_
    refine g_getA 11 302 gq136 rfl rfl rfl rfl rfl rfl rfl ?_
    refine g_aload_n 12 gq136 rfl rfl rfl ?_
    refine g_getI 15 gq136 rfl rfl rfl rfl rfl rfl ?_
    have c13 := h.1
    replace h := h.2
    refine g_iald 16 gq136 rfl rfl rfl c13 ?_
    refine g_iload_n 17 gq136 rfl rfl rfl ?_
    have c17 := h.1
    replace h := h.2
    have c19 := h.1
    replace h := h.2
    refine g_icmp_ne 24 20 gq136 rfl rfl rfl c17 c19 (fun c => ?_) (fun c => ?_)
    · replace h := h.1 c
      refine g_iconst 25 gq136 rfl rfl ?_
      exact g_zret gq136 rfl rfl (by omega) h
    · replace h := h.2 c
      refine g_iconst 21 gq136 rfl rfl ?_
      refine g_goto 25 gq136 rfl rfl ?_
      exact g_zret gq136 rfl rfl (by omega) h
set_option maxRecDepth 10000 in
theorem b158_0 {xs : Nat → Int32} {Lx d : Nat} {V : km_V} {Q : Option Value → km_V → Prop} {a2 : Int} {r1 : Nat} (hr1 : km_sh[r1]? = some (11, 78))
    (h : (0 ≤ a2 ∧ a2 < (16 : Nat)) ∧ (0 ≤ (V 313 (Int.toNat a2)) ∧ (V 313 (Int.toNat a2)) ≤ 2147483647) ∧ (kR ((V 313 (Int.toNat a2)) % 2)) ∧ ((((V 313 (Int.toNat a2)) % 2) ≠ 0 →
    (0 ≤ a2 ∧ a2 < (16 : Nat)) ∧ (0 ≤ (V 313 (Int.toNat a2)) ∧ (V 313 (Int.toNat a2)) ≤ 2147483647) ∧ (0 ≤ (70 + ((V 313 (Int.toNat a2)) / 2)) ∧ (70 + ((V 313 (Int.toNat a2)) / 2)) < (78 : Nat)) ∧ (kR (V r1 (Int.toNat (70 + ((V 313 (Int.toNat a2)) / 2))))) ∧ (((V r1 (Int.toNat (70 + ((V 313 (Int.toNat a2)) / 2)))) ≠ 1 →
      Q (some (kI 1)) V) ∧
     ((V r1 (Int.toNat (70 + ((V 313 (Int.toNat a2)) / 2)))) = 1 →
      Q (some (kI 3)) V))) ∧
   (((V 313 (Int.toNat a2)) % 2) = 0 →
    Q (some (kI 0)) V))) :
    kGo xs Lx (d + 0) 158 0 [some (.ref 299), some (.ref r1), some (kI a2)] [] V Q := by
  refine g_aload_n 1 gq158 rfl rfl rfl ?_
  refine g_getA 4 313 gq158 rfl rfl rfl rfl rfl rfl rfl ?_
  refine g_iload_n 5 gq158 rfl rfl rfl ?_
  have c3 := h.1
  replace h := h.2
  refine g_iald 6 gq158 rfl rfl rfl c3 ?_
  refine g_iconst 7 gq158 rfl rfl ?_
  have c7 := h.1
  replace h := h.2
  refine g_irem 8 gq158 rfl rfl c7 (by omega) ?_
  have c10 := h.1
  replace h := h.2
  refine g_if_ne 15 11 gq158 rfl rfl rfl c10 (fun c => ?_) (fun c => ?_)
  · replace h := h.1 c
    refine g_aload_n 16 gq158 rfl rfl rfl ?_
    refine g_bipush 18 gq158 rfl rfl rfl ?_
    refine g_aload_n 19 gq158 rfl rfl rfl ?_
    refine g_getA 22 313 gq158 rfl rfl rfl rfl rfl rfl rfl ?_
    refine g_iload_n 23 gq158 rfl rfl rfl ?_
    have c19 := h.1
    replace h := h.2
    refine g_iald 24 gq158 rfl rfl rfl c19 ?_
    refine g_iconst 25 gq158 rfl rfl ?_
    have c23 := h.1
    replace h := h.2
    refine g_idiv 26 gq158 rfl rfl c23 (by omega) ?_
    refine g_iadd 27 gq158 rfl rfl ?_
    have c27 := h.1
    replace h := h.2
    refine g_iald 28 gq158 rfl rfl hr1 c27 ?_
    refine g_iconst 29 gq158 rfl rfl ?_
    have c31 := h.1
    replace h := h.2
    refine g_icmp_ne 36 32 gq158 rfl rfl rfl c31 (by omega) (fun c => ?_) (fun c => ?_)
    · replace h := h.1 c
      refine g_iconst 37 gq158 rfl rfl ?_
      exact g_iret gq158 rfl rfl h
    · replace h := h.2 c
      refine g_iconst 33 gq158 rfl rfl ?_
      refine g_goto 37 gq158 rfl rfl ?_
      exact g_iret gq158 rfl rfl h
  · replace h := h.2 c
    refine g_iconst 12 gq158 rfl rfl ?_
    refine g_goto 37 gq158 rfl rfl ?_
    exact g_iret gq158 rfl rfl h
set_option maxRecDepth 10000 in
theorem b160_0 {xs : Nat → Int32} {Lx d : Nat} {V : km_V} {Q : Option Value → km_V → Prop} {a1 : Int} 
    (h : (0 ≤ a1 ∧ a1 ≤ 2147483647) ∧ (kR (a1 % 2)) ∧ (((a1 % 2) ≠ 0 →
    (0 ≤ a1 ∧ a1 ≤ 2147483647) ∧ (0 ≤ (a1 / 2) ∧ (a1 / 2) < (16 : Nat)) ∧ (0 ≤ (V 313 (Int.toNat (a1 / 2))) ∧ (V 313 (Int.toNat (a1 / 2))) ≤ 2147483647) ∧ Q (some (kI ((V 313 (Int.toNat (a1 / 2))) / 2))) V) ∧
   ((a1 % 2) = 0 →
    (0 ≤ a1 ∧ a1 ≤ 2147483647) ∧ (0 ≤ (a1 / 2) ∧ (a1 / 2) < (16 : Nat)) ∧ (0 ≤ (V 315 (Int.toNat (a1 / 2))) ∧ (V 315 (Int.toNat (a1 / 2))) < (16 : Nat)) ∧ (0 ≤ (V 313 (Int.toNat (V 315 (Int.toNat (a1 / 2))))) ∧ (V 313 (Int.toNat (V 315 (Int.toNat (a1 / 2))))) ≤ 2147483647) ∧ Q (some (kI ((V 313 (Int.toNat (V 315 (Int.toNat (a1 / 2))))) / 2))) V))) :
    kGo xs Lx (d + 0) 160 0 [some (.ref 299), some (kI a1)] [] V Q := by
  refine g_aload_n 1 gq160 rfl rfl rfl ?_
  refine g_getA 4 313 gq160 rfl rfl rfl rfl rfl rfl rfl ?_
  refine g_iload_n 5 gq160 rfl rfl rfl ?_
  refine g_iconst 6 gq160 rfl rfl ?_
  have c4 := h.1
  replace h := h.2
  refine g_irem 7 gq160 rfl rfl c4 (by omega) ?_
  have c7 := h.1
  replace h := h.2
  refine g_if_ne 21 10 gq160 rfl rfl rfl c7 (fun c => ?_) (fun c => ?_)
  · replace h := h.1 c
    refine g_iload_n 22 gq160 rfl rfl rfl ?_
    refine g_iconst 23 gq160 rfl rfl ?_
    have c13 := h.1
    replace h := h.2
    refine g_idiv 24 gq160 rfl rfl c13 (by omega) ?_
    have c16 := h.1
    replace h := h.2
    refine g_iald 25 gq160 rfl rfl rfl c16 ?_
    refine g_iconst 26 gq160 rfl rfl ?_
    have c20 := h.1
    replace h := h.2
    refine g_idiv 27 gq160 rfl rfl c20 (by omega) ?_
    exact g_iret gq160 rfl rfl h
  · replace h := h.2 c
    refine g_aload_n 11 gq160 rfl rfl rfl ?_
    refine g_getA 14 315 gq160 rfl rfl rfl rfl rfl rfl rfl ?_
    refine g_iload_n 15 gq160 rfl rfl rfl ?_
    refine g_iconst 16 gq160 rfl rfl ?_
    have c29 := h.1
    replace h := h.2
    refine g_idiv 17 gq160 rfl rfl c29 (by omega) ?_
    have c32 := h.1
    replace h := h.2
    refine g_iald 18 gq160 rfl rfl rfl c32 ?_
    refine g_goto 24 gq160 rfl rfl ?_
    have c36 := h.1
    replace h := h.2
    refine g_iald 25 gq160 rfl rfl rfl c36 ?_
    refine g_iconst 26 gq160 rfl rfl ?_
    have c40 := h.1
    replace h := h.2
    refine g_idiv 27 gq160 rfl rfl c40 (by omega) ?_
    exact g_iret gq160 rfl rfl h
set_option maxRecDepth 10000 in
theorem b165_0 {xs : Nat → Int32} {Lx d : Nat} {V : km_V} {Q : Option Value → km_V → Prop} {a1 : Int} 
    (h : (0 ≤ a1 ∧ a1 < (16 : Nat)) ∧ (0 ≤ (V 313 (Int.toNat a1)) ∧ (V 313 (Int.toNat a1)) ≤ 2147483647) ∧ (0 ≤ a1 ∧ a1 < (16 : Nat)) ∧ (0 ≤ (V 315 (Int.toNat a1)) ∧ (V 315 (Int.toNat a1)) < (16 : Nat)) ∧ (0 ≤ (V 313 (Int.toNat (V 315 (Int.toNat a1)))) ∧ (V 313 (Int.toNat (V 315 (Int.toNat a1)))) ≤ 2147483647) ∧ Q (some (kI (((V 313 (Int.toNat a1)) % 2) + ((V 313 (Int.toNat (V 315 (Int.toNat a1)))) % 2)))) V) :
    kGo xs Lx (d + 0) 165 0 [some (.ref 299), some (kI a1)] [] V Q := by
  refine g_aload_n 1 gq165 rfl rfl rfl ?_
  refine g_getA 4 313 gq165 rfl rfl rfl rfl rfl rfl rfl ?_
  refine g_iload_n 5 gq165 rfl rfl rfl ?_
  have c3 := h.1
  replace h := h.2
  refine g_iald 6 gq165 rfl rfl rfl c3 ?_
  refine g_iconst 7 gq165 rfl rfl ?_
  have c7 := h.1
  replace h := h.2
  refine g_irem 8 gq165 rfl rfl c7 (by omega) ?_
  refine g_aload_n 9 gq165 rfl rfl rfl ?_
  refine g_getA 12 313 gq165 rfl rfl rfl rfl rfl rfl rfl ?_
  refine g_aload_n 13 gq165 rfl rfl rfl ?_
  refine g_getA 16 315 gq165 rfl rfl rfl rfl rfl rfl rfl ?_
  refine g_iload_n 17 gq165 rfl rfl rfl ?_
  have c15 := h.1
  replace h := h.2
  refine g_iald 18 gq165 rfl rfl rfl c15 ?_
  have c18 := h.1
  replace h := h.2
  refine g_iald 19 gq165 rfl rfl rfl c18 ?_
  refine g_iconst 20 gq165 rfl rfl ?_
  have c22 := h.1
  replace h := h.2
  refine g_irem 21 gq165 rfl rfl c22 (by omega) ?_
  refine g_iadd 22 gq165 rfl rfl ?_
  exact g_iret gq165 rfl rfl h
set_option maxRecDepth 10000 in
theorem b128_0 {xs : Nat → Int32} {Lx d : Nat} {V : km_V} {Q : Option Value → km_V → Prop} {a1 : Int} 
    (h : (kR a1) ∧ (kR (V 299 4)) ∧ (((V 299 4) ≤ a1 →
    Q (some (kI 0)) V) ∧
   (a1 < (V 299 4) →
    (0 ≤ a1 ∧ a1 < (2000 : Nat)) ∧ Q (some (kI ((V 301 (Int.toNat a1)) % 256))) V))) :
    kGo xs Lx (d + 0) 128 0 [some (.ref 299), some (kI a1)] [] V Q := by
  refine g_iload_n 1 gq128 rfl rfl rfl ?_
  refine g_aload_n 2 gq128 rfl rfl rfl ?_
  refine g_getI 5 gq128 rfl rfl rfl rfl rfl rfl ?_
  have c3 := h.1
  replace h := h.2
  have c5 := h.1
  replace h := h.2
  refine g_icmp_ge 21 8 gq128 rfl rfl rfl c3 c5 (fun c => ?_) (fun c => ?_)
  · replace h := h.1 c
    refine g_iconst 22 gq128 rfl rfl ?_
    exact g_iret gq128 rfl rfl h
  · replace h := h.2 c
    refine g_aload_n 9 gq128 rfl rfl rfl ?_
    refine g_getA 12 301 gq128 rfl rfl rfl rfl rfl rfl rfl ?_
    refine g_iload_n 13 gq128 rfl rfl rfl ?_
    have c15 := h.1
    replace h := h.2
    refine g_bald 14 gq128 rfl rfl rfl c15 ?_
    refine g_sipush 17 gq128 rfl rfl rfl ?_
    refine g_iandM 18 8 gq128 rfl rfl (by decide) rfl ?_
    refine g_goto 22 gq128 rfl rfl ?_
    exact g_iret gq128 rfl rfl h
set_option maxRecDepth 10000 in
theorem b86_0 {xs : Nat → Int32} {Lx d : Nat} {V : km_V} {Q : Option Value → km_V → Prop} {a1 : Int} 
    (h : (kR a1) ∧ ((a1 < 0 →
    Q (some (kI (-1))) V) ∧
   (0 ≤ a1 →
    (kR a1) ∧ (kR (V 1 0)) ∧ (((V 1 0) ≤ a1 →
      Q (some (kI (-1))) V) ∧
     (a1 < (V 1 0) →
      (0 ≤ a1 ∧ a1 < (2000 : Nat)) ∧ Q (some (kI ((V 2 (Int.toNat a1)) % 256))) V))))) :
    kGo xs Lx (d + 0) 86 0 [some (.ref 1), some (kI a1)] [] V Q := by
  refine g_iload_n 1 gq86 rfl rfl rfl ?_
  have c1 := h.1
  replace h := h.2
  refine g_if_lt 25 4 gq86 rfl rfl rfl c1 (fun c => ?_) (fun c => ?_)
  · replace h := h.1 c
    refine g_iconst 26 gq86 rfl rfl ?_
    exact g_iret gq86 rfl rfl h
  · replace h := h.2 c
    refine g_iload_n 5 gq86 rfl rfl rfl ?_
    refine g_aload_n 6 gq86 rfl rfl rfl ?_
    refine g_getI 9 gq86 rfl rfl rfl rfl rfl rfl ?_
    have c11 := h.1
    replace h := h.2
    have c13 := h.1
    replace h := h.2
    refine g_icmp_ge 25 12 gq86 rfl rfl rfl c11 c13 (fun c => ?_) (fun c => ?_)
    · replace h := h.1 c
      refine g_iconst 26 gq86 rfl rfl ?_
      exact g_iret gq86 rfl rfl h
    · replace h := h.2 c
      refine g_aload_n 13 gq86 rfl rfl rfl ?_
      refine g_getA 16 2 gq86 rfl rfl rfl rfl rfl rfl rfl ?_
      refine g_iload_n 17 gq86 rfl rfl rfl ?_
      have c23 := h.1
      replace h := h.2
      refine g_bald 18 gq86 rfl rfl rfl c23 ?_
      refine g_sipush 21 gq86 rfl rfl rfl ?_
      refine g_iandM 22 8 gq86 rfl rfl (by decide) rfl ?_
      refine g_goto 26 gq86 rfl rfl ?_
      exact g_iret gq86 rfl rfl h
end
section
/-! the methods that answer and change nothing -/
def kin (v lo hi : Int) : Int := if lo ≤ v ∧ v ≤ hi then 1 else 0
def khas (s k : Int) : Int := if (s / ((2 ^ Int.toNat k : Nat) : Int)) % 2 = 1 then 1 else 0
def kdig (c : Int) : Int := if 48 ≤ c ∧ c ≤ 57 then 1 else 0
def klet (c : Int) : Int := if 97 ≤ c ∧ c ≤ 122 then 1 else 0
def kblk (c : Int) : Int := if c = 9 ∨ c = 10 ∨ c = 13 ∨ c = 32 then 1 else 0
def kmax (x y : Int) : Int := if x < y then y else x
def kmin (x y : Int) : Int := if y < x then y else x
def kbit (x : Int) : Int := ((((List.range 8).map (fun i => x.toNat / 2 ^ i % 2)).sum : Nat) : Int)
def kis (V : km_V) (k : Int) : Int := if V 299 12 = 0 ∧ V 302 (Int.toNat (V 299 11)) = k then 1 else 0
def kisC (V : km_V) (k : Int) : Prop := kR (V 299 12) ∧ kR k ∧ (V 299 12 = 0 → (0 ≤ V 299 11 ∧ V 299 11 < (403 : Nat)) ∧ kR (V 302 (Int.toNat (V 299 11))))
def kein (V : km_V) (r : Nat) (k : Int) : Int := if V 313 (Int.toNat k) % 2 = 0 then 0 else if V r (Int.toNat (70 + V 313 (Int.toNat k) / 2)) = 1 then 3 else 1
def keinC (V : km_V) (r : Nat) (k : Int) : Prop := (0 ≤ k ∧ k < (16 : Nat)) ∧ (0 ≤ V 313 (Int.toNat k) ∧ V 313 (Int.toNat k) < 16) ∧ kR (V r (Int.toNat (70 + V 313 (Int.toNat k) / 2)))
def kcb (V : km_V) (w : Int) : Int := V 313 (Int.toNat (if w % 2 = 0 then V 315 (Int.toNat (w / 2)) else w / 2)) / 2
def kcbC (V : km_V) (w : Int) : Prop := (0 ≤ w ∧ w < 32) ∧ (w % 2 = 0 → 0 ≤ V 315 (Int.toNat (w / 2)) ∧ V 315 (Int.toNat (w / 2)) < (16 : Nat)) ∧ (0 ≤ V 313 (Int.toNat (if w % 2 = 0 then V 315 (Int.toNat (w / 2)) else w / 2)) ∧ V 313 (Int.toNat (if w % 2 = 0 then V 315 (Int.toNat (w / 2)) else w / 2)) < 16)
def kov (V : km_V) (e : Int) : Int := V 313 (Int.toNat e) % 2 + V 313 (Int.toNat (V 315 (Int.toNat e))) % 2
def kovC (V : km_V) (e : Int) : Prop := (0 ≤ e ∧ e < (16 : Nat)) ∧ (0 ≤ V 315 (Int.toNat e) ∧ V 315 (Int.toNat e) < (16 : Nat)) ∧ (0 ≤ V 313 (Int.toNat e) ∧ V 313 (Int.toNat e) < 16) ∧ (0 ≤ V 313 (Int.toNat (V 315 (Int.toNat e))) ∧ V 313 (Int.toNat (V 315 (Int.toNat e))) < 16)
def kmby (V : km_V) (i : Int) : Int := if i < V 299 4 then V 301 (Int.toNat i) % 256 else 0
def kmbyC (V : km_V) (i : Int) : Prop := (0 ≤ i ∧ kR i) ∧ (0 ≤ V 299 4 ∧ V 299 4 ≤ 2000)
def kcby (V : km_V) (i : Int) : Int := if 0 ≤ i ∧ i < V 1 0 then V 2 (Int.toNat i) % 256 else -1
def kcbyC (V : km_V) (i : Int) : Prop := kR i ∧ (0 ≤ V 1 0 ∧ V 1 0 ≤ 2000)
section PU
variable {xs : Nat → Int32} {Lx d : Nat} {V : km_V} {Q : Option Value → km_V → Prop}
theorem sp_in {v lo hi : Int} (c1 : kR v) (c2 : kR lo) (c3 : kR hi) (k : Q (some (kI (kin v lo hi))) V) : kGo xs Lx d 153 0 [some (kI v), some (kI lo), some (kI hi)] [] V Q := by
  unfold kin at k
  exact b153_0 ⟨c1, c2, ⟨fun h => by rwa [if_neg (by omega)] at k, fun h => ⟨c1, c3, ⟨fun h2 => by rwa [if_neg (by omega)] at k, fun h2 => by rwa [if_pos (by omega)] at k⟩⟩⟩⟩
theorem sp_has {s b : Int} (c : kR s ∧ (0 ≤ b ∧ b < 32)) (k : Q (some (kI (khas s b))) V) : kGo xs Lx d 154 0 [some (kI s), some (kI b)] [] V Q := by
  unfold khas at k
  refine b154_0 ⟨c.1, c.2, by omega, ⟨fun h => by rwa [if_neg h] at k, fun h => by rwa [if_pos h] at k⟩⟩
theorem sp_mdig {x : Int} (c : kR x) (k : Q (some (kI (kdig x))) V) : kGo xs Lx d 129 0 [some (kI x)] [] V Q := by
  unfold kdig at k
  exact b129_0 ⟨c, ⟨fun h => by rwa [if_neg (by omega)] at k, fun h => ⟨c, ⟨fun h2 => by rwa [if_neg (by omega)] at k, fun h2 => by rwa [if_pos (by omega)] at k⟩⟩⟩⟩
theorem sp_mlet {x : Int} (c : kR x) (k : Q (some (kI (klet x))) V) : kGo xs Lx d 130 0 [some (kI x)] [] V Q := by
  unfold klet at k
  exact b130_0 ⟨c, ⟨fun h => by rwa [if_neg (by omega)] at k, fun h => ⟨c, ⟨fun h2 => by rwa [if_neg (by omega)] at k, fun h2 => by rwa [if_pos (by omega)] at k⟩⟩⟩⟩
theorem sp_cdig {x : Int} (c : kR x) (k : Q (some (kI (kdig x))) V) : kGo xs Lx d 89 0 [some (kI x)] [] V Q := by
  unfold kdig at k
  exact b89_0 ⟨c, ⟨fun h => by rwa [if_neg (by omega)] at k, fun h => ⟨c, ⟨fun h2 => by rwa [if_neg (by omega)] at k, fun h2 => by rwa [if_pos (by omega)] at k⟩⟩⟩⟩
theorem sp_clet {x : Int} (c : kR x) (k : Q (some (kI (klet x))) V) : kGo xs Lx d 88 0 [some (kI x)] [] V Q := by
  unfold klet at k
  exact b88_0 ⟨c, ⟨fun h => by rwa [if_neg (by omega)] at k, fun h => ⟨c, ⟨fun h2 => by rwa [if_neg (by omega)] at k, fun h2 => by rwa [if_pos (by omega)] at k⟩⟩⟩⟩
theorem sp_cblk {x : Int} (c : kR x) (k : Q (some (kI (kblk x))) V) : kGo xs Lx d 87 0 [some (kI x)] [] V Q := by
  unfold kblk at k
  exact b87_0 ⟨c, ⟨fun h => by rwa [if_pos (by omega)] at k, fun h => ⟨c, ⟨fun h => by rwa [if_pos (by omega)] at k, fun h => ⟨c, ⟨fun h => by rwa [if_pos (by omega)] at k, fun h => ⟨c, ⟨fun h => by rwa [if_neg (by omega)] at k, fun h => by rwa [if_pos (by omega)] at k⟩⟩⟩⟩⟩⟩⟩⟩
theorem sp_max {x y : Int} (c1 : kR x) (c2 : kR y) (k : Q (some (kI (kmax x y))) V) : kGo xs Lx d 221 0 [some (kI x), some (kI y)] [] V Q := by
  unfold kmax at k
  exact b221_0 ⟨c1, c2, ⟨fun h => by rwa [if_pos h] at k, fun h => by rwa [if_neg (by omega)] at k⟩⟩
theorem sp_min {x y : Int} (c1 : kR x) (c2 : kR y) (k : Q (some (kI (kmin x y))) V) : kGo xs Lx d 222 0 [some (kI x), some (kI y)] [] V Q := by
  unfold kmin at k
  exact b222_0 ⟨c1, c2, ⟨fun h => by rwa [if_pos h] at k, fun h => by rwa [if_neg (by omega)] at k⟩⟩
theorem sp_is {x : Int} (c : kisC V x) (k : Q (some (kI (kis V x))) V) : kGo xs Lx d 136 0 [some (.ref 299), some (kI x)] [] V Q := by
  obtain ⟨c1, c2, c3⟩ := c
  unfold kis at k
  refine b136_0 ⟨c1, ⟨fun h => by rwa [if_neg (fun z => h z.1)] at k, fun h => ⟨(c3 h).1, (c3 h).2, c2, ⟨fun h2 => by rwa [if_neg (fun z => h2 z.2)] at k, fun h2 => by rwa [if_pos ⟨h, h2⟩] at k⟩⟩⟩⟩
theorem sp_endIn {r : Nat} {x : Int} (hr : km_sh[r]? = some (11, 78)) (c : keinC V r x) (k : Q (some (kI (kein V r x))) V) : kGo xs Lx d 158 0 [some (.ref 299), some (.ref r), some (kI x)] [] V Q := by
  obtain ⟨c1, c2, c3⟩ := c
  unfold kein at k
  refine b158_0 hr ⟨c1, by omega, by omega, ⟨fun h => ⟨c1, by omega, by omega, c3, ⟨fun h2 => by rwa [if_neg h, if_neg h2] at k, fun h2 => by rwa [if_neg h, if_pos h2] at k⟩⟩, fun h => by rwa [if_pos h] at k⟩⟩
theorem sp_cb {w : Int} (c : kcbC V w) (k : Q (some (kI (kcb V w))) V) : kGo xs Lx d 160 0 [some (.ref 299), some (kI w)] [] V Q := by
  obtain ⟨c1, c2, c3⟩ := c
  unfold kcb at k
  refine b160_0 ⟨by omega, by omega, ⟨fun h => ?_, fun h => ?_⟩⟩
  · rw [if_neg h] at k c3
    exact ⟨by omega, by omega, by omega, k⟩
  · rw [if_pos h] at k c3
    exact ⟨by omega, by omega, c2 h, by omega, k⟩
theorem sp_ov {x : Int} (c : kovC V x) (k : Q (some (kI (kov V x))) V) : kGo xs Lx d 165 0 [some (.ref 299), some (kI x)] [] V Q := by
  obtain ⟨c1, c2, c3, c4⟩ := c
  unfold kov at k
  exact b165_0 ⟨c1, by omega, c1, c2, by omega, k⟩
theorem sp_mby {x : Int} (c : kmbyC V x) (k : Q (some (kI (kmby V x))) V) : kGo xs Lx d 128 0 [some (.ref 299), some (kI x)] [] V Q := by
  obtain ⟨c1, c2⟩ := c
  unfold kmby at k
  exact b128_0 ⟨c1.2, by omega, ⟨fun h => by rwa [if_neg (by omega)] at k, fun h => ⟨by omega, by rwa [if_pos h] at k⟩⟩⟩
theorem sp_cby {x : Int} (c : kcbyC V x) (k : Q (some (kI (kcby V x))) V) : kGo xs Lx d 86 0 [some (.ref 1), some (kI x)] [] V Q := by
  obtain ⟨c1, c2⟩ := c
  unfold kcby at k
  exact b86_0 ⟨c1, ⟨fun h => by rwa [if_neg (by omega)] at k, fun h => ⟨c1, by omega, ⟨fun h2 => by rwa [if_neg (by omega)] at k, fun h2 => ⟨by omega, by rwa [if_pos (by omega)] at k⟩⟩⟩⟩⟩
set_option maxRecDepth 100000 in
set_option maxHeartbeats 4000000 in
theorem k_bitc : ∀ n : Nat, n < 256 → ((0 ≤ (n : Int) ∧ (n : Int) ≤ 2147483647) ∧ (0 ≤ ((n : Int) / 2)) ∧ (0 ≤ ((n : Int) - ((Int.toNat ((n : Int) / 2) &&& Int.toNat 1431655765 : Nat) : Int))) ∧ (0 ≤ ((n : Int) - ((Int.toNat ((n : Int) / 2) &&& Int.toNat 1431655765 : Nat) : Int)) ∧ ((n : Int) - ((Int.toNat ((n : Int) / 2) &&& Int.toNat 1431655765 : Nat) : Int)) ≤ 2147483647) ∧ (0 ≤ (((n : Int) - ((Int.toNat ((n : Int) / 2) &&& Int.toNat 1431655765 : Nat) : Int)) / 4)) ∧ (0 ≤ (((Int.toNat ((n : Int) - ((Int.toNat ((n : Int) / 2) &&& Int.toNat 1431655765 : Nat) : Int)) &&& Int.toNat 858993459 : Nat) : Int) + ((Int.toNat (((n : Int) - ((Int.toNat ((n : Int) / 2) &&& Int.toNat 1431655765 : Nat) : Int)) / 4) &&& Int.toNat 858993459 : Nat) : Int)) ∧ (((Int.toNat ((n : Int) - ((Int.toNat ((n : Int) / 2) &&& Int.toNat 1431655765 : Nat) : Int)) &&& Int.toNat 858993459 : Nat) : Int) + ((Int.toNat (((n : Int) - ((Int.toNat ((n : Int) / 2) &&& Int.toNat 1431655765 : Nat) : Int)) / 4) &&& Int.toNat 858993459 : Nat) : Int)) ≤ 2147483647) ∧ (0 ≤ ((((Int.toNat ((n : Int) - ((Int.toNat ((n : Int) / 2) &&& Int.toNat 1431655765 : Nat) : Int)) &&& Int.toNat 858993459 : Nat) : Int) + ((Int.toNat (((n : Int) - ((Int.toNat ((n : Int) / 2) &&& Int.toNat 1431655765 : Nat) : Int)) / 4) &&& Int.toNat 858993459 : Nat) : Int)) + ((((Int.toNat ((n : Int) - ((Int.toNat ((n : Int) / 2) &&& Int.toNat 1431655765 : Nat) : Int)) &&& Int.toNat 858993459 : Nat) : Int) + ((Int.toNat (((n : Int) - ((Int.toNat ((n : Int) / 2) &&& Int.toNat 1431655765 : Nat) : Int)) / 4) &&& Int.toNat 858993459 : Nat) : Int)) / 16))) ∧ (0 ≤ ((Int.toNat ((((Int.toNat ((n : Int) - ((Int.toNat ((n : Int) / 2) &&& Int.toNat 1431655765 : Nat) : Int)) &&& Int.toNat 858993459 : Nat) : Int) + ((Int.toNat (((n : Int) - ((Int.toNat ((n : Int) / 2) &&& Int.toNat 1431655765 : Nat) : Int)) / 4) &&& Int.toNat 858993459 : Nat) : Int)) + ((((Int.toNat ((n : Int) - ((Int.toNat ((n : Int) / 2) &&& Int.toNat 1431655765 : Nat) : Int)) &&& Int.toNat 858993459 : Nat) : Int) + ((Int.toNat (((n : Int) - ((Int.toNat ((n : Int) / 2) &&& Int.toNat 1431655765 : Nat) : Int)) / 4) &&& Int.toNat 858993459 : Nat) : Int)) / 16)) &&& Int.toNat 252645135 : Nat) : Int) ∧ ((Int.toNat ((((Int.toNat ((n : Int) - ((Int.toNat ((n : Int) / 2) &&& Int.toNat 1431655765 : Nat) : Int)) &&& Int.toNat 858993459 : Nat) : Int) + ((Int.toNat (((n : Int) - ((Int.toNat ((n : Int) / 2) &&& Int.toNat 1431655765 : Nat) : Int)) / 4) &&& Int.toNat 858993459 : Nat) : Int)) + ((((Int.toNat ((n : Int) - ((Int.toNat ((n : Int) / 2) &&& Int.toNat 1431655765 : Nat) : Int)) &&& Int.toNat 858993459 : Nat) : Int) + ((Int.toNat (((n : Int) - ((Int.toNat ((n : Int) / 2) &&& Int.toNat 1431655765 : Nat) : Int)) / 4) &&& Int.toNat 858993459 : Nat) : Int)) / 16)) &&& Int.toNat 252645135 : Nat) : Int) ≤ 2147483647) ∧ (0 ≤ (((Int.toNat ((((Int.toNat ((n : Int) - ((Int.toNat ((n : Int) / 2) &&& Int.toNat 1431655765 : Nat) : Int)) &&& Int.toNat 858993459 : Nat) : Int) + ((Int.toNat (((n : Int) - ((Int.toNat ((n : Int) / 2) &&& Int.toNat 1431655765 : Nat) : Int)) / 4) &&& Int.toNat 858993459 : Nat) : Int)) + ((((Int.toNat ((n : Int) - ((Int.toNat ((n : Int) / 2) &&& Int.toNat 1431655765 : Nat) : Int)) &&& Int.toNat 858993459 : Nat) : Int) + ((Int.toNat (((n : Int) - ((Int.toNat ((n : Int) / 2) &&& Int.toNat 1431655765 : Nat) : Int)) / 4) &&& Int.toNat 858993459 : Nat) : Int)) / 16)) &&& Int.toNat 252645135 : Nat) : Int) + (((Int.toNat ((((Int.toNat ((n : Int) - ((Int.toNat ((n : Int) / 2) &&& Int.toNat 1431655765 : Nat) : Int)) &&& Int.toNat 858993459 : Nat) : Int) + ((Int.toNat (((n : Int) - ((Int.toNat ((n : Int) / 2) &&& Int.toNat 1431655765 : Nat) : Int)) / 4) &&& Int.toNat 858993459 : Nat) : Int)) + ((((Int.toNat ((n : Int) - ((Int.toNat ((n : Int) / 2) &&& Int.toNat 1431655765 : Nat) : Int)) &&& Int.toNat 858993459 : Nat) : Int) + ((Int.toNat (((n : Int) - ((Int.toNat ((n : Int) / 2) &&& Int.toNat 1431655765 : Nat) : Int)) / 4) &&& Int.toNat 858993459 : Nat) : Int)) / 16)) &&& Int.toNat 252645135 : Nat) : Int) / 256)) ∧ (((Int.toNat ((((Int.toNat ((n : Int) - ((Int.toNat ((n : Int) / 2) &&& Int.toNat 1431655765 : Nat) : Int)) &&& Int.toNat 858993459 : Nat) : Int) + ((Int.toNat (((n : Int) - ((Int.toNat ((n : Int) / 2) &&& Int.toNat 1431655765 : Nat) : Int)) / 4) &&& Int.toNat 858993459 : Nat) : Int)) + ((((Int.toNat ((n : Int) - ((Int.toNat ((n : Int) / 2) &&& Int.toNat 1431655765 : Nat) : Int)) &&& Int.toNat 858993459 : Nat) : Int) + ((Int.toNat (((n : Int) - ((Int.toNat ((n : Int) / 2) &&& Int.toNat 1431655765 : Nat) : Int)) / 4) &&& Int.toNat 858993459 : Nat) : Int)) / 16)) &&& Int.toNat 252645135 : Nat) : Int) + (((Int.toNat ((((Int.toNat ((n : Int) - ((Int.toNat ((n : Int) / 2) &&& Int.toNat 1431655765 : Nat) : Int)) &&& Int.toNat 858993459 : Nat) : Int) + ((Int.toNat (((n : Int) - ((Int.toNat ((n : Int) / 2) &&& Int.toNat 1431655765 : Nat) : Int)) / 4) &&& Int.toNat 858993459 : Nat) : Int)) + ((((Int.toNat ((n : Int) - ((Int.toNat ((n : Int) / 2) &&& Int.toNat 1431655765 : Nat) : Int)) &&& Int.toNat 858993459 : Nat) : Int) + ((Int.toNat (((n : Int) - ((Int.toNat ((n : Int) / 2) &&& Int.toNat 1431655765 : Nat) : Int)) / 4) &&& Int.toNat 858993459 : Nat) : Int)) / 16)) &&& Int.toNat 252645135 : Nat) : Int) / 256)) ≤ 2147483647) ∧ (0 ≤ ((((Int.toNat ((((Int.toNat ((n : Int) - ((Int.toNat ((n : Int) / 2) &&& Int.toNat 1431655765 : Nat) : Int)) &&& Int.toNat 858993459 : Nat) : Int) + ((Int.toNat (((n : Int) - ((Int.toNat ((n : Int) / 2) &&& Int.toNat 1431655765 : Nat) : Int)) / 4) &&& Int.toNat 858993459 : Nat) : Int)) + ((((Int.toNat ((n : Int) - ((Int.toNat ((n : Int) / 2) &&& Int.toNat 1431655765 : Nat) : Int)) &&& Int.toNat 858993459 : Nat) : Int) + ((Int.toNat (((n : Int) - ((Int.toNat ((n : Int) / 2) &&& Int.toNat 1431655765 : Nat) : Int)) / 4) &&& Int.toNat 858993459 : Nat) : Int)) / 16)) &&& Int.toNat 252645135 : Nat) : Int) + (((Int.toNat ((((Int.toNat ((n : Int) - ((Int.toNat ((n : Int) / 2) &&& Int.toNat 1431655765 : Nat) : Int)) &&& Int.toNat 858993459 : Nat) : Int) + ((Int.toNat (((n : Int) - ((Int.toNat ((n : Int) / 2) &&& Int.toNat 1431655765 : Nat) : Int)) / 4) &&& Int.toNat 858993459 : Nat) : Int)) + ((((Int.toNat ((n : Int) - ((Int.toNat ((n : Int) / 2) &&& Int.toNat 1431655765 : Nat) : Int)) &&& Int.toNat 858993459 : Nat) : Int) + ((Int.toNat (((n : Int) - ((Int.toNat ((n : Int) / 2) &&& Int.toNat 1431655765 : Nat) : Int)) / 4) &&& Int.toNat 858993459 : Nat) : Int)) / 16)) &&& Int.toNat 252645135 : Nat) : Int) / 256)) + ((((Int.toNat ((((Int.toNat ((n : Int) - ((Int.toNat ((n : Int) / 2) &&& Int.toNat 1431655765 : Nat) : Int)) &&& Int.toNat 858993459 : Nat) : Int) + ((Int.toNat (((n : Int) - ((Int.toNat ((n : Int) / 2) &&& Int.toNat 1431655765 : Nat) : Int)) / 4) &&& Int.toNat 858993459 : Nat) : Int)) + ((((Int.toNat ((n : Int) - ((Int.toNat ((n : Int) / 2) &&& Int.toNat 1431655765 : Nat) : Int)) &&& Int.toNat 858993459 : Nat) : Int) + ((Int.toNat (((n : Int) - ((Int.toNat ((n : Int) / 2) &&& Int.toNat 1431655765 : Nat) : Int)) / 4) &&& Int.toNat 858993459 : Nat) : Int)) / 16)) &&& Int.toNat 252645135 : Nat) : Int) + (((Int.toNat ((((Int.toNat ((n : Int) - ((Int.toNat ((n : Int) / 2) &&& Int.toNat 1431655765 : Nat) : Int)) &&& Int.toNat 858993459 : Nat) : Int) + ((Int.toNat (((n : Int) - ((Int.toNat ((n : Int) / 2) &&& Int.toNat 1431655765 : Nat) : Int)) / 4) &&& Int.toNat 858993459 : Nat) : Int)) + ((((Int.toNat ((n : Int) - ((Int.toNat ((n : Int) / 2) &&& Int.toNat 1431655765 : Nat) : Int)) &&& Int.toNat 858993459 : Nat) : Int) + ((Int.toNat (((n : Int) - ((Int.toNat ((n : Int) / 2) &&& Int.toNat 1431655765 : Nat) : Int)) / 4) &&& Int.toNat 858993459 : Nat) : Int)) / 16)) &&& Int.toNat 252645135 : Nat) : Int) / 256)) / 65536)))) ∧ (((Int.toNat ((((Int.toNat ((((Int.toNat ((n : Int) - ((Int.toNat ((n : Int) / 2) &&& Int.toNat 1431655765 : Nat) : Int)) &&& Int.toNat 858993459 : Nat) : Int) + ((Int.toNat (((n : Int) - ((Int.toNat ((n : Int) / 2) &&& Int.toNat 1431655765 : Nat) : Int)) / 4) &&& Int.toNat 858993459 : Nat) : Int)) + ((((Int.toNat ((n : Int) - ((Int.toNat ((n : Int) / 2) &&& Int.toNat 1431655765 : Nat) : Int)) &&& Int.toNat 858993459 : Nat) : Int) + ((Int.toNat (((n : Int) - ((Int.toNat ((n : Int) / 2) &&& Int.toNat 1431655765 : Nat) : Int)) / 4) &&& Int.toNat 858993459 : Nat) : Int)) / 16)) &&& Int.toNat 252645135 : Nat) : Int) + (((Int.toNat ((((Int.toNat ((n : Int) - ((Int.toNat ((n : Int) / 2) &&& Int.toNat 1431655765 : Nat) : Int)) &&& Int.toNat 858993459 : Nat) : Int) + ((Int.toNat (((n : Int) - ((Int.toNat ((n : Int) / 2) &&& Int.toNat 1431655765 : Nat) : Int)) / 4) &&& Int.toNat 858993459 : Nat) : Int)) + ((((Int.toNat ((n : Int) - ((Int.toNat ((n : Int) / 2) &&& Int.toNat 1431655765 : Nat) : Int)) &&& Int.toNat 858993459 : Nat) : Int) + ((Int.toNat (((n : Int) - ((Int.toNat ((n : Int) / 2) &&& Int.toNat 1431655765 : Nat) : Int)) / 4) &&& Int.toNat 858993459 : Nat) : Int)) / 16)) &&& Int.toNat 252645135 : Nat) : Int) / 256)) + ((((Int.toNat ((((Int.toNat ((n : Int) - ((Int.toNat ((n : Int) / 2) &&& Int.toNat 1431655765 : Nat) : Int)) &&& Int.toNat 858993459 : Nat) : Int) + ((Int.toNat (((n : Int) - ((Int.toNat ((n : Int) / 2) &&& Int.toNat 1431655765 : Nat) : Int)) / 4) &&& Int.toNat 858993459 : Nat) : Int)) + ((((Int.toNat ((n : Int) - ((Int.toNat ((n : Int) / 2) &&& Int.toNat 1431655765 : Nat) : Int)) &&& Int.toNat 858993459 : Nat) : Int) + ((Int.toNat (((n : Int) - ((Int.toNat ((n : Int) / 2) &&& Int.toNat 1431655765 : Nat) : Int)) / 4) &&& Int.toNat 858993459 : Nat) : Int)) / 16)) &&& Int.toNat 252645135 : Nat) : Int) + (((Int.toNat ((((Int.toNat ((n : Int) - ((Int.toNat ((n : Int) / 2) &&& Int.toNat 1431655765 : Nat) : Int)) &&& Int.toNat 858993459 : Nat) : Int) + ((Int.toNat (((n : Int) - ((Int.toNat ((n : Int) / 2) &&& Int.toNat 1431655765 : Nat) : Int)) / 4) &&& Int.toNat 858993459 : Nat) : Int)) + ((((Int.toNat ((n : Int) - ((Int.toNat ((n : Int) / 2) &&& Int.toNat 1431655765 : Nat) : Int)) &&& Int.toNat 858993459 : Nat) : Int) + ((Int.toNat (((n : Int) - ((Int.toNat ((n : Int) / 2) &&& Int.toNat 1431655765 : Nat) : Int)) / 4) &&& Int.toNat 858993459 : Nat) : Int)) / 16)) &&& Int.toNat 252645135 : Nat) : Int) / 256)) / 65536)) &&& Int.toNat 63 : Nat) : Int)) = kbit (n : Int) := by decide +kernel
theorem sp_bit {x : Int} (c : 0 ≤ x ∧ x < 256) (k : Q (some (kI (kbit x))) V) : kGo xs Lx d 218 0 [some (kI x)] [] V Q := by
  obtain ⟨n, rfl⟩ : ∃ n : Nat, x = (n : Int) := ⟨x.toNat, by omega⟩
  obtain ⟨h1, h2⟩ := k_bitc n (by omega)
  rw [← h2] at k
  exact b218_0 (by
    simp only [and_assoc] at h1 ⊢
    simp only [h1, k, true_and, and_true, and_self])
end PU
end
section
set_option maxRecDepth 10000 in
theorem b159_0 {xs : Nat → Int32} {Lx d : Nat} {V : km_V} {Q : Option Value → km_V → Prop} {a2 : Int} {r1 : Nat} (hr1 : km_sh[r1]? = some (11, 78))
    (h : (0 ≤ a2 ∧ a2 ≤ 2147483647) ∧ (kR (a2 % 2)) ∧ (((a2 % 2) ≠ 0 →
    (keinC V r1 (a2 / 2)) ∧ (0 ≤ ((kein V r1 (a2 / 2)) + 2) ∧ ((kein V r1 (a2 / 2)) + 2) ≤ 2147483647) ∧ (∀ z1 : Int, z1 = (((kein V r1 (a2 / 2)) + 2) % 4) → (0 ≤ (a2 / 2) ∧ (a2 / 2) < (16 : Nat)) ∧ (0 ≤ (V 313 (Int.toNat (a2 / 2))) ∧ (V 313 (Int.toNat (a2 / 2))) ≤ 2147483647) ∧ (0 ≤ (z1 + 1) ∧ (z1 + 1) ≤ 2147483647) ∧ (∀ z2 : Int, z2 = ((4 * ((V 313 (Int.toNat (a2 / 2))) / 2)) + ((z1 + 1) % 4)) → (0 ≤ z2 ∧ z2 < (32 : Nat)) ∧ (kR (V 318 (Int.toNat z2))) ∧ (((V 318 (Int.toNat z2)) = 0 →
      Q (some (kI ((2 * (V 317 (Int.toNat z2))) + 0))) V) ∧
     ((V 318 (Int.toNat z2)) ≠ 0 →
      Q (some (kI ((2 * (V 317 (Int.toNat z2))) + 1))) V))))) ∧
   ((a2 % 2) = 0 →
    (0 ≤ (a2 / 2) ∧ (a2 / 2) < (16 : Nat)) ∧ (∀ z3 : Int, z3 = (V 315 (Int.toNat (a2 / 2))) → (keinC V r1 z3) ∧ (∀ z4 : Int, z4 = (kein V r1 z3) → (0 ≤ z3 ∧ z3 < (16 : Nat)) ∧ (0 ≤ (V 313 (Int.toNat z3)) ∧ (V 313 (Int.toNat z3)) ≤ 2147483647) ∧ (0 ≤ (z4 + 1) ∧ (z4 + 1) ≤ 2147483647) ∧ (∀ z5 : Int, z5 = ((4 * ((V 313 (Int.toNat z3)) / 2)) + ((z4 + 1) % 4)) → (0 ≤ z5 ∧ z5 < (32 : Nat)) ∧ (kR (V 318 (Int.toNat z5))) ∧ (((V 318 (Int.toNat z5)) = 0 →
      Q (some (kI ((2 * (V 317 (Int.toNat z5))) + 0))) V) ∧
     ((V 318 (Int.toNat z5)) ≠ 0 →
      Q (some (kI ((2 * (V 317 (Int.toNat z5))) + 1))) V)))))))) :
    kGo xs Lx (d + 1) 159 0 [some (.ref 299), some (.ref r1), some (kI a2), none, none, none, none] [] V Q := by
  refine g_iload_n 1 gq159 rfl rfl rfl ?_
  refine g_iconst 2 gq159 rfl rfl ?_
  have c2 := h.1
  replace h := h.2
  refine g_idiv 3 gq159 rfl rfl c2 (by omega) ?_
  refine g_istore_n 4 gq159 rfl rfl rfl ?_
  refine g_iload_n 5 gq159 rfl rfl rfl ?_
  refine g_iconst 6 gq159 rfl rfl ?_
  refine g_irem 7 gq159 rfl rfl c2 (by omega) ?_
  have c9 := h.1
  replace h := h.2
  refine g_if_ne 19 10 gq159 rfl rfl rfl c9 (fun c => ?_) (fun c => ?_)
  · replace h := h.1 c
    refine g_iload_n 20 gq159 rfl rfl rfl ?_
    refine g_istore 22 gq159 rfl rfl rfl ?_
    refine g_iload_n 23 gq159 rfl rfl rfl ?_
    refine g_iconst 24 gq159 rfl rfl ?_
    refine g_irem 25 gq159 rfl rfl c2 (by omega) ?_
    refine g_if_ne 38 28 gq159 rfl rfl rfl c9 (fun c => ?_) (fun c => ?_)
    rotate_left
    · exfalso; omega
    refine g_aload_n 39 gq159 rfl rfl rfl ?_
    refine g_aload_n 40 gq159 rfl rfl rfl ?_
    refine g_iload 42 gq159 rfl rfl rfl ?_
    have c24 := h.1
    replace h := h.2
    refine g_virt 158 _ (i := 260) gq159 rfl rfl gq158 rfl rfl rfl rfl rfl rfl ?_
    refine sp_endIn hr1 c24 ?_
    refine g_iconst 46 gq159 rfl rfl ?_
    refine g_iadd 47 gq159 rfl rfl ?_
    refine g_iconst 48 gq159 rfl rfl ?_
    have c31 := h.1
    replace h := h.2
    refine g_irem 49 gq159 rfl rfl c31 (by omega) ?_
    refine g_istore 51 gq159 rfl rfl rfl ?_
    replace h := h _ rfl
    refine g_iconst 52 gq159 rfl rfl ?_
    refine g_aload_n 53 gq159 rfl rfl rfl ?_
    refine g_getA 56 313 gq159 rfl rfl rfl rfl rfl rfl rfl ?_
    refine g_iload 58 gq159 rfl rfl rfl ?_
    have c40 := h.1
    replace h := h.2
    refine g_iald 59 gq159 rfl rfl rfl c40 ?_
    refine g_iconst 60 gq159 rfl rfl ?_
    have c44 := h.1
    replace h := h.2
    refine g_idiv 61 gq159 rfl rfl c44 (by omega) ?_
    refine g_imul 62 gq159 rfl rfl ?_
    refine g_iload 64 gq159 rfl rfl rfl ?_
    refine g_iconst 65 gq159 rfl rfl ?_
    refine g_iadd 66 gq159 rfl rfl ?_
    refine g_iconst 67 gq159 rfl rfl ?_
    have c52 := h.1
    replace h := h.2
    refine g_irem 68 gq159 rfl rfl c52 (by omega) ?_
    refine g_iadd 69 gq159 rfl rfl ?_
    refine g_istore 71 gq159 rfl rfl rfl ?_
    replace h := h _ rfl
    refine g_iconst 72 gq159 rfl rfl ?_
    refine g_aload_n 73 gq159 rfl rfl rfl ?_
    refine g_getA 76 317 gq159 rfl rfl rfl rfl rfl rfl rfl ?_
    refine g_iload 78 gq159 rfl rfl rfl ?_
    have c62 := h.1
    replace h := h.2
    refine g_iald 79 gq159 rfl rfl rfl c62 ?_
    refine g_imul 80 gq159 rfl rfl ?_
    refine g_aload_n 81 gq159 rfl rfl rfl ?_
    refine g_getA 84 318 gq159 rfl rfl rfl rfl rfl rfl rfl ?_
    refine g_iload 86 gq159 rfl rfl rfl ?_
    refine g_zald 87 gq159 rfl rfl rfl c62 ?_
    have c70 := h.1
    replace h := h.2
    refine g_if_eq 94 90 gq159 rfl rfl rfl c70 (fun c => ?_) (fun c => ?_)
    · replace h := h.1 c
      refine g_iconst 95 gq159 rfl rfl ?_
      refine g_iadd 96 gq159 rfl rfl ?_
      exact g_iret gq159 rfl rfl h
    · replace h := h.2 c
      refine g_iconst 91 gq159 rfl rfl ?_
      refine g_goto 95 gq159 rfl rfl ?_
      refine g_iadd 96 gq159 rfl rfl ?_
      exact g_iret gq159 rfl rfl h
  · replace h := h.2 c
    refine g_aload_n 11 gq159 rfl rfl rfl ?_
    refine g_getA 14 315 gq159 rfl rfl rfl rfl rfl rfl rfl ?_
    refine g_iload_n 15 gq159 rfl rfl rfl ?_
    have c86 := h.1
    replace h := h.2
    refine g_iald 16 gq159 rfl rfl rfl c86 ?_
    refine g_goto 20 gq159 rfl rfl ?_
    refine g_istore 22 gq159 rfl rfl rfl ?_
    replace h := h _ rfl
    refine g_iload_n 23 gq159 rfl rfl rfl ?_
    refine g_iconst 24 gq159 rfl rfl ?_
    refine g_irem 25 gq159 rfl rfl c2 (by omega) ?_
    refine g_if_ne 38 28 gq159 rfl rfl rfl c9 (fun c => ?_) (fun c => ?_)
    · exfalso; omega
    refine g_aload_n 29 gq159 rfl rfl rfl ?_
    refine g_aload_n 30 gq159 rfl rfl rfl ?_
    refine g_iload 32 gq159 rfl rfl rfl ?_
    have c100 := h.1
    replace h := h.2
    refine g_virt 158 _ (i := 260) gq159 rfl rfl gq158 rfl rfl rfl rfl rfl rfl ?_
    refine sp_endIn hr1 c100 ?_
    refine g_goto 49 gq159 rfl rfl ?_
    refine g_istore 51 gq159 rfl rfl rfl ?_
    replace h := h _ rfl
    refine g_iconst 52 gq159 rfl rfl ?_
    refine g_aload_n 53 gq159 rfl rfl rfl ?_
    refine g_getA 56 313 gq159 rfl rfl rfl rfl rfl rfl rfl ?_
    refine g_iload 58 gq159 rfl rfl rfl ?_
    have c111 := h.1
    replace h := h.2
    refine g_iald 59 gq159 rfl rfl rfl c111 ?_
    refine g_iconst 60 gq159 rfl rfl ?_
    have c115 := h.1
    replace h := h.2
    refine g_idiv 61 gq159 rfl rfl c115 (by omega) ?_
    refine g_imul 62 gq159 rfl rfl ?_
    refine g_iload 64 gq159 rfl rfl rfl ?_
    refine g_iconst 65 gq159 rfl rfl ?_
    refine g_iadd 66 gq159 rfl rfl ?_
    refine g_iconst 67 gq159 rfl rfl ?_
    have c123 := h.1
    replace h := h.2
    refine g_irem 68 gq159 rfl rfl c123 (by omega) ?_
    refine g_iadd 69 gq159 rfl rfl ?_
    refine g_istore 71 gq159 rfl rfl rfl ?_
    replace h := h _ rfl
    refine g_iconst 72 gq159 rfl rfl ?_
    refine g_aload_n 73 gq159 rfl rfl rfl ?_
    refine g_getA 76 317 gq159 rfl rfl rfl rfl rfl rfl rfl ?_
    refine g_iload 78 gq159 rfl rfl rfl ?_
    have c133 := h.1
    replace h := h.2
    refine g_iald 79 gq159 rfl rfl rfl c133 ?_
    refine g_imul 80 gq159 rfl rfl ?_
    refine g_aload_n 81 gq159 rfl rfl rfl ?_
    refine g_getA 84 318 gq159 rfl rfl rfl rfl rfl rfl rfl ?_
    refine g_iload 86 gq159 rfl rfl rfl ?_
    refine g_zald 87 gq159 rfl rfl rfl c133 ?_
    have c141 := h.1
    replace h := h.2
    refine g_if_eq 94 90 gq159 rfl rfl rfl c141 (fun c => ?_) (fun c => ?_)
    · replace h := h.1 c
      refine g_iconst 95 gq159 rfl rfl ?_
      refine g_iadd 96 gq159 rfl rfl ?_
      exact g_iret gq159 rfl rfl h
    · replace h := h.2 c
      refine g_iconst 91 gq159 rfl rfl ?_
      refine g_goto 95 gq159 rfl rfl ?_
      refine g_iadd 96 gq159 rfl rfl ?_
      exact g_iret gq159 rfl rfl h
end
section
def kturnA (V : km_V) (r : Nat) (w : Int) : Int :=
  if w % 2 = 0 then 4 * (V 313 (Int.toNat (V 315 (Int.toNat (w / 2)))) / 2) + (kein V r (V 315 (Int.toNat (w / 2))) + 1) % 4
  else 4 * (V 313 (Int.toNat (w / 2)) / 2) + ((kein V r (w / 2) + 2) % 4 + 1) % 4
def kturn (V : km_V) (r : Nat) (w : Int) : Int := 2 * V 317 (Int.toNat (kturnA V r w)) + (if V 318 (Int.toNat (kturnA V r w)) = 0 then 0 else 1)
def kturnC (V : km_V) (r : Nat) (w : Int) : Prop := (0 ≤ w ∧ w < 32) ∧ keinC V r (if w % 2 = 0 then V 315 (Int.toNat (w / 2)) else w / 2) ∧ kR (V 318 (Int.toNat (kturnA V r w)))
theorem kein_r (V : km_V) (r : Nat) (k : Int) : 0 ≤ kein V r k ∧ kein V r k < 4 := by
  unfold kein
  split
  · omega
  · split <;> omega
section PT
variable {xs : Nat → Int32} {Lx d : Nat} {V : km_V} {Q : Option Value → km_V → Prop}
theorem sp_turn {r : Nat} {w : Int} (hr : km_sh[r]? = some (11, 78)) (c : kturnC V r w) (k : Q (some (kI (kturn V r w))) V) : kGo xs Lx (d + 1) 159 0 [some (.ref 299), some (.ref r), some (kI w), none, none, none, none] [] V Q := by
  obtain ⟨c1, c2, c5⟩ := c
  unfold kturnA at c5
  unfold kturn kturnA at k
  refine b159_0 hr ⟨by omega, by omega, fun h => ?_, fun h => ?_⟩
  · rw [if_neg h] at k c2 c5
    have h0 := c2.1
    have h1 := c2.2.1
    have h2 := kein_r V r (w / 2)
    refine ⟨c2, by omega, fun z1 e1 => ⟨by omega, by omega, by omega, fun z2 e2 => ?_⟩⟩
    have hz : z2 = 4 * (V 313 (Int.toNat (w / 2)) / 2) + ((kein V r (w / 2) + 2) % 4 + 1) % 4 := by rw [e2, e1]
    rw [← hz] at k c5
    refine ⟨by omega, c5, fun h4 => ?_, fun h4 => ?_⟩
    · rwa [if_pos h4] at k
    · rwa [if_neg h4] at k
  · rw [if_pos h] at k c2 c5
    have h0 := c2.1
    have h1 := c2.2.1
    have h2 := kein_r V r (V 315 (Int.toNat (w / 2)))
    refine ⟨by omega, fun z5 e5 => ?_⟩
    subst e5
    refine ⟨c2, fun z6 e6 => ⟨h0, by omega, by omega, fun z7 e7 => ?_⟩⟩
    have hz : z7 = 4 * (V 313 (Int.toNat (V 315 (Int.toNat (w / 2)))) / 2) + (kein V r (V 315 (Int.toNat (w / 2))) + 1) % 4 := by rw [e7, e6]
    rw [← hz] at k c5
    refine ⟨by omega, c5, fun h4 => ?_, fun h4 => ?_⟩
    · rwa [if_pos h4] at k
    · rwa [if_neg h4] at k
end PT
end

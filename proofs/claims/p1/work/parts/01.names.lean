-- ===== PART A: goes FIRST, ahead of the names: the tables' words, and 'selects' of the private methods out of them =====
/-- a private method of a class that the tables say can be made, by its rows of tables_1 -/
def lw_okq (q : MethodName × Nat) : Prop := (q.1.cls ≠ "java/lang/invoke/MethodHandle" ∧ q.1.cls ≠ "java/lang/invoke/VarHandle") ∧ Cond.instantiable q.1.cls q.2 ∈ tables_1 ∧ Cond.privateMethod q.1 ∈ tables_1 ∧ Cond.instanceMethod q.1 ∈ tables_1
theorem lw_p0 : lw_okq (⟨"PlanarSplit", "forgetAll", "()V"⟩, 11) := ⟨⟨by decide +kernel, by decide +kernel⟩, List.mem_of_getElem? (i := 11) (by decide +kernel), List.mem_of_getElem? (i := 208) (by decide +kernel), List.mem_of_getElem? (i := 209) (by decide +kernel)⟩
theorem lw_p1 : lw_okq (⟨"PlanarSplit", "sortPieces", "()V"⟩, 11) := ⟨⟨by decide +kernel, by decide +kernel⟩, List.mem_of_getElem? (i := 11) (by decide +kernel), List.mem_of_getElem? (i := 240) (by decide +kernel), List.mem_of_getElem? (i := 241) (by decide +kernel)⟩
theorem lw_p2 : lw_okq (⟨"PlanarSplit$Pieces", "place", "(III)V"⟩, 6) := ⟨⟨by decide +kernel, by decide +kernel⟩, List.mem_of_getElem? (i := 58) (by decide +kernel), List.mem_of_getElem? (i := 255) (by decide +kernel), List.mem_of_getElem? (i := 256) (by decide +kernel)⟩
theorem lw_p3 : lw_okq (⟨"PlanarSplit$Pieces", "uniteBlocks", "(I)V"⟩, 6) := ⟨⟨by decide +kernel, by decide +kernel⟩, List.mem_of_getElem? (i := 58) (by decide +kernel), List.mem_of_getElem? (i := 259) (by decide +kernel), List.mem_of_getElem? (i := 260) (by decide +kernel)⟩
theorem lw_p4 : lw_okq (⟨"PlanarSplit$Pieces", "joinComponents", "(III)V"⟩, 6) := ⟨⟨by decide +kernel, by decide +kernel⟩, List.mem_of_getElem? (i := 58) (by decide +kernel), List.mem_of_getElem? (i := 263) (by decide +kernel), List.mem_of_getElem? (i := 264) (by decide +kernel)⟩
theorem lw_p5 : lw_okq (⟨"PlanarSplit", "findTangle", "()V"⟩, 11) := ⟨⟨by decide +kernel, by decide +kernel⟩, List.mem_of_getElem? (i := 11) (by decide +kernel), List.mem_of_getElem? (i := 296) (by decide +kernel), List.mem_of_getElem? (i := 297) (by decide +kernel)⟩
theorem lw_p6 : lw_okq (⟨"PlanarSplit$Drawing", "canDraw", "(I)Z"⟩, 17) := ⟨⟨by decide +kernel, by decide +kernel⟩, List.mem_of_getElem? (i := 89) (by decide +kernel), List.mem_of_getElem? (i := 305) (by decide +kernel), List.mem_of_getElem? (i := 306) (by decide +kernel)⟩
theorem lw_p7 : lw_okq (⟨"PlanarSplit$Drawing", "lookAround", "(I)V"⟩, 17) := ⟨⟨by decide +kernel, by decide +kernel⟩, List.mem_of_getElem? (i := 89) (by decide +kernel), List.mem_of_getElem? (i := 310) (by decide +kernel), List.mem_of_getElem? (i := 311) (by decide +kernel)⟩
theorem lw_p8 : lw_okq (⟨"PlanarSplit$Drawing", "drawEdge", "(I)V"⟩, 17) := ⟨⟨by decide +kernel, by decide +kernel⟩, List.mem_of_getElem? (i := 89) (by decide +kernel), List.mem_of_getElem? (i := 317) (by decide +kernel), List.mem_of_getElem? (i := 318) (by decide +kernel)⟩
theorem lw_p9 : lw_okq (⟨"PlanarSplit$Drawing", "chooseFragment", "(I)Z"⟩, 17) := ⟨⟨by decide +kernel, by decide +kernel⟩, List.mem_of_getElem? (i := 89) (by decide +kernel), List.mem_of_getElem? (i := 325) (by decide +kernel), List.mem_of_getElem? (i := 326) (by decide +kernel)⟩
theorem lw_p10 : lw_okq (⟨"PlanarSplit$Drawing", "gatherFragment", "(I)V"⟩, 17) := ⟨⟨by decide +kernel, by decide +kernel⟩, List.mem_of_getElem? (i := 89) (by decide +kernel), List.mem_of_getElem? (i := 329) (by decide +kernel), List.mem_of_getElem? (i := 330) (by decide +kernel)⟩
theorem lw_p11 : lw_okq (⟨"PlanarSplit$Drawing", "countFacesWith", "(I)I"⟩, 17) := ⟨⟨by decide +kernel, by decide +kernel⟩, List.mem_of_getElem? (i := 89) (by decide +kernel), List.mem_of_getElem? (i := 333) (by decide +kernel), List.mem_of_getElem? (i := 334) (by decide +kernel)⟩
theorem lw_p12 : lw_okq (⟨"PlanarSplit$Drawing", "drawPath", "()V"⟩, 17) := ⟨⟨by decide +kernel, by decide +kernel⟩, List.mem_of_getElem? (i := 89) (by decide +kernel), List.mem_of_getElem? (i := 337) (by decide +kernel), List.mem_of_getElem? (i := 338) (by decide +kernel)⟩
theorem lw_p13 : lw_okq (⟨"PlanarSplit$Drawing", "spread", "(I)I"⟩, 17) := ⟨⟨by decide +kernel, by decide +kernel⟩, List.mem_of_getElem? (i := 89) (by decide +kernel), List.mem_of_getElem? (i := 341) (by decide +kernel), List.mem_of_getElem? (i := 342) (by decide +kernel)⟩
theorem lw_p14 : lw_okq (⟨"PlanarSplit$Drawing", "faceWith", "(I)I"⟩, 17) := ⟨⟨by decide +kernel, by decide +kernel⟩, List.mem_of_getElem? (i := 89) (by decide +kernel), List.mem_of_getElem? (i := 350) (by decide +kernel), List.mem_of_getElem? (i := 351) (by decide +kernel)⟩
theorem lw_p15 : lw_okq (⟨"PlanarSplit$Drawing", "divideFace", "(I)V"⟩, 17) := ⟨⟨by decide +kernel, by decide +kernel⟩, List.mem_of_getElem? (i := 89) (by decide +kernel), List.mem_of_getElem? (i := 354) (by decide +kernel), List.mem_of_getElem? (i := 355) (by decide +kernel)⟩
def lw_privs_1 : List (MethodName × Nat) := [(⟨"PlanarSplit", "forgetAll", "()V"⟩, 11), (⟨"PlanarSplit", "sortPieces", "()V"⟩, 11), (⟨"PlanarSplit$Pieces", "place", "(III)V"⟩, 6), (⟨"PlanarSplit$Pieces", "uniteBlocks", "(I)V"⟩, 6), (⟨"PlanarSplit$Pieces", "joinComponents", "(III)V"⟩, 6), (⟨"PlanarSplit", "findTangle", "()V"⟩, 11), (⟨"PlanarSplit$Drawing", "canDraw", "(I)Z"⟩, 17), (⟨"PlanarSplit$Drawing", "lookAround", "(I)V"⟩, 17), (⟨"PlanarSplit$Drawing", "drawEdge", "(I)V"⟩, 17), (⟨"PlanarSplit$Drawing", "chooseFragment", "(I)Z"⟩, 17), (⟨"PlanarSplit$Drawing", "gatherFragment", "(I)V"⟩, 17), (⟨"PlanarSplit$Drawing", "countFacesWith", "(I)I"⟩, 17), (⟨"PlanarSplit$Drawing", "drawPath", "()V"⟩, 17), (⟨"PlanarSplit$Drawing", "spread", "(I)I"⟩, 17), (⟨"PlanarSplit$Drawing", "faceWith", "(I)I"⟩, 17), (⟨"PlanarSplit$Drawing", "divideFace", "(I)V"⟩, 17)]
theorem lw_r1 : ∀ q ∈ lw_privs_1, lw_okq q := List.forall_mem_cons.mpr ⟨lw_p0, List.forall_mem_cons.mpr ⟨lw_p1, List.forall_mem_cons.mpr ⟨lw_p2, List.forall_mem_cons.mpr ⟨lw_p3, List.forall_mem_cons.mpr ⟨lw_p4, List.forall_mem_cons.mpr ⟨lw_p5, List.forall_mem_cons.mpr ⟨lw_p6, List.forall_mem_cons.mpr ⟨lw_p7, List.forall_mem_cons.mpr ⟨lw_p8, List.forall_mem_cons.mpr ⟨lw_p9, List.forall_mem_cons.mpr ⟨lw_p10, List.forall_mem_cons.mpr ⟨lw_p11, List.forall_mem_cons.mpr ⟨lw_p12, List.forall_mem_cons.mpr ⟨lw_p13, List.forall_mem_cons.mpr ⟨lw_p14, List.forall_mem_cons.mpr ⟨lw_p15, fun _ h => absurd h List.not_mem_nil⟩⟩⟩⟩⟩⟩⟩⟩⟩⟩⟩⟩⟩⟩⟩⟩
theorem lw_p16 : lw_okq (⟨"PlanarSplit$Drawing", "placeOf", "(II)I"⟩, 17) := ⟨⟨by decide +kernel, by decide +kernel⟩, List.mem_of_getElem? (i := 89) (by decide +kernel), List.mem_of_getElem? (i := 361) (by decide +kernel), List.mem_of_getElem? (i := 362) (by decide +kernel)⟩
theorem lw_p17 : lw_okq (⟨"PlanarSplit$Drawing", "startWalk", "(I)V"⟩, 17) := ⟨⟨by decide +kernel, by decide +kernel⟩, List.mem_of_getElem? (i := 89) (by decide +kernel), List.mem_of_getElem? (i := 365) (by decide +kernel), List.mem_of_getElem? (i := 366) (by decide +kernel)⟩
theorem lw_p18 : lw_okq (⟨"PlanarSplit$Drawing", "walkArc", "(IIII)V"⟩, 17) := ⟨⟨by decide +kernel, by decide +kernel⟩, List.mem_of_getElem? (i := 89) (by decide +kernel), List.mem_of_getElem? (i := 369) (by decide +kernel), List.mem_of_getElem? (i := 370) (by decide +kernel)⟩
theorem lw_p19 : lw_okq (⟨"PlanarSplit$Drawing", "walkTo", "(II)V"⟩, 17) := ⟨⟨by decide +kernel, by decide +kernel⟩, List.mem_of_getElem? (i := 89) (by decide +kernel), List.mem_of_getElem? (i := 373) (by decide +kernel), List.mem_of_getElem? (i := 374) (by decide +kernel)⟩
theorem lw_p20 : lw_okq (⟨"PlanarSplit", "facesOf", "(I)I"⟩, 11) := ⟨⟨by decide +kernel, by decide +kernel⟩, List.mem_of_getElem? (i := 11) (by decide +kernel), List.mem_of_getElem? (i := 382) (by decide +kernel), List.mem_of_getElem? (i := 383) (by decide +kernel)⟩
theorem lw_p21 : lw_okq (⟨"PlanarSplit", "makeSplit", "()V"⟩, 11) := ⟨⟨by decide +kernel, by decide +kernel⟩, List.mem_of_getElem? (i := 11) (by decide +kernel), List.mem_of_getElem? (i := 391) (by decide +kernel), List.mem_of_getElem? (i := 392) (by decide +kernel)⟩
theorem lw_p22 : lw_okq (⟨"PlanarSplit$Split", "setWorths", "()V"⟩, 4) := ⟨⟨by decide +kernel, by decide +kernel⟩, List.mem_of_getElem? (i := 149) (by decide +kernel), List.mem_of_getElem? (i := 399) (by decide +kernel), List.mem_of_getElem? (i := 400) (by decide +kernel)⟩
theorem lw_p23 : lw_okq (⟨"PlanarSplit$Split", "worthBetween", "(I)J"⟩, 4) := ⟨⟨by decide +kernel, by decide +kernel⟩, List.mem_of_getElem? (i := 149) (by decide +kernel), List.mem_of_getElem? (i := 404) (by decide +kernel), List.mem_of_getElem? (i := 405) (by decide +kernel)⟩
theorem lw_p24 : lw_okq (⟨"PlanarSplit", "findWitness", "()V"⟩, 11) := ⟨⟨by decide +kernel, by decide +kernel⟩, List.mem_of_getElem? (i := 11) (by decide +kernel), List.mem_of_getElem? (i := 426) (by decide +kernel), List.mem_of_getElem? (i := 427) (by decide +kernel)⟩
theorem lw_p25 : lw_okq (⟨"PlanarSplitModel", "isVertex", "(I)Z"⟩, 24) := ⟨⟨by decide +kernel, by decide +kernel⟩, List.mem_of_getElem? (i := 439) (by decide +kernel), List.mem_of_getElem? (i := 526) (by decide +kernel), List.mem_of_getElem? (i := 527) (by decide +kernel)⟩
theorem lw_p26 : lw_okq (⟨"PlanarSplitModel", "isEdge", "(I)Z"⟩, 24) := ⟨⟨by decide +kernel, by decide +kernel⟩, List.mem_of_getElem? (i := 439) (by decide +kernel), List.mem_of_getElem? (i := 538) (by decide +kernel), List.mem_of_getElem? (i := 539) (by decide +kernel)⟩
theorem lw_p27 : lw_okq (⟨"PlanarSplitModel", "work", "()V"⟩, 24) := ⟨⟨by decide +kernel, by decide +kernel⟩, List.mem_of_getElem? (i := 439) (by decide +kernel), List.mem_of_getElem? (i := 550) (by decide +kernel), List.mem_of_getElem? (i := 551) (by decide +kernel)⟩
theorem lw_p28 : lw_okq (⟨"PlanarSplitModel", "isFlat", "(I)Z"⟩, 24) := ⟨⟨by decide +kernel, by decide +kernel⟩, List.mem_of_getElem? (i := 439) (by decide +kernel), List.mem_of_getElem? (i := 554) (by decide +kernel), List.mem_of_getElem? (i := 555) (by decide +kernel)⟩
theorem lw_p29 : lw_okq (⟨"PlanarSplitModel", "plant", "(I)V"⟩, 24) := ⟨⟨by decide +kernel, by decide +kernel⟩, List.mem_of_getElem? (i := 439) (by decide +kernel), List.mem_of_getElem? (i := 558) (by decide +kernel), List.mem_of_getElem? (i := 559) (by decide +kernel)⟩
theorem lw_p30 : lw_okq (⟨"PlanarSplitModel", "goDown", "(II)V"⟩, 24) := ⟨⟨by decide +kernel, by decide +kernel⟩, List.mem_of_getElem? (i := 439) (by decide +kernel), List.mem_of_getElem? (i := 562) (by decide +kernel), List.mem_of_getElem? (i := 563) (by decide +kernel)⟩
theorem lw_p31 : lw_okq (⟨"PlanarSplitModel", "touches", "(II)Z"⟩, 24) := ⟨⟨by decide +kernel, by decide +kernel⟩, List.mem_of_getElem? (i := 439) (by decide +kernel), List.mem_of_getElem? (i := 569) (by decide +kernel), List.mem_of_getElem? (i := 570) (by decide +kernel)⟩
def lw_privs_2 : List (MethodName × Nat) := [(⟨"PlanarSplit$Drawing", "placeOf", "(II)I"⟩, 17), (⟨"PlanarSplit$Drawing", "startWalk", "(I)V"⟩, 17), (⟨"PlanarSplit$Drawing", "walkArc", "(IIII)V"⟩, 17), (⟨"PlanarSplit$Drawing", "walkTo", "(II)V"⟩, 17), (⟨"PlanarSplit", "facesOf", "(I)I"⟩, 11), (⟨"PlanarSplit", "makeSplit", "()V"⟩, 11), (⟨"PlanarSplit$Split", "setWorths", "()V"⟩, 4), (⟨"PlanarSplit$Split", "worthBetween", "(I)J"⟩, 4), (⟨"PlanarSplit", "findWitness", "()V"⟩, 11), (⟨"PlanarSplitModel", "isVertex", "(I)Z"⟩, 24), (⟨"PlanarSplitModel", "isEdge", "(I)Z"⟩, 24), (⟨"PlanarSplitModel", "work", "()V"⟩, 24), (⟨"PlanarSplitModel", "isFlat", "(I)Z"⟩, 24), (⟨"PlanarSplitModel", "plant", "(I)V"⟩, 24), (⟨"PlanarSplitModel", "goDown", "(II)V"⟩, 24), (⟨"PlanarSplitModel", "touches", "(II)Z"⟩, 24)]
theorem lw_r2 : ∀ q ∈ lw_privs_2, lw_okq q := List.forall_mem_cons.mpr ⟨lw_p16, List.forall_mem_cons.mpr ⟨lw_p17, List.forall_mem_cons.mpr ⟨lw_p18, List.forall_mem_cons.mpr ⟨lw_p19, List.forall_mem_cons.mpr ⟨lw_p20, List.forall_mem_cons.mpr ⟨lw_p21, List.forall_mem_cons.mpr ⟨lw_p22, List.forall_mem_cons.mpr ⟨lw_p23, List.forall_mem_cons.mpr ⟨lw_p24, List.forall_mem_cons.mpr ⟨lw_p25, List.forall_mem_cons.mpr ⟨lw_p26, List.forall_mem_cons.mpr ⟨lw_p27, List.forall_mem_cons.mpr ⟨lw_p28, List.forall_mem_cons.mpr ⟨lw_p29, List.forall_mem_cons.mpr ⟨lw_p30, List.forall_mem_cons.mpr ⟨lw_p31, fun _ h => absurd h List.not_mem_nil⟩⟩⟩⟩⟩⟩⟩⟩⟩⟩⟩⟩⟩⟩⟩⟩
theorem lw_p32 : lw_okq (⟨"PlanarSplitModel", "other", "(II)I"⟩, 24) := ⟨⟨by decide +kernel, by decide +kernel⟩, List.mem_of_getElem? (i := 439) (by decide +kernel), List.mem_of_getElem? (i := 573) (by decide +kernel), List.mem_of_getElem? (i := 574) (by decide +kernel)⟩
theorem lw_p33 : lw_okq (⟨"PlanarSplitModel", "fringe", "(III)I"⟩, 24) := ⟨⟨by decide +kernel, by decide +kernel⟩, List.mem_of_getElem? (i := 439) (by decide +kernel), List.mem_of_getElem? (i := 577) (by decide +kernel), List.mem_of_getElem? (i := 578) (by decide +kernel)⟩
theorem lw_p34 : lw_okq (⟨"PlanarSplitModel", "inTree", "(I)Z"⟩, 24) := ⟨⟨by decide +kernel, by decide +kernel⟩, List.mem_of_getElem? (i := 439) (by decide +kernel), List.mem_of_getElem? (i := 581) (by decide +kernel), List.mem_of_getElem? (i := 582) (by decide +kernel)⟩
theorem lw_p35 : lw_okq (⟨"PlanarSplitModel", "isBack", "(II)Z"⟩, 24) := ⟨⟨by decide +kernel, by decide +kernel⟩, List.mem_of_getElem? (i := 439) (by decide +kernel), List.mem_of_getElem? (i := 585) (by decide +kernel), List.mem_of_getElem? (i := 586) (by decide +kernel)⟩
theorem lw_p36 : lw_okq (⟨"PlanarSplitModel", "isBelow", "(II)Z"⟩, 24) := ⟨⟨by decide +kernel, by decide +kernel⟩, List.mem_of_getElem? (i := 439) (by decide +kernel), List.mem_of_getElem? (i := 589) (by decide +kernel), List.mem_of_getElem? (i := 590) (by decide +kernel)⟩
theorem lw_p37 : lw_okq (⟨"PlanarSplitModel", "compare", "(III)V"⟩, 24) := ⟨⟨by decide +kernel, by decide +kernel⟩, List.mem_of_getElem? (i := 439) (by decide +kernel), List.mem_of_getElem? (i := 593) (by decide +kernel), List.mem_of_getElem? (i := 594) (by decide +kernel)⟩
theorem lw_p38 : lw_okq (⟨"PlanarSplitModel", "lowest", "(II)I"⟩, 24) := ⟨⟨by decide +kernel, by decide +kernel⟩, List.mem_of_getElem? (i := 439) (by decide +kernel), List.mem_of_getElem? (i := 597) (by decide +kernel), List.mem_of_getElem? (i := 598) (by decide +kernel)⟩
theorem lw_p39 : lw_okq (⟨"PlanarSplitModel", "deeper", "(II)I"⟩, 24) := ⟨⟨by decide +kernel, by decide +kernel⟩, List.mem_of_getElem? (i := 439) (by decide +kernel), List.mem_of_getElem? (i := 601) (by decide +kernel), List.mem_of_getElem? (i := 602) (by decide +kernel)⟩
theorem lw_p40 : lw_okq (⟨"PlanarSplitModel", "tellAlike", "(I)V"⟩, 24) := ⟨⟨by decide +kernel, by decide +kernel⟩, List.mem_of_getElem? (i := 439) (by decide +kernel), List.mem_of_getElem? (i := 605) (by decide +kernel), List.mem_of_getElem? (i := 606) (by decide +kernel)⟩
theorem lw_p41 : lw_okq (⟨"PlanarSplitModel", "tell", "(III)V"⟩, 24) := ⟨⟨by decide +kernel, by decide +kernel⟩, List.mem_of_getElem? (i := 439) (by decide +kernel), List.mem_of_getElem? (i := 612) (by decide +kernel), List.mem_of_getElem? (i := 613) (by decide +kernel)⟩
theorem lw_p42 : lw_okq (⟨"PlanarSplitModel", "findComponents", "(I)V"⟩, 24) := ⟨⟨by decide +kernel, by decide +kernel⟩, List.mem_of_getElem? (i := 439) (by decide +kernel), List.mem_of_getElem? (i := 616) (by decide +kernel), List.mem_of_getElem? (i := 617) (by decide +kernel)⟩
theorem lw_p43 : lw_okq (⟨"PlanarSplitModel", "findBlocks", "(I)V"⟩, 24) := ⟨⟨by decide +kernel, by decide +kernel⟩, List.mem_of_getElem? (i := 439) (by decide +kernel), List.mem_of_getElem? (i := 620) (by decide +kernel), List.mem_of_getElem? (i := 621) (by decide +kernel)⟩
theorem lw_p44 : lw_okq (⟨"PlanarSplitModel", "join", "(II)V"⟩, 24) := ⟨⟨by decide +kernel, by decide +kernel⟩, List.mem_of_getElem? (i := 439) (by decide +kernel), List.mem_of_getElem? (i := 624) (by decide +kernel), List.mem_of_getElem? (i := 625) (by decide +kernel)⟩
theorem lw_p45 : lw_okq (⟨"PlanarSplitModel", "number", "()V"⟩, 24) := ⟨⟨by decide +kernel, by decide +kernel⟩, List.mem_of_getElem? (i := 439) (by decide +kernel), List.mem_of_getElem? (i := 628) (by decide +kernel), List.mem_of_getElem? (i := 629) (by decide +kernel)⟩
theorem lw_p46 : lw_okq (⟨"PlanarSplitModel", "split", "()V"⟩, 24) := ⟨⟨by decide +kernel, by decide +kernel⟩, List.mem_of_getElem? (i := 439) (by decide +kernel), List.mem_of_getElem? (i := 632) (by decide +kernel), List.mem_of_getElem? (i := 633) (by decide +kernel)⟩
theorem lw_p47 : lw_okq (⟨"PlanarSplitModel", "crossingBy", "(I)I"⟩, 24) := ⟨⟨by decide +kernel, by decide +kernel⟩, List.mem_of_getElem? (i := 439) (by decide +kernel), List.mem_of_getElem? (i := 636) (by decide +kernel), List.mem_of_getElem? (i := 637) (by decide +kernel)⟩
def lw_privs_3 : List (MethodName × Nat) := [(⟨"PlanarSplitModel", "other", "(II)I"⟩, 24), (⟨"PlanarSplitModel", "fringe", "(III)I"⟩, 24), (⟨"PlanarSplitModel", "inTree", "(I)Z"⟩, 24), (⟨"PlanarSplitModel", "isBack", "(II)Z"⟩, 24), (⟨"PlanarSplitModel", "isBelow", "(II)Z"⟩, 24), (⟨"PlanarSplitModel", "compare", "(III)V"⟩, 24), (⟨"PlanarSplitModel", "lowest", "(II)I"⟩, 24), (⟨"PlanarSplitModel", "deeper", "(II)I"⟩, 24), (⟨"PlanarSplitModel", "tellAlike", "(I)V"⟩, 24), (⟨"PlanarSplitModel", "tell", "(III)V"⟩, 24), (⟨"PlanarSplitModel", "findComponents", "(I)V"⟩, 24), (⟨"PlanarSplitModel", "findBlocks", "(I)V"⟩, 24), (⟨"PlanarSplitModel", "join", "(II)V"⟩, 24), (⟨"PlanarSplitModel", "number", "()V"⟩, 24), (⟨"PlanarSplitModel", "split", "()V"⟩, 24), (⟨"PlanarSplitModel", "crossingBy", "(I)I"⟩, 24)]
theorem lw_r3 : ∀ q ∈ lw_privs_3, lw_okq q := List.forall_mem_cons.mpr ⟨lw_p32, List.forall_mem_cons.mpr ⟨lw_p33, List.forall_mem_cons.mpr ⟨lw_p34, List.forall_mem_cons.mpr ⟨lw_p35, List.forall_mem_cons.mpr ⟨lw_p36, List.forall_mem_cons.mpr ⟨lw_p37, List.forall_mem_cons.mpr ⟨lw_p38, List.forall_mem_cons.mpr ⟨lw_p39, List.forall_mem_cons.mpr ⟨lw_p40, List.forall_mem_cons.mpr ⟨lw_p41, List.forall_mem_cons.mpr ⟨lw_p42, List.forall_mem_cons.mpr ⟨lw_p43, List.forall_mem_cons.mpr ⟨lw_p44, List.forall_mem_cons.mpr ⟨lw_p45, List.forall_mem_cons.mpr ⟨lw_p46, List.forall_mem_cons.mpr ⟨lw_p47, fun _ h => absurd h List.not_mem_nil⟩⟩⟩⟩⟩⟩⟩⟩⟩⟩⟩⟩⟩⟩⟩⟩
theorem lw_p48 : lw_okq (⟨"PlanarSplitModel", "weightOf", "(I)J"⟩, 24) := ⟨⟨by decide +kernel, by decide +kernel⟩, List.mem_of_getElem? (i := 439) (by decide +kernel), List.mem_of_getElem? (i := 640) (by decide +kernel), List.mem_of_getElem? (i := 641) (by decide +kernel)⟩
theorem lw_p49 : lw_okq (⟨"PlanarSplitModel", "begins", "(I)Z"⟩, 24) := ⟨⟨by decide +kernel, by decide +kernel⟩, List.mem_of_getElem? (i := 439) (by decide +kernel), List.mem_of_getElem? (i := 644) (by decide +kernel), List.mem_of_getElem? (i := 645) (by decide +kernel)⟩
def lw_privs_4 : List (MethodName × Nat) := [(⟨"PlanarSplitModel", "weightOf", "(I)J"⟩, 24), (⟨"PlanarSplitModel", "begins", "(I)Z"⟩, 24)]
theorem lw_r4 : ∀ q ∈ lw_privs_4, lw_okq q := List.forall_mem_cons.mpr ⟨lw_p48, List.forall_mem_cons.mpr ⟨lw_p49, fun _ h => absurd h List.not_mem_nil⟩⟩
def lw_privs : List (MethodName × Nat) := lw_privs_1 ++ (lw_privs_2 ++ (lw_privs_3 ++ (lw_privs_4)))
def lw_tbl : List Cond := k2_sels lw_privs ++ tables_1
theorem lw_privs_ok : ∀ q ∈ lw_privs, lw_okq q := by
  show ∀ q ∈ lw_privs_1 ++ (lw_privs_2 ++ (lw_privs_3 ++ (lw_privs_4))), lw_okq q
  exact List.forall_mem_append.mpr ⟨lw_r1, List.forall_mem_append.mpr ⟨lw_r2, List.forall_mem_append.mpr ⟨lw_r3, lw_r4⟩⟩⟩

/-! ===== BEGIN words of one list among another's, by their places ===== -/
theorem goodIn_r {big : List Cond} (ws : List Cond) (ps : List Nat) (hp : ws = ps.filterMap (fun i => big[i]?)) (h : ws.all goodWord = true) : GoodIn big ws := by
  intro w hw
  have h1 := List.all_eq_true.mp h w hw
  rw [hp] at hw
  obtain ⟨i, -, hi⟩ := List.mem_filterMap.mp hw
  have hm : w ∈ big := by first | exact List.mem_of_getElem? hi | exact List.getElem?_mem hi
  exact ⟨hm, good_of_word h1⟩
theorem goodIn_app {big a b : List Cond} (ha : GoodIn big a) (hb : GoodIn big b) : GoodIn big (a ++ b) := fun w h => (List.mem_append.mp h).elim (ha w) (hb w)
theorem goodIn_ca {big a b : List Cond} {c : Cond} (ha : GoodIn big (c :: a)) (hb : GoodIn big b) : GoodIn big (c :: (a ++ b)) := fun w h => (List.mem_cons.mp h).elim (fun e => ha w (List.mem_cons.mpr (Or.inl e))) (fun h => (List.mem_append.mp h).elim (fun h => ha w (List.mem_cons.mpr (Or.inr h))) (hb w))
theorem goodIn_sub {big ws : List Cond} (hm : ∀ w ∈ ws, w ∈ big) (h : ws.all goodWord = true) : GoodIn big ws := fun w hw => ⟨hm w hw, good_of_word (List.all_eq_true.mp h w hw)⟩
/-! ===== END ===== -/


-- names of classes, fields, methods
def n_B : String := "PlanarSplit$Bits"
def n_D : String := "PlanarSplit$Drawing"
def n_G : String := "PlanarSplit$Graph"
def n_P : String := "PlanarSplit$Pieces"
def n_S : String := "PlanarSplit$Split"
def n_X : String := "PlanarSplit"
def n_M : String := "PlanarSplitModel"
def n_L : String := "PlanarSplitLaw"
def n_J : String := "java/lang/Integer"
def f_D : u_T := fun k => match k with
  | 0 => ("PlanarSplit$Drawing", "graph", "LPlanarSplit$Graph;", true)
  | 1 => ("PlanarSplit$Drawing", "edgesAt", "[I", true)
  | 2 => ("PlanarSplit$Drawing", "neighbours", "[I", true)
  | 3 => ("PlanarSplit$Drawing", "drawnEdges", "I", false)
  | 4 => ("PlanarSplit$Drawing", "drawnVertices", "I", false)
  | 5 => ("PlanarSplit$Drawing", "walk", "[[I", true)
  | 6 => ("PlanarSplit$Drawing", "walkLength", "[I", true)
  | 7 => ("PlanarSplit$Drawing", "walkSet", "[I", true)
  | 8 => ("PlanarSplit$Drawing", "faceCount", "I", false)
  | 9 => ("PlanarSplit$Drawing", "fragmentEdges", "I", false)
  | 10 => ("PlanarSplit$Drawing", "fragmentVertices", "I", false)
  | 11 => ("PlanarSplit$Drawing", "chosenEdges", "I", false)
  | 12 => ("PlanarSplit$Drawing", "chosenContacts", "I", false)
  | 13 => ("PlanarSplit$Drawing", "cameBy", "[I", true)
  | 14 => ("PlanarSplit$Drawing", "path", "[I", true)
  | 15 => ("PlanarSplit$Drawing", "pathLength", "I", false)
  | _ => ("PlanarSplit$Drawing", "oldWalk", "[I", true)
def ft_D : Nat → FieldType := fun k => match k with
  | 0 => .object "PlanarSplit$Graph"
  | 1 => .array .int
  | 2 => .array .int
  | 3 => .int
  | 4 => .int
  | 5 => .array (.array .int)
  | 6 => .array .int
  | 7 => .array .int
  | 8 => .int
  | 9 => .int
  | 10 => .int
  | 11 => .int
  | 12 => .int
  | 13 => .array .int
  | 14 => .array .int
  | 15 => .int
  | _ => .array .int
theorem fn_D : ∀ a, a < 17 → ∀ b, b < 17 → a ≠ b → (f_D a).2.1 ≠ (f_D b).2.1 := by decide +kernel
theorem fk_D : ∀ k, k < 17 → parseFieldDescriptor (f_D k).2.2.1 = some (ft_D k) := by decide +kernel
def f_G : u_T := fun k => match k with
  | 0 => ("PlanarSplit$Graph", "vertexCount", "I", false)
  | 1 => ("PlanarSplit$Graph", "edgeCount", "I", false)
  | 2 => ("PlanarSplit$Graph", "first", "[I", true)
  | 3 => ("PlanarSplit$Graph", "second", "[I", true)
  | _ => ("PlanarSplit$Graph", "weight", "[I", true)
def ft_G : Nat → FieldType := fun k => match k with
  | 0 => .int
  | 1 => .int
  | 2 => .array .int
  | 3 => .array .int
  | _ => .array .int
theorem fn_G : ∀ a, a < 5 → ∀ b, b < 5 → a ≠ b → (f_G a).2.1 ≠ (f_G b).2.1 := by decide +kernel
theorem fk_G : ∀ k, k < 5 → parseFieldDescriptor (f_G k).2.2.1 = some (ft_G k) := by decide +kernel
def f_P : u_T := fun k => match k with
  | 0 => ("PlanarSplit$Pieces", "graph", "LPlanarSplit$Graph;", true)
  | 1 => ("PlanarSplit$Pieces", "componentOf", "[I", true)
  | 2 => ("PlanarSplit$Pieces", "blockOf", "[I", true)
  | 3 => ("PlanarSplit$Pieces", "componentHeads", "I", false)
  | 4 => ("PlanarSplit$Pieces", "blockHeads", "I", false)
  | _ => ("PlanarSplit$Pieces", "way", "[I", true)
def ft_P : Nat → FieldType := fun k => match k with
  | 0 => .object "PlanarSplit$Graph"
  | 1 => .array .int
  | 2 => .array .int
  | 3 => .int
  | 4 => .int
  | _ => .array .int
theorem fn_P : ∀ a, a < 6 → ∀ b, b < 6 → a ≠ b → (f_P a).2.1 ≠ (f_P b).2.1 := by decide +kernel
theorem fk_P : ∀ k, k < 6 → parseFieldDescriptor (f_P k).2.2.1 = some (ft_P k) := by decide +kernel
def f_S : u_T := fun k => match k with
  | 0 => ("PlanarSplit$Split", "graph", "LPlanarSplit$Graph;", true)
  | 1 => ("PlanarSplit$Split", "sideOne", "I", false)
  | 2 => ("PlanarSplit$Split", "greatest", "J", false)
  | _ => ("PlanarSplit$Split", "worth", "[J", true)
def ft_S : Nat → FieldType := fun k => match k with
  | 0 => .object "PlanarSplit$Graph"
  | 1 => .int
  | 2 => .long
  | _ => .array .long
theorem fn_S : ∀ a, a < 4 → ∀ b, b < 4 → a ≠ b → (f_S a).2.1 ≠ (f_S b).2.1 := by decide +kernel
theorem fk_S : ∀ k, k < 4 → parseFieldDescriptor (f_S k).2.2.1 = some (ft_S k) := by decide +kernel
def f_X : u_T := fun k => match k with
  | 0 => ("PlanarSplit", "graph", "LPlanarSplit$Graph;", true)
  | 1 => ("PlanarSplit", "pieces", "LPlanarSplit$Pieces;", true)
  | 2 => ("PlanarSplit", "partPieces", "LPlanarSplit$Pieces;", true)
  | 3 => ("PlanarSplit", "drawing", "LPlanarSplit$Drawing;", true)
  | 4 => ("PlanarSplit", "split", "LPlanarSplit$Split;", true)
  | 5 => ("PlanarSplit", "piecesKnown", "Z", false)
  | 6 => ("PlanarSplit", "tangleKnown", "Z", false)
  | 7 => ("PlanarSplit", "splitKnown", "Z", false)
  | 8 => ("PlanarSplit", "witnessKnown", "Z", false)
  | 9 => ("PlanarSplit", "tangle", "I", false)
  | _ => ("PlanarSplit", "witnessSet", "I", false)
def ft_X : Nat → FieldType := fun k => match k with
  | 0 => .object "PlanarSplit$Graph"
  | 1 => .object "PlanarSplit$Pieces"
  | 2 => .object "PlanarSplit$Pieces"
  | 3 => .object "PlanarSplit$Drawing"
  | 4 => .object "PlanarSplit$Split"
  | 5 => .boolean
  | 6 => .boolean
  | 7 => .boolean
  | 8 => .boolean
  | 9 => .int
  | _ => .int
theorem fn_X : ∀ a, a < 11 → ∀ b, b < 11 → a ≠ b → (f_X a).2.1 ≠ (f_X b).2.1 := by decide +kernel
theorem fk_X : ∀ k, k < 11 → parseFieldDescriptor (f_X k).2.2.1 = some (ft_X k) := by decide +kernel
def f_M : u_T := fun k => match k with
  | 0 => ("PlanarSplitModel", "vertices", "I", false)
  | 1 => ("PlanarSplitModel", "edges", "I", false)
  | 2 => ("PlanarSplitModel", "ends", "[I", true)
  | 3 => ("PlanarSplitModel", "weights", "[I", true)
  | 4 => ("PlanarSplitModel", "worked", "Z", false)
  | 5 => ("PlanarSplitModel", "flat", "Z", false)
  | 6 => ("PlanarSplitModel", "components", "I", false)
  | 7 => ("PlanarSplitModel", "component", "[I", true)
  | 8 => ("PlanarSplitModel", "block", "[I", true)
  | 9 => ("PlanarSplitModel", "blocks", "I", false)
  | 10 => ("PlanarSplitModel", "sides", "I", false)
  | 11 => ("PlanarSplitModel", "sum", "J", false)
  | 12 => ("PlanarSplitModel", "core", "I", false)
  | 13 => ("PlanarSplitModel", "depth", "[I", true)
  | 14 => ("PlanarSplitModel", "parent", "[I", true)
  | 15 => ("PlanarSplitModel", "by", "[I", true)
  | 16 => ("PlanarSplitModel", "next", "[I", true)
  | 17 => ("PlanarSplitModel", "stack", "[I", true)
  | 18 => ("PlanarSplitModel", "deep", "[I", true)
  | 19 => ("PlanarSplitModel", "shallow", "[I", true)
  | 20 => ("PlanarSplitModel", "group", "[I", true)
  | 21 => ("PlanarSplitModel", "hand", "[I", true)
  | 22 => ("PlanarSplitModel", "conflict", "Z", false)
  | _ => ("PlanarSplitModel", "fringes", "[I", true)
def ft_M : Nat → FieldType := fun k => match k with
  | 0 => .int
  | 1 => .int
  | 2 => .array .int
  | 3 => .array .int
  | 4 => .boolean
  | 5 => .boolean
  | 6 => .int
  | 7 => .array .int
  | 8 => .array .int
  | 9 => .int
  | 10 => .int
  | 11 => .long
  | 12 => .int
  | 13 => .array .int
  | 14 => .array .int
  | 15 => .array .int
  | 16 => .array .int
  | 17 => .array .int
  | 18 => .array .int
  | 19 => .array .int
  | 20 => .array .int
  | 21 => .array .int
  | 22 => .boolean
  | _ => .array .int
theorem fn_M : ∀ a, a < 24 → ∀ b, b < 24 → a ≠ b → (f_M a).2.1 ≠ (f_M b).2.1 := by decide +kernel
theorem fk_M : ∀ k, k < 24 → parseFieldDescriptor (f_M k).2.2.1 = some (ft_M k) := by decide +kernel
abbrev pcl : List vw_C := [(n_D, f_D, 17), (n_G, f_G, 5), (n_P, f_P, 6), (n_S, f_S, 4), (n_X, f_X, 11), (n_M, f_M, 24)]
abbrev k_X_init : ByteArray := prog_1_method_1_code
def y_X_init : MethodName := ⟨n_X, "<init>", "()V"⟩
abbrev k_G_init : ByteArray := prog_4_method_1_code
def y_G_init : MethodName := ⟨n_G, "<init>", "()V"⟩
abbrev k_P_init : ByteArray := prog_5_method_1_code
def y_P_init : MethodName := ⟨n_P, "<init>", "(LPlanarSplit$Graph;)V"⟩
abbrev k_D_init : ByteArray := prog_3_method_1_code
def y_D_init : MethodName := ⟨n_D, "<init>", "(LPlanarSplit$Graph;)V"⟩
abbrev k_S_init : ByteArray := prog_6_method_1_code
def y_S_init : MethodName := ⟨n_S, "<init>", "(LPlanarSplit$Graph;)V"⟩
abbrev k_X_begin : ByteArray := prog_1_method_2_code
def y_X_begin : MethodName := ⟨n_X, "begin", "(I)Z"⟩
abbrev k_X_forgetAll : ByteArray := prog_1_method_18_code
def y_X_forgetAll : MethodName := ⟨n_X, "forgetAll", "()V"⟩
abbrev k_X_add : ByteArray := prog_1_method_3_code
def y_X_add : MethodName := ⟨n_X, "add", "(III)I"⟩
abbrev k_G_hasVertex : ByteArray := prog_4_method_2_code
def y_G_hasVertex : MethodName := ⟨n_G, "hasVertex", "(I)Z"⟩
abbrev k_X_undo : ByteArray := prog_1_method_4_code
def y_X_undo : MethodName := ⟨n_X, "undo", "()I"⟩
abbrev k_X_weigh : ByteArray := prog_1_method_5_code
def y_X_weigh : MethodName := ⟨n_X, "weigh", "(II)Z"⟩
abbrev k_G_hasEdge : ByteArray := prog_4_method_3_code
def y_G_hasEdge : MethodName := ⟨n_G, "hasEdge", "(I)Z"⟩
abbrev k_X_edges : ByteArray := prog_1_method_6_code
def y_X_edges : MethodName := ⟨n_X, "edges", "()I"⟩
abbrev k_X_components : ByteArray := prog_1_method_7_code
def y_X_components : MethodName := ⟨n_X, "components", "()I"⟩
abbrev k_X_sortPieces : ByteArray := prog_1_method_19_code
def y_X_sortPieces : MethodName := ⟨n_X, "sortPieces", "()V"⟩
abbrev k_G_allEdges : ByteArray := prog_4_method_4_code
def y_G_allEdges : MethodName := ⟨n_G, "allEdges", "()I"⟩
abbrev k_P_sort : ByteArray := prog_5_method_2_code
def y_P_sort : MethodName := ⟨n_P, "sort", "(I)V"⟩
abbrev k_B_has : ByteArray := prog_2_method_2_code
def y_B_has : MethodName := ⟨n_B, "has", "(II)Z"⟩
abbrev k_P_place : ByteArray := prog_5_method_3_code
def y_P_place : MethodName := ⟨n_P, "place", "(III)V"⟩
abbrev k_P_uniteBlocks : ByteArray := prog_5_method_5_code
def y_P_uniteBlocks : MethodName := ⟨n_P, "uniteBlocks", "(I)V"⟩
abbrev k_P_joinComponents : ByteArray := prog_5_method_4_code
def y_P_joinComponents : MethodName := ⟨n_P, "joinComponents", "(III)V"⟩
abbrev k_P_heads : ByteArray := prog_5_method_6_code
def y_P_heads : MethodName := ⟨n_P, "heads", "([II)I"⟩
abbrev k_J_bitCount : ByteArray := prog_9_method_49_code
def y_J_bitCount : MethodName := ⟨n_J, "bitCount", "(I)I"⟩
abbrev k_X_component : ByteArray := prog_1_method_8_code
def y_X_component : MethodName := ⟨n_X, "component", "(I)I"⟩
abbrev k_B_countBelowLeast : ByteArray := prog_2_method_4_code
def y_B_countBelowLeast : MethodName := ⟨n_B, "countBelowLeast", "(II)I"⟩
abbrev k_X_blocks : ByteArray := prog_1_method_9_code
def y_X_blocks : MethodName := ⟨n_X, "blocks", "()I"⟩
abbrev k_X_block : ByteArray := prog_1_method_10_code
def y_X_block : MethodName := ⟨n_X, "block", "(I)I"⟩
abbrev k_X_planar : ByteArray := prog_1_method_11_code
def y_X_planar : MethodName := ⟨n_X, "planar", "()Z"⟩
abbrev k_X_findTangle : ByteArray := prog_1_method_20_code
def y_X_findTangle : MethodName := ⟨n_X, "findTangle", "()V"⟩
abbrev k_D_tangleOf : ByteArray := prog_3_method_2_code
def y_D_tangleOf : MethodName := ⟨n_D, "tangleOf", "(LPlanarSplit$Pieces;)I"⟩
abbrev k_D_canDraw : ByteArray := prog_3_method_3_code
def y_D_canDraw : MethodName := ⟨n_D, "canDraw", "(I)Z"⟩
abbrev k_D_lookAround : ByteArray := prog_3_method_4_code
def y_D_lookAround : MethodName := ⟨n_D, "lookAround", "(I)V"⟩
abbrev k_B_least : ByteArray := prog_2_method_3_code
def y_B_least : MethodName := ⟨n_B, "least", "(I)I"⟩
abbrev k_D_drawEdge : ByteArray := prog_3_method_5_code
def y_D_drawEdge : MethodName := ⟨n_D, "drawEdge", "(I)V"⟩
abbrev k_G_ends : ByteArray := prog_4_method_5_code
def y_G_ends : MethodName := ⟨n_G, "ends", "(I)I"⟩
abbrev k_D_chooseFragment : ByteArray := prog_3_method_6_code
def y_D_chooseFragment : MethodName := ⟨n_D, "chooseFragment", "(I)Z"⟩
abbrev k_D_gatherFragment : ByteArray := prog_3_method_7_code
def y_D_gatherFragment : MethodName := ⟨n_D, "gatherFragment", "(I)V"⟩
abbrev k_D_countFacesWith : ByteArray := prog_3_method_8_code
def y_D_countFacesWith : MethodName := ⟨n_D, "countFacesWith", "(I)I"⟩
abbrev k_D_drawPath : ByteArray := prog_3_method_10_code
def y_D_drawPath : MethodName := ⟨n_D, "drawPath", "()V"⟩
abbrev k_D_spread : ByteArray := prog_3_method_11_code
def y_D_spread : MethodName := ⟨n_D, "spread", "(I)I"⟩
abbrev k_G_isBetween : ByteArray := prog_4_method_6_code
def y_G_isBetween : MethodName := ⟨n_G, "isBetween", "(II)Z"⟩
abbrev k_D_faceWith : ByteArray := prog_3_method_9_code
def y_D_faceWith : MethodName := ⟨n_D, "faceWith", "(I)I"⟩
abbrev k_D_divideFace : ByteArray := prog_3_method_12_code
def y_D_divideFace : MethodName := ⟨n_D, "divideFace", "(I)V"⟩
abbrev k_D_placeOf : ByteArray := prog_3_method_13_code
def y_D_placeOf : MethodName := ⟨n_D, "placeOf", "(II)I"⟩
abbrev k_D_startWalk : ByteArray := prog_3_method_14_code
def y_D_startWalk : MethodName := ⟨n_D, "startWalk", "(I)V"⟩
abbrev k_D_walkArc : ByteArray := prog_3_method_15_code
def y_D_walkArc : MethodName := ⟨n_D, "walkArc", "(IIII)V"⟩
abbrev k_D_walkTo : ByteArray := prog_3_method_16_code
def y_D_walkTo : MethodName := ⟨n_D, "walkTo", "(II)V"⟩
abbrev k_X_faces : ByteArray := prog_1_method_12_code
def y_X_faces : MethodName := ⟨n_X, "faces", "()I"⟩
abbrev k_X_facesOf : ByteArray := prog_1_method_23_code
def y_X_facesOf : MethodName := ⟨n_X, "facesOf", "(I)I"⟩
abbrev k_X_cut : ByteArray := prog_1_method_13_code
def y_X_cut : MethodName := ⟨n_X, "cut", "()J"⟩
abbrev k_X_makeSplit : ByteArray := prog_1_method_21_code
def y_X_makeSplit : MethodName := ⟨n_X, "makeSplit", "()V"⟩
abbrev k_S_make : ByteArray := prog_6_method_3_code
def y_S_make : MethodName := ⟨n_S, "make", "(I)V"⟩
abbrev k_S_setWorths : ByteArray := prog_6_method_4_code
def y_S_setWorths : MethodName := ⟨n_S, "setWorths", "()V"⟩
abbrev k_S_worthBetween : ByteArray := prog_6_method_5_code
def y_S_worthBetween : MethodName := ⟨n_S, "worthBetween", "(I)J"⟩
abbrev k_S_heaviest : ByteArray := prog_6_method_2_code
def y_S_heaviest : MethodName := ⟨n_S, "heaviest", "()J"⟩
abbrev k_X_side : ByteArray := prog_1_method_14_code
def y_X_side : MethodName := ⟨n_X, "side", "(I)I"⟩
abbrev k_X_crosses : ByteArray := prog_1_method_15_code
def y_X_crosses : MethodName := ⟨n_X, "crosses", "(I)Z"⟩
abbrev k_X_witness : ByteArray := prog_1_method_16_code
def y_X_witness : MethodName := ⟨n_X, "witness", "(I)Z"⟩
abbrev k_X_findWitness : ByteArray := prog_1_method_22_code
def y_X_findWitness : MethodName := ⟨n_X, "findWitness", "()V"⟩
abbrev k_X_kind : ByteArray := prog_1_method_17_code
def y_X_kind : MethodName := ⟨n_X, "kind", "()I"⟩
abbrev k_G_degree : ByteArray := prog_4_method_7_code
def y_G_degree : MethodName := ⟨n_G, "degree", "(II)I"⟩
abbrev k_M_init : ByteArray := prog_8_method_1_code
def y_M_init : MethodName := ⟨n_M, "<init>", "()V"⟩
abbrev k_M_begin : ByteArray := prog_8_method_2_code
def y_M_begin : MethodName := ⟨n_M, "begin", "(I)Z"⟩
abbrev k_M_add : ByteArray := prog_8_method_5_code
def y_M_add : MethodName := ⟨n_M, "add", "(III)I"⟩
abbrev k_M_isVertex : ByteArray := prog_8_method_3_code
def y_M_isVertex : MethodName := ⟨n_M, "isVertex", "(I)Z"⟩
abbrev k_M_undo : ByteArray := prog_8_method_6_code
def y_M_undo : MethodName := ⟨n_M, "undo", "()I"⟩
abbrev k_M_weigh : ByteArray := prog_8_method_7_code
def y_M_weigh : MethodName := ⟨n_M, "weigh", "(II)Z"⟩
abbrev k_M_isEdge : ByteArray := prog_8_method_4_code
def y_M_isEdge : MethodName := ⟨n_M, "isEdge", "(I)Z"⟩
abbrev k_M_edges : ByteArray := prog_8_method_8_code
def y_M_edges : MethodName := ⟨n_M, "edges", "()I"⟩
abbrev k_M_components : ByteArray := prog_8_method_34_code
def y_M_components : MethodName := ⟨n_M, "components", "()I"⟩
abbrev k_M_work : ByteArray := prog_8_method_33_code
def y_M_work : MethodName := ⟨n_M, "work", "()V"⟩
abbrev k_M_isFlat : ByteArray := prog_8_method_24_code
def y_M_isFlat : MethodName := ⟨n_M, "isFlat", "(I)Z"⟩
abbrev k_M_plant : ByteArray := prog_8_method_14_code
def y_M_plant : MethodName := ⟨n_M, "plant", "(I)V"⟩
abbrev k_M_goDown : ByteArray := prog_8_method_12_code
def y_M_goDown : MethodName := ⟨n_M, "goDown", "(II)V"⟩
abbrev k_M_has : ByteArray := prog_8_method_11_code
def y_M_has : MethodName := ⟨n_M, "has", "(II)Z"⟩
abbrev k_M_touches : ByteArray := prog_8_method_9_code
def y_M_touches : MethodName := ⟨n_M, "touches", "(II)Z"⟩
abbrev k_M_other : ByteArray := prog_8_method_10_code
def y_M_other : MethodName := ⟨n_M, "other", "(II)I"⟩
abbrev k_M_fringe : ByteArray := prog_8_method_17_code
def y_M_fringe : MethodName := ⟨n_M, "fringe", "(III)I"⟩
abbrev k_M_inTree : ByteArray := prog_8_method_13_code
def y_M_inTree : MethodName := ⟨n_M, "inTree", "(I)Z"⟩
abbrev k_M_isBack : ByteArray := prog_8_method_15_code
def y_M_isBack : MethodName := ⟨n_M, "isBack", "(II)Z"⟩
abbrev k_M_isBelow : ByteArray := prog_8_method_16_code
def y_M_isBelow : MethodName := ⟨n_M, "isBelow", "(II)Z"⟩
abbrev k_M_compare : ByteArray := prog_8_method_23_code
def y_M_compare : MethodName := ⟨n_M, "compare", "(III)V"⟩
abbrev k_M_lowest : ByteArray := prog_8_method_18_code
def y_M_lowest : MethodName := ⟨n_M, "lowest", "(II)I"⟩
abbrev k_M_deeper : ByteArray := prog_8_method_19_code
def y_M_deeper : MethodName := ⟨n_M, "deeper", "(II)I"⟩
abbrev k_M_tellAlike : ByteArray := prog_8_method_22_code
def y_M_tellAlike : MethodName := ⟨n_M, "tellAlike", "(I)V"⟩
abbrev k_M_least : ByteArray := prog_8_method_20_code
def y_M_least : MethodName := ⟨n_M, "least", "(I)I"⟩
abbrev k_M_tell : ByteArray := prog_8_method_21_code
def y_M_tell : MethodName := ⟨n_M, "tell", "(III)V"⟩
abbrev k_M_findComponents : ByteArray := prog_8_method_25_code
def y_M_findComponents : MethodName := ⟨n_M, "findComponents", "(I)V"⟩
abbrev k_M_findBlocks : ByteArray := prog_8_method_27_code
def y_M_findBlocks : MethodName := ⟨n_M, "findBlocks", "(I)V"⟩
abbrev k_M_join : ByteArray := prog_8_method_26_code
def y_M_join : MethodName := ⟨n_M, "join", "(II)V"⟩
abbrev k_M_number : ByteArray := prog_8_method_28_code
def y_M_number : MethodName := ⟨n_M, "number", "()V"⟩
abbrev k_M_split : ByteArray := prog_8_method_32_code
def y_M_split : MethodName := ⟨n_M, "split", "()V"⟩
abbrev k_M_crossingBy : ByteArray := prog_8_method_29_code
def y_M_crossingBy : MethodName := ⟨n_M, "crossingBy", "(I)I"⟩
abbrev k_M_weightOf : ByteArray := prog_8_method_30_code
def y_M_weightOf : MethodName := ⟨n_M, "weightOf", "(I)J"⟩
abbrev k_M_begins : ByteArray := prog_8_method_31_code
def y_M_begins : MethodName := ⟨n_M, "begins", "(I)Z"⟩
abbrev k_M_component : ByteArray := prog_8_method_35_code
def y_M_component : MethodName := ⟨n_M, "component", "(I)I"⟩
abbrev k_M_blocks : ByteArray := prog_8_method_36_code
def y_M_blocks : MethodName := ⟨n_M, "blocks", "()I"⟩
abbrev k_M_block : ByteArray := prog_8_method_37_code
def y_M_block : MethodName := ⟨n_M, "block", "(I)I"⟩
abbrev k_M_planar : ByteArray := prog_8_method_38_code
def y_M_planar : MethodName := ⟨n_M, "planar", "()Z"⟩
abbrev k_M_faces : ByteArray := prog_8_method_39_code
def y_M_faces : MethodName := ⟨n_M, "faces", "()I"⟩
abbrev k_M_cut : ByteArray := prog_8_method_40_code
def y_M_cut : MethodName := ⟨n_M, "cut", "()J"⟩
abbrev k_M_side : ByteArray := prog_8_method_41_code
def y_M_side : MethodName := ⟨n_M, "side", "(I)I"⟩
abbrev k_M_crosses : ByteArray := prog_8_method_42_code
def y_M_crosses : MethodName := ⟨n_M, "crosses", "(I)Z"⟩
abbrev k_M_witness : ByteArray := prog_8_method_43_code
def y_M_witness : MethodName := ⟨n_M, "witness", "(I)Z"⟩
abbrev k_M_kind : ByteArray := prog_8_method_44_code
def y_M_kind : MethodName := ⟨n_M, "kind", "()I"⟩
abbrev k_L_law : ByteArray := code
-- the words of the tables that calls and fields use
def gw_0 : List Cond := [.selects n_X y_X_forgetAll y_X_forgetAll, .selects n_X y_X_sortPieces y_X_sortPieces, .selects n_P y_P_place y_P_place, .selects n_P y_P_uniteBlocks y_P_uniteBlocks, .selects n_P y_P_joinComponents y_P_joinComponents, .selects n_X y_X_findTangle y_X_findTangle, .selects n_D y_D_canDraw y_D_canDraw, .selects n_D y_D_lookAround y_D_lookAround, .selects n_D y_D_drawEdge y_D_drawEdge, .selects n_D y_D_chooseFragment y_D_chooseFragment, .selects n_D y_D_gatherFragment y_D_gatherFragment, .selects n_D y_D_countFacesWith y_D_countFacesWith, .selects n_D y_D_drawPath y_D_drawPath, .selects n_D y_D_spread y_D_spread, .selects n_D y_D_faceWith y_D_faceWith, .selects n_D y_D_divideFace y_D_divideFace, .selects n_D y_D_placeOf y_D_placeOf, .selects n_D y_D_startWalk y_D_startWalk, .selects n_D y_D_walkArc y_D_walkArc, .selects n_D y_D_walkTo y_D_walkTo, .selects n_X y_X_facesOf y_X_facesOf, .selects n_X y_X_makeSplit y_X_makeSplit, .selects n_S y_S_setWorths y_S_setWorths, .selects n_S y_S_worthBetween y_S_worthBetween, .selects n_X y_X_findWitness y_X_findWitness, .selects n_M y_M_isVertex y_M_isVertex, .selects n_M y_M_isEdge y_M_isEdge, .selects n_M y_M_work y_M_work, .selects n_M y_M_isFlat y_M_isFlat, .selects n_M y_M_plant y_M_plant, .selects n_M y_M_goDown y_M_goDown, .selects n_M y_M_touches y_M_touches, .selects n_M y_M_other y_M_other, .selects n_M y_M_fringe y_M_fringe, .selects n_M y_M_inTree y_M_inTree, .selects n_M y_M_isBack y_M_isBack, .selects n_M y_M_isBelow y_M_isBelow, .selects n_M y_M_compare y_M_compare, .selects n_M y_M_lowest y_M_lowest, .selects n_M y_M_deeper y_M_deeper]
set_option maxRecDepth 20000 in
theorem gi_0 : GoodIn lw_tbl gw_0 := goodIn_r _ [0, 1, 2, 3, 4, 5, 6, 7, 8, 9, 10, 11, 12, 13, 14, 15, 16, 17, 18, 19, 20, 21, 22, 23, 24, 25, 26, 27, 28, 29, 30, 31, 32, 33, 34, 35, 36, 37, 38, 39] (by decide +kernel) (by decide +kernel)
def gw_1 : List Cond := [.selects n_M y_M_tellAlike y_M_tellAlike, .selects n_M y_M_tell y_M_tell, .selects n_M y_M_findComponents y_M_findComponents, .selects n_M y_M_findBlocks y_M_findBlocks, .selects n_M y_M_join y_M_join, .selects n_M y_M_number y_M_number, .selects n_M y_M_split y_M_split, .selects n_M y_M_crossingBy y_M_crossingBy, .selects n_M y_M_weightOf y_M_weightOf, .selects n_M y_M_begins y_M_begins, .initialized n_L, .initialized n_X, .initialized n_G, .initialized n_P, .initialized n_D, .initialized n_S, .initialized n_M, .initialized n_B, .initialized n_J, .initialized "java/lang/System", .classLink n_L 7 n_X, .instantiable n_X 11, .methodLink n_L 9 y_X_init, .instanceMethod y_X_init, .code y_X_init prog_1_method_1_code 1 none, .methodLink n_X 1 objectInit, .instanceMethod objectInit, .code objectInit ⟨#[0xb1]⟩ 1 none, .classLink n_X 7 n_G, .instantiable n_G 5, .instanceMethod y_G_init, .code y_G_init prog_4_method_1_code 1 none, .methodLink n_G 3 objectInit, .fieldLink n_G 21 n_G "vertexCount" "I", .fieldLink n_P 25 n_G "vertexCount" "I", .fieldLink n_X 42 n_G "vertexCount" "I", .fieldLink n_S 28 n_G "vertexCount" "I", .fieldLink n_D 100 n_G "vertexCount" "I", .fieldLink n_D 42 n_G "edgeCount" "I", .fieldLink n_X 46 n_G "edgeCount" "I"]
set_option maxRecDepth 20000 in
theorem gi_1 : GoodIn lw_tbl gw_1 := goodIn_r _ [40, 41, 42, 43, 44, 45, 46, 47, 48, 49, 50, 51, 52, 53, 54, 55, 56, 57, 58, 59, 60, 61, 62, 63, 64, 65, 66, 67, 68, 69, 71, 72, 73, 74, 75, 76, 77, 78, 79, 80] (by decide +kernel) (by decide +kernel)
def gw_2 : List Cond := [.fieldLink n_P 31 n_G "edgeCount" "I", .fieldLink n_G 25 n_G "edgeCount" "I", .fieldLink n_S 41 n_G "edgeCount" "I", .fieldLink n_G 9 n_G "first" "[I", .fieldLink n_P 40 n_G "first" "[I", .fieldLink n_X 56 n_G "first" "[I", .fieldLink n_D 103 n_G "first" "[I", .fieldLink n_G 15 n_G "second" "[I", .fieldLink n_P 43 n_G "second" "[I", .fieldLink n_X 60 n_G "second" "[I", .fieldLink n_D 106 n_G "second" "[I", .fieldLink n_G 18 n_G "weight" "[I", .fieldLink n_X 63 n_G "weight" "[I", .fieldLink n_S 44 n_G "weight" "[I", .lays n_G n_G "vertexCount" "I", .lays n_G n_G "edgeCount" "I", .laysFinal n_G n_G "first" "[I", .laysFinal n_G n_G "second" "[I", .laysFinal n_G n_G "weight" "[I", .arrayClass FieldType.int, .classLink n_X 16 n_P, .instantiable n_P 6, .methodLink n_X 18 y_P_init, .instanceMethod y_P_init, .code y_P_init prog_5_method_1_code 2 none, .methodLink n_P 3 objectInit, .fieldLink n_P 21 n_P "graph" "LPlanarSplit$Graph;", .fieldLink n_P 9 n_P "componentOf" "[I", .fieldLink n_X 85 n_P "componentOf" "[I", .fieldLink n_P 15 n_P "blockOf" "[I", .fieldLink n_D 59 n_P "blockOf" "[I", .fieldLink n_X 97 n_P "blockOf" "[I", .fieldLink n_P 54 n_P "componentHeads" "I", .fieldLink n_X 76 n_P "componentHeads" "I", .fieldLink n_D 48 n_P "blockHeads" "I", .fieldLink n_P 57 n_P "blockHeads" "I", .fieldLink n_X 94 n_P "blockHeads" "I", .fieldLink n_P 18 n_P "way" "[I", .laysFinal n_P n_P "graph" "LPlanarSplit$Graph;", .laysFinal n_P n_P "componentOf" "[I"]
set_option maxRecDepth 20000 in
theorem gi_2 : GoodIn lw_tbl gw_2 := goodIn_r _ [81, 82, 83, 84, 85, 86, 87, 88, 89, 90, 91, 92, 93, 94, 95, 97, 99, 101, 103, 106, 107, 108, 109, 110, 111, 112, 113, 114, 115, 116, 117, 118, 119, 120, 121, 122, 123, 124, 125, 127] (by decide +kernel) (by decide +kernel)
def gw_3 : List Cond := [.laysFinal n_P n_P "blockOf" "[I", .lays n_P n_P "componentHeads" "I", .lays n_P n_P "blockHeads" "I", .laysFinal n_P n_P "way" "[I", .classLink n_X 28 n_D, .instantiable n_D 17, .methodLink n_X 30 y_D_init, .instanceMethod y_D_init, .code y_D_init prog_3_method_1_code 2 none, .methodLink n_D 3 objectInit, .classLink n_D 18 "[[I", .fieldLink n_D 38 n_D "graph" "LPlanarSplit$Graph;", .fieldLink n_D 9 n_D "edgesAt" "[I", .fieldLink n_D 15 n_D "neighbours" "[I", .fieldLink n_D 82 n_D "drawnEdges" "I", .fieldLink n_D 112 n_D "drawnVertices" "I", .fieldLink n_D 20 n_D "walk" "[[I", .fieldLink n_D 23 n_D "walkLength" "[I", .fieldLink n_D 26 n_D "walkSet" "[I", .fieldLink n_D 115 n_D "faceCount" "I", .fieldLink n_D 121 n_D "fragmentEdges" "I", .fieldLink n_D 124 n_D "fragmentVertices" "I", .fieldLink n_D 130 n_D "chosenEdges" "I", .fieldLink n_D 91 n_D "chosenContacts" "I", .fieldLink n_D 29 n_D "cameBy" "[I", .fieldLink n_D 32 n_D "path" "[I", .fieldLink n_D 136 n_D "pathLength" "I", .fieldLink n_D 35 n_D "oldWalk" "[I", .laysFinal n_D n_D "graph" "LPlanarSplit$Graph;", .laysFinal n_D n_D "edgesAt" "[I", .laysFinal n_D n_D "neighbours" "[I", .lays n_D n_D "drawnEdges" "I", .lays n_D n_D "drawnVertices" "I", .laysFinal n_D n_D "walk" "[[I", .laysFinal n_D n_D "walkLength" "[I", .laysFinal n_D n_D "walkSet" "[I", .lays n_D n_D "faceCount" "I", .lays n_D n_D "fragmentEdges" "I", .lays n_D n_D "fragmentVertices" "I", .lays n_D n_D "chosenEdges" "I"]
set_option maxRecDepth 20000 in
theorem gi_3 : GoodIn lw_tbl gw_3 := goodIn_r _ [129, 131, 133, 135, 138, 139, 140, 141, 142, 143, 144, 146, 147, 148, 149, 150, 151, 152, 153, 154, 155, 156, 157, 158, 159, 160, 161, 162, 163, 165, 167, 169, 171, 173, 175, 177, 179, 181, 183, 185] (by decide +kernel) (by decide +kernel)
def gw_4 : List Cond := [.lays n_D n_D "chosenContacts" "I", .laysFinal n_D n_D "cameBy" "[I", .laysFinal n_D n_D "path" "[I", .lays n_D n_D "pathLength" "I", .laysFinal n_D n_D "oldWalk" "[I", .classLink n_X 35 n_S, .instantiable n_S 4, .methodLink n_X 37 y_S_init, .instanceMethod y_S_init, .code y_S_init prog_6_method_1_code 2 none, .methodLink n_S 3 objectInit, .fieldLink n_S 15 n_S "graph" "LPlanarSplit$Graph;", .fieldLink n_S 38 n_S "sideOne" "I", .fieldLink n_X 122 n_S "sideOne" "I", .fieldLink n_S 19 n_S "greatest" "J", .fieldLink n_S 9 n_S "worth" "[J", .laysFinal n_S n_S "graph" "LPlanarSplit$Graph;", .lays n_S n_S "sideOne" "I", .lays n_S n_S "greatest" "J", .laysFinal n_S n_S "worth" "[J", .arrayClass FieldType.long, .fieldLink n_X 10 n_X "graph" "LPlanarSplit$Graph;", .fieldLink n_X 21 n_X "pieces" "LPlanarSplit$Pieces;", .fieldLink n_X 25 n_X "partPieces" "LPlanarSplit$Pieces;", .fieldLink n_X 31 n_X "drawing" "LPlanarSplit$Drawing;", .fieldLink n_X 38 n_X "split" "LPlanarSplit$Split;", .fieldLink n_X 137 n_X "piecesKnown" "Z", .fieldLink n_X 140 n_X "tangleKnown" "Z", .fieldLink n_X 69 n_X "splitKnown" "Z", .fieldLink n_X 143 n_X "witnessKnown" "Z", .fieldLink n_X 103 n_X "tangle" "I", .fieldLink n_X 131 n_X "witnessSet" "I", .laysFinal n_X n_X "graph" "LPlanarSplit$Graph;", .laysFinal n_X n_X "pieces" "LPlanarSplit$Pieces;", .laysFinal n_X n_X "partPieces" "LPlanarSplit$Pieces;", .laysFinal n_X n_X "drawing" "LPlanarSplit$Drawing;", .laysFinal n_X n_X "split" "LPlanarSplit$Split;", .lays n_X n_X "piecesKnown" "Z", .lays n_X n_X "tangleKnown" "Z", .lays n_X n_X "splitKnown" "Z"]
set_option maxRecDepth 20000 in
theorem gi_4 : GoodIn lw_tbl gw_4 := goodIn_r _ [187, 189, 191, 193, 195, 198, 199, 200, 201, 202, 203, 204, 205, 206, 207, 208, 209, 211, 213, 215, 218, 219, 220, 221, 222, 223, 224, 225, 226, 227, 228, 229, 230, 232, 234, 236, 238, 240, 242, 244] (by decide +kernel) (by decide +kernel)
def gw_5 : List Cond := [.lays n_X n_X "witnessKnown" "Z", .lays n_X n_X "tangle" "I", .lays n_X n_X "witnessSet" "I", .methodLink n_L 13 y_X_begin, .instanceMethod y_X_begin, .selects n_X y_X_begin y_X_begin, .code y_X_begin prog_1_method_2_code 2 (.some FieldType.boolean), .methodLink n_X 49 y_X_forgetAll, .instanceMethod y_X_forgetAll, .code y_X_forgetAll prog_1_method_18_code 1 none, .methodLink n_L 18 y_X_add, .instanceMethod y_X_add, .selects n_X y_X_add y_X_add, .code y_X_add prog_1_method_3_code 5 (.some FieldType.int), .methodLink n_X 52 y_G_hasVertex, .instanceMethod y_G_hasVertex, .selects n_G y_G_hasVertex y_G_hasVertex, .code y_G_hasVertex prog_4_method_2_code 2 (.some FieldType.boolean), .methodLink n_L 23 y_X_undo, .instanceMethod y_X_undo, .selects n_X y_X_undo y_X_undo, .code y_X_undo prog_1_method_4_code 1 (.some FieldType.int), .methodLink n_L 28 y_X_weigh, .instanceMethod y_X_weigh, .selects n_X y_X_weigh y_X_weigh, .code y_X_weigh prog_1_method_5_code 3 (.some FieldType.boolean), .methodLink n_X 66 y_G_hasEdge, .instanceMethod y_G_hasEdge, .selects n_G y_G_hasEdge y_G_hasEdge, .code y_G_hasEdge prog_4_method_3_code 2 (.some FieldType.boolean), .methodLink n_L 33 y_X_edges, .instanceMethod y_X_edges, .selects n_X y_X_edges y_X_edges, .code y_X_edges prog_1_method_6_code 1 (.some FieldType.int), .methodLink n_L 37 y_X_components, .instanceMethod y_X_components, .selects n_X y_X_components y_X_components, .code y_X_components prog_1_method_7_code 1 (.some FieldType.int), .methodLink n_X 73 y_X_sortPieces, .instanceMethod y_X_sortPieces]
set_option maxRecDepth 20000 in
theorem gi_5 : GoodIn lw_tbl gw_5 := goodIn_r _ [246, 248, 250, 253, 254, 255, 256, 257, 259, 260, 261, 262, 263, 264, 265, 266, 267, 268, 269, 270, 271, 272, 273, 274, 275, 276, 277, 278, 279, 280, 281, 282, 283, 284, 285, 286, 287, 288, 289, 291] (by decide +kernel) (by decide +kernel)
def gw_6 : List Cond := [.code y_X_sortPieces prog_1_method_19_code 1 none, .methodLink n_X 146 y_G_allEdges, .instanceMethod y_G_allEdges, .selects n_G y_G_allEdges y_G_allEdges, .code y_G_allEdges prog_4_method_4_code 1 (.some FieldType.int), .methodLink n_X 150 y_P_sort, .instanceMethod y_P_sort, .selects n_P y_P_sort y_P_sort, .code y_P_sort prog_5_method_2_code 3 none, .methodLink n_P 34 y_B_has, .static y_B_has, .code y_B_has prog_2_method_2_code 2 (.some FieldType.boolean), .methodLink n_P 46 y_P_place, .instanceMethod y_P_place, .code y_P_place prog_5_method_3_code 5 none, .methodLink n_P 60 y_P_uniteBlocks, .instanceMethod y_P_uniteBlocks, .code y_P_uniteBlocks prog_5_method_5_code 4 none, .methodLink n_P 64 y_P_joinComponents, .instanceMethod y_P_joinComponents, .code y_P_joinComponents prog_5_method_4_code 5 none, .methodLink n_P 50 y_P_heads, .static y_P_heads, .code y_P_heads prog_5_method_6_code 4 (.some FieldType.int), .methodLink n_X 79 y_J_bitCount, .static y_J_bitCount, .code y_J_bitCount prog_9_method_49_code 1 (.some FieldType.int), .constant n_J 265 (1431655765 : Int32), .constant n_J 266 (858993459 : Int32), .constant n_J 267 (252645135 : Int32), .methodLink n_L 41 y_X_component, .instanceMethod y_X_component, .selects n_X y_X_component y_X_component, .code y_X_component prog_1_method_8_code 2 (.some FieldType.int), .methodLink n_X 88 y_B_countBelowLeast, .static y_B_countBelowLeast, .code y_B_countBelowLeast prog_2_method_4_code 2 (.some FieldType.int), .methodLink n_B 7 y_J_bitCount, .methodLink n_L 46 y_X_blocks, .instanceMethod y_X_blocks]
set_option maxRecDepth 20000 in
theorem gi_6 : GoodIn lw_tbl gw_6 := goodIn_r _ [292, 293, 294, 295, 296, 297, 298, 299, 300, 301, 302, 303, 304, 306, 307, 308, 310, 311, 312, 314, 315, 316, 317, 318, 319, 320, 321, 322, 323, 324, 325, 326, 327, 328, 329, 330, 331, 332, 333, 334] (by decide +kernel) (by decide +kernel)
def gw_7 : List Cond := [.selects n_X y_X_blocks y_X_blocks, .code y_X_blocks prog_1_method_9_code 1 (.some FieldType.int), .methodLink n_L 50 y_X_block, .instanceMethod y_X_block, .selects n_X y_X_block y_X_block, .code y_X_block prog_1_method_10_code 2 (.some FieldType.int), .methodLink n_L 54 y_X_planar, .instanceMethod y_X_planar, .selects n_X y_X_planar y_X_planar, .code y_X_planar prog_1_method_11_code 1 (.some FieldType.boolean), .methodLink n_X 100 y_X_findTangle, .instanceMethod y_X_findTangle, .code y_X_findTangle prog_1_method_20_code 1 none, .methodLink n_X 154 y_D_tangleOf, .instanceMethod y_D_tangleOf, .selects n_D y_D_tangleOf y_D_tangleOf, .code y_D_tangleOf prog_3_method_2_code 4 (.some FieldType.int), .methodLink n_D 53 y_B_has, .methodLink n_D 62 y_D_canDraw, .instanceMethod y_D_canDraw, .code y_D_canDraw prog_3_method_3_code 3 (.some FieldType.boolean), .methodLink n_D 66 y_J_bitCount, .methodLink n_D 72 y_D_lookAround, .instanceMethod y_D_lookAround, .code y_D_lookAround prog_3_method_4_code 5 none, .methodLink n_D 76 y_B_least, .static y_B_least, .code y_B_least prog_2_method_3_code 1 (.some FieldType.int), .methodLink n_D 79 y_D_drawEdge, .instanceMethod y_D_drawEdge, .code y_D_drawEdge prog_3_method_5_code 2 none, .methodLink n_D 109 y_G_ends, .instanceMethod y_G_ends, .selects n_G y_G_ends y_G_ends, .code y_G_ends prog_4_method_5_code 2 (.some FieldType.int), .methodLink n_D 85 y_D_chooseFragment, .instanceMethod y_D_chooseFragment, .code y_D_chooseFragment prog_3_method_6_code 7 (.some FieldType.boolean), .methodLink n_D 118 y_D_gatherFragment, .instanceMethod y_D_gatherFragment]
set_option maxRecDepth 20000 in
theorem gi_7 : GoodIn lw_tbl gw_7 := goodIn_r _ [335, 336, 337, 338, 339, 340, 341, 342, 343, 344, 345, 347, 348, 349, 350, 351, 352, 353, 354, 356, 357, 358, 359, 361, 362, 363, 364, 365, 366, 368, 369, 370, 371, 372, 373, 374, 376, 377, 378, 380] (by decide +kernel) (by decide +kernel)
def gw_8 : List Cond := [.code y_D_gatherFragment prog_3_method_7_code 6 none, .methodLink n_D 127 y_D_countFacesWith, .instanceMethod y_D_countFacesWith, .code y_D_countFacesWith prog_3_method_8_code 4 (.some FieldType.int), .methodLink n_D 88 y_D_drawPath, .instanceMethod y_D_drawPath, .code y_D_drawPath prog_3_method_10_code 6 none, .methodLink n_D 133 y_D_spread, .instanceMethod y_D_spread, .code y_D_spread prog_3_method_11_code 6 (.some FieldType.int), .methodLink n_D 142 y_G_isBetween, .instanceMethod y_G_isBetween, .selects n_G y_G_isBetween y_G_isBetween, .code y_G_isBetween prog_4_method_6_code 3 (.some FieldType.boolean), .methodLink n_D 139 y_G_hasVertex, .methodLink n_D 94 y_D_faceWith, .instanceMethod y_D_faceWith, .code y_D_faceWith prog_3_method_9_code 3 (.some FieldType.int), .methodLink n_D 97 y_D_divideFace, .instanceMethod y_D_divideFace, .code y_D_divideFace prog_3_method_12_code 6 none, .methodLink n_D 145 arraycopyName, .static arraycopyName, .native arraycopyName, .methodLink n_D 151 y_D_placeOf, .instanceMethod y_D_placeOf, .code y_D_placeOf prog_3_method_13_code 4 (.some FieldType.int), .methodLink n_D 155 y_D_startWalk, .instanceMethod y_D_startWalk, .code y_D_startWalk prog_3_method_14_code 2 none, .methodLink n_D 158 y_D_walkArc, .instanceMethod y_D_walkArc, .code y_D_walkArc prog_3_method_15_code 7 none, .methodLink n_D 162 y_D_walkTo, .instanceMethod y_D_walkTo, .code y_D_walkTo prog_3_method_16_code 3 none, .methodLink n_L 59 y_X_faces, .instanceMethod y_X_faces, .selects n_X y_X_faces y_X_faces, .code y_X_faces prog_1_method_12_code 3 (.some FieldType.int)]
set_option maxRecDepth 20000 in
theorem gi_8 : GoodIn lw_tbl gw_8 := goodIn_r _ [381, 382, 384, 385, 386, 388, 389, 390, 392, 393, 394, 395, 396, 397, 398, 399, 401, 402, 403, 405, 406, 407, 408, 409, 410, 412, 413, 414, 416, 417, 418, 420, 421, 422, 424, 425, 426, 427, 428, 429] (by decide +kernel) (by decide +kernel)
def gw_9 : List Cond := [.methodLink n_X 106 y_B_has, .methodLink n_X 110 y_X_facesOf, .instanceMethod y_X_facesOf, .code y_X_facesOf prog_1_method_23_code 4 (.some FieldType.int), .methodLink n_L 63 y_X_cut, .instanceMethod y_X_cut, .selects n_X y_X_cut y_X_cut, .code y_X_cut prog_1_method_13_code 1 (.some FieldType.long), .constantLong n_X 113 (-1 : Int64), .methodLink n_X 115 y_X_makeSplit, .instanceMethod y_X_makeSplit, .code y_X_makeSplit prog_1_method_21_code 1 none, .methodLink n_X 158 y_S_make, .instanceMethod y_S_make, .selects n_S y_S_make y_S_make, .code y_S_make prog_6_method_3_code 5 none, .methodLink n_S 23 y_S_setWorths, .instanceMethod y_S_setWorths, .code y_S_setWorths prog_6_method_4_code 2 none, .constantLong n_S 26 (-1 : Int64), .methodLink n_S 34 y_S_worthBetween, .instanceMethod y_S_worthBetween, .code y_S_worthBetween prog_6_method_5_code 5 (.some FieldType.long), .methodLink n_S 48 y_G_isBetween, .methodLink n_X 118 y_S_heaviest, .instanceMethod y_S_heaviest, .selects n_S y_S_heaviest y_S_heaviest, .code y_S_heaviest prog_6_method_2_code 1 (.some FieldType.long), .methodLink n_L 68 y_X_side, .instanceMethod y_X_side, .selects n_X y_X_side y_X_side, .code y_X_side prog_1_method_14_code 2 (.some FieldType.int), .methodLink n_L 72 y_X_crosses, .instanceMethod y_X_crosses, .selects n_X y_X_crosses y_X_crosses, .code y_X_crosses prog_1_method_15_code 2 (.some FieldType.boolean), .methodLink n_X 125 y_G_isBetween, .methodLink n_L 76 y_X_witness, .instanceMethod y_X_witness, .selects n_X y_X_witness y_X_witness]
set_option maxRecDepth 20000 in
theorem gi_9 : GoodIn lw_tbl gw_9 := goodIn_r _ [430, 431, 433, 434, 435, 436, 437, 438, 439, 440, 442, 443, 444, 445, 446, 447, 448, 450, 451, 452, 453, 455, 456, 457, 458, 459, 460, 461, 462, 463, 464, 465, 466, 467, 468, 469, 470, 471, 472, 473] (by decide +kernel) (by decide +kernel)
def gw_10 : List Cond := [.code y_X_witness prog_1_method_16_code 2 (.some FieldType.boolean), .methodLink n_X 128 y_X_findWitness, .instanceMethod y_X_findWitness, .code y_X_findWitness prog_1_method_22_code 3 none, .methodLink n_L 80 y_X_kind, .instanceMethod y_X_kind, .selects n_X y_X_kind y_X_kind, .code y_X_kind prog_1_method_17_code 2 (.some FieldType.int), .methodLink n_X 134 y_G_degree, .instanceMethod y_G_degree, .selects n_G y_G_degree y_G_degree, .code y_G_degree prog_4_method_7_code 5 (.some FieldType.int), .methodLink n_G 28 y_B_has, .classLink n_L 10 n_M, .instantiable n_M 24, .methodLink n_L 12 y_M_init, .instanceMethod y_M_init, .code y_M_init prog_8_method_1_code 1 none, .methodLink n_M 1 objectInit, .fieldLink n_M 52 n_M "vertices" "I", .fieldLink n_M 56 n_M "edges" "I", .fieldLink n_M 7 n_M "ends" "[I", .fieldLink n_M 13 n_M "weights" "[I", .fieldLink n_M 59 n_M "worked" "Z", .fieldLink n_M 157 n_M "flat" "Z", .fieldLink n_M 125 n_M "components" "I", .fieldLink n_M 16 n_M "component" "[I", .fieldLink n_M 19 n_M "block" "[I", .fieldLink n_M 134 n_M "blocks" "I", .fieldLink n_M 137 n_M "sides" "I", .fieldLink n_M 147 n_M "sum" "J", .fieldLink n_M 160 n_M "core" "I", .fieldLink n_M 22 n_M "depth" "[I", .fieldLink n_M 25 n_M "parent" "[I", .fieldLink n_M 28 n_M "by" "[I", .fieldLink n_M 31 n_M "next" "[I", .fieldLink n_M 34 n_M "stack" "[I", .fieldLink n_M 37 n_M "deep" "[I", .fieldLink n_M 40 n_M "shallow" "[I", .fieldLink n_M 43 n_M "group" "[I"]
set_option maxRecDepth 20000 in
theorem gi_10 : GoodIn lw_tbl gw_10 := goodIn_r _ [474, 475, 477, 478, 479, 480, 481, 482, 483, 484, 485, 486, 487, 488, 489, 490, 491, 492, 493, 494, 495, 496, 497, 498, 499, 500, 501, 502, 503, 504, 505, 506, 507, 508, 509, 510, 511, 512, 513, 514] (by decide +kernel) (by decide +kernel)
def gw_11 : List Cond := [.fieldLink n_M 46 n_M "hand" "[I", .fieldLink n_M 94 n_M "conflict" "Z", .fieldLink n_M 49 n_M "fringes" "[I", .lays n_M n_M "vertices" "I", .lays n_M n_M "edges" "I", .laysFinal n_M n_M "ends" "[I", .laysFinal n_M n_M "weights" "[I", .lays n_M n_M "worked" "Z", .lays n_M n_M "flat" "Z", .lays n_M n_M "components" "I", .laysFinal n_M n_M "component" "[I", .laysFinal n_M n_M "block" "[I", .lays n_M n_M "blocks" "I", .lays n_M n_M "sides" "I", .lays n_M n_M "sum" "J", .lays n_M n_M "core" "I", .laysFinal n_M n_M "depth" "[I", .laysFinal n_M n_M "parent" "[I", .laysFinal n_M n_M "by" "[I", .laysFinal n_M n_M "next" "[I", .laysFinal n_M n_M "stack" "[I", .laysFinal n_M n_M "deep" "[I", .laysFinal n_M n_M "shallow" "[I", .laysFinal n_M n_M "group" "[I", .laysFinal n_M n_M "hand" "[I", .lays n_M n_M "conflict" "Z", .laysFinal n_M n_M "fringes" "[I", .methodLink n_L 17 y_M_begin, .instanceMethod y_M_begin, .selects n_M y_M_begin y_M_begin, .code y_M_begin prog_8_method_2_code 2 (.some FieldType.boolean), .methodLink n_L 22 y_M_add, .instanceMethod y_M_add, .selects n_M y_M_add y_M_add, .code y_M_add prog_8_method_5_code 4 (.some FieldType.int), .methodLink n_M 63 y_M_isVertex, .instanceMethod y_M_isVertex, .code y_M_isVertex prog_8_method_3_code 2 (.some FieldType.boolean), .methodLink n_L 27 y_M_undo, .instanceMethod y_M_undo]
set_option maxRecDepth 20000 in
theorem gi_11 : GoodIn lw_tbl gw_11 := goodIn_r _ [515, 516, 517, 518, 520, 522, 524, 526, 528, 530, 532, 534, 536, 538, 540, 542, 544, 546, 548, 550, 552, 554, 556, 558, 560, 562, 564, 567, 568, 569, 570, 571, 572, 573, 574, 575, 577, 578, 579, 580] (by decide +kernel) (by decide +kernel)
def gw_12 : List Cond := [.selects n_M y_M_undo y_M_undo, .code y_M_undo prog_8_method_6_code 1 (.some FieldType.int), .methodLink n_L 32 y_M_weigh, .instanceMethod y_M_weigh, .selects n_M y_M_weigh y_M_weigh, .code y_M_weigh prog_8_method_7_code 3 (.some FieldType.boolean), .methodLink n_M 67 y_M_isEdge, .instanceMethod y_M_isEdge, .code y_M_isEdge prog_8_method_4_code 2 (.some FieldType.boolean), .methodLink n_L 36 y_M_edges, .instanceMethod y_M_edges, .selects n_M y_M_edges y_M_edges, .code y_M_edges prog_8_method_8_code 1 (.some FieldType.int), .methodLink n_L 40 y_M_components, .instanceMethod y_M_components, .selects n_M y_M_components y_M_components, .code y_M_components prog_8_method_34_code 1 (.some FieldType.int), .methodLink n_M 172 y_M_work, .instanceMethod y_M_work, .code y_M_work prog_8_method_33_code 4 none, .methodLink n_M 154 y_M_isFlat, .instanceMethod y_M_isFlat, .code y_M_isFlat prog_8_method_24_code 5 (.some FieldType.boolean), .methodLink n_M 115 y_M_plant, .instanceMethod y_M_plant, .code y_M_plant prog_8_method_14_code 5 none, .methodLink n_M 81 y_M_goDown, .instanceMethod y_M_goDown, .code y_M_goDown prog_8_method_12_code 7 none, .methodLink n_M 70 y_M_has, .static y_M_has, .code y_M_has prog_8_method_11_code 2 (.some FieldType.boolean), .methodLink n_M 74 y_M_touches, .instanceMethod y_M_touches, .code y_M_touches prog_8_method_9_code 3 (.some FieldType.boolean), .methodLink n_M 77 y_M_other, .instanceMethod y_M_other, .code y_M_other prog_8_method_10_code 3 (.some FieldType.int), .methodLink n_M 118 y_M_fringe, .instanceMethod y_M_fringe]
set_option maxRecDepth 20000 in
theorem gi_12 : GoodIn lw_tbl gw_12 := goodIn_r _ [581, 582, 583, 584, 585, 586, 587, 589, 590, 591, 592, 593, 594, 595, 596, 597, 598, 599, 601, 602, 603, 605, 606, 607, 609, 610, 611, 613, 614, 615, 616, 617, 618, 620, 621, 622, 624, 625, 626, 628] (by decide +kernel) (by decide +kernel)
def gw_13 : List Cond := [.code y_M_fringe prog_8_method_17_code 7 (.some FieldType.int), .methodLink n_M 85 y_M_inTree, .instanceMethod y_M_inTree, .code y_M_inTree prog_8_method_13_code 2 (.some FieldType.boolean), .methodLink n_M 88 y_M_isBack, .instanceMethod y_M_isBack, .code y_M_isBack prog_8_method_15_code 3 (.some FieldType.boolean), .methodLink n_M 91 y_M_isBelow, .instanceMethod y_M_isBelow, .code y_M_isBelow prog_8_method_16_code 4 (.some FieldType.boolean), .methodLink n_M 122 y_M_compare, .instanceMethod y_M_compare, .code y_M_compare prog_8_method_23_code 8 none, .methodLink n_M 105 y_M_lowest, .instanceMethod y_M_lowest, .code y_M_lowest prog_8_method_18_code 5 (.some FieldType.int), .methodLink n_M 108 y_M_deeper, .instanceMethod y_M_deeper, .code y_M_deeper prog_8_method_19_code 5 (.some FieldType.int), .methodLink n_M 111 y_M_tellAlike, .instanceMethod y_M_tellAlike, .code y_M_tellAlike prog_8_method_22_code 4 none, .methodLink n_M 97 y_M_least, .static y_M_least, .code y_M_least prog_8_method_20_code 2 (.some FieldType.int), .methodLink n_M 101 y_M_tell, .instanceMethod y_M_tell, .code y_M_tell prog_8_method_21_code 7 none, .methodLink n_M 163 y_M_findComponents, .instanceMethod y_M_findComponents, .code y_M_findComponents prog_8_method_25_code 4 none, .methodLink n_M 166 y_M_findBlocks, .instanceMethod y_M_findBlocks, .code y_M_findBlocks prog_8_method_27_code 4 none, .methodLink n_M 128 y_M_join, .instanceMethod y_M_join, .code y_M_join prog_8_method_26_code 5 none, .methodLink n_M 131 y_M_number, .instanceMethod y_M_number, .code y_M_number prog_8_method_28_code 5 none]
set_option maxRecDepth 20000 in
theorem gi_13 : GoodIn lw_tbl gw_13 := goodIn_r _ [629, 630, 632, 633, 634, 636, 637, 638, 640, 641, 642, 644, 645, 646, 648, 649, 650, 652, 653, 654, 656, 657, 658, 659, 660, 661, 663, 664, 665, 667, 668, 669, 671, 672, 673, 675, 676, 677, 679, 680] (by decide +kernel) (by decide +kernel)
def gw_14 : List Cond := [.methodLink n_M 169 y_M_split, .instanceMethod y_M_split, .code y_M_split prog_8_method_32_code 8 none, .methodLink n_M 140 y_M_crossingBy, .instanceMethod y_M_crossingBy, .code y_M_crossingBy prog_8_method_29_code 5 (.some FieldType.int), .methodLink n_M 143 y_M_weightOf, .instanceMethod y_M_weightOf, .code y_M_weightOf prog_8_method_30_code 5 (.some FieldType.long), .methodLink n_M 151 y_M_begins, .instanceMethod y_M_begins, .code y_M_begins prog_8_method_31_code 6 (.some FieldType.boolean), .methodLink n_L 45 y_M_component, .instanceMethod y_M_component, .selects n_M y_M_component y_M_component, .code y_M_component prog_8_method_35_code 2 (.some FieldType.int), .methodLink n_L 49 y_M_blocks, .instanceMethod y_M_blocks, .selects n_M y_M_blocks y_M_blocks, .code y_M_blocks prog_8_method_36_code 1 (.some FieldType.int), .methodLink n_L 53 y_M_block, .instanceMethod y_M_block, .selects n_M y_M_block y_M_block, .code y_M_block prog_8_method_37_code 2 (.some FieldType.int), .methodLink n_L 58 y_M_planar, .instanceMethod y_M_planar, .selects n_M y_M_planar y_M_planar, .code y_M_planar prog_8_method_38_code 1 (.some FieldType.boolean), .methodLink n_L 62 y_M_faces, .instanceMethod y_M_faces, .selects n_M y_M_faces y_M_faces, .code y_M_faces prog_8_method_39_code 7 (.some FieldType.int), .methodLink n_L 67 y_M_cut, .instanceMethod y_M_cut, .selects n_M y_M_cut y_M_cut, .code y_M_cut prog_8_method_40_code 1 (.some FieldType.long), .constantLong n_M 175 (-1 : Int64), .methodLink n_L 71 y_M_side, .instanceMethod y_M_side, .selects n_M y_M_side y_M_side]
set_option maxRecDepth 20000 in
theorem gi_14 : GoodIn lw_tbl gw_14 := goodIn_r _ [681, 683, 684, 685, 687, 688, 689, 691, 692, 693, 695, 696, 697, 698, 699, 700, 701, 702, 703, 704, 705, 706, 707, 708, 709, 710, 711, 712, 713, 714, 715, 716, 717, 718, 719, 720, 721, 722, 723, 724] (by decide +kernel) (by decide +kernel)
def gw_15 : List Cond := [.code y_M_side prog_8_method_41_code 2 (.some FieldType.int), .methodLink n_L 75 y_M_crosses, .instanceMethod y_M_crosses, .selects n_M y_M_crosses y_M_crosses, .code y_M_crosses prog_8_method_42_code 3 (.some FieldType.boolean), .methodLink n_L 79 y_M_witness, .instanceMethod y_M_witness, .selects n_M y_M_witness y_M_witness, .code y_M_witness prog_8_method_43_code 2 (.some FieldType.boolean), .methodLink n_L 83 y_M_kind, .instanceMethod y_M_kind, .selects n_M y_M_kind y_M_kind, .code y_M_kind prog_8_method_44_code 5 (.some FieldType.int)]
set_option maxRecDepth 20000 in
theorem gi_15 : GoodIn lw_tbl gw_15 := goodIn_r _ [725, 726, 727, 728, 729, 730, 731, 732, 733, 734, 735, 736, 737] (by decide +kernel) (by decide +kernel)
def gw : List Cond := gw_0 ++ (gw_1 ++ (gw_2 ++ (gw_3 ++ (gw_4 ++ (gw_5 ++ (gw_6 ++ (gw_7 ++ (gw_8 ++ (gw_9 ++ (gw_10 ++ (gw_11 ++ (gw_12 ++ (gw_13 ++ (gw_14 ++ (gw_15)))))))))))))))
theorem gs_0 : ∀ w ∈ gw_0, w ∈ gw := fun w h => List.mem_append_left _ h
theorem gs_1 : ∀ w ∈ gw_1, w ∈ gw := fun w h => List.mem_append_right _ (List.mem_append_left _ h)
theorem gs_2 : ∀ w ∈ gw_2, w ∈ gw := fun w h => List.mem_append_right _ (List.mem_append_right _ (List.mem_append_left _ h))
theorem gs_3 : ∀ w ∈ gw_3, w ∈ gw := fun w h => List.mem_append_right _ (List.mem_append_right _ (List.mem_append_right _ (List.mem_append_left _ h)))
theorem gs_4 : ∀ w ∈ gw_4, w ∈ gw := fun w h => List.mem_append_right _ (List.mem_append_right _ (List.mem_append_right _ (List.mem_append_right _ (List.mem_append_left _ h))))
theorem gs_5 : ∀ w ∈ gw_5, w ∈ gw := fun w h => List.mem_append_right _ (List.mem_append_right _ (List.mem_append_right _ (List.mem_append_right _ (List.mem_append_right _ (List.mem_append_left _ h)))))
theorem gs_6 : ∀ w ∈ gw_6, w ∈ gw := fun w h => List.mem_append_right _ (List.mem_append_right _ (List.mem_append_right _ (List.mem_append_right _ (List.mem_append_right _ (List.mem_append_right _ (List.mem_append_left _ h))))))
theorem gs_7 : ∀ w ∈ gw_7, w ∈ gw := fun w h => List.mem_append_right _ (List.mem_append_right _ (List.mem_append_right _ (List.mem_append_right _ (List.mem_append_right _ (List.mem_append_right _ (List.mem_append_right _ (List.mem_append_left _ h)))))))
theorem gs_8 : ∀ w ∈ gw_8, w ∈ gw := fun w h => List.mem_append_right _ (List.mem_append_right _ (List.mem_append_right _ (List.mem_append_right _ (List.mem_append_right _ (List.mem_append_right _ (List.mem_append_right _ (List.mem_append_right _ (List.mem_append_left _ h))))))))
theorem gs_9 : ∀ w ∈ gw_9, w ∈ gw := fun w h => List.mem_append_right _ (List.mem_append_right _ (List.mem_append_right _ (List.mem_append_right _ (List.mem_append_right _ (List.mem_append_right _ (List.mem_append_right _ (List.mem_append_right _ (List.mem_append_right _ (List.mem_append_left _ h)))))))))
theorem gs_10 : ∀ w ∈ gw_10, w ∈ gw := fun w h => List.mem_append_right _ (List.mem_append_right _ (List.mem_append_right _ (List.mem_append_right _ (List.mem_append_right _ (List.mem_append_right _ (List.mem_append_right _ (List.mem_append_right _ (List.mem_append_right _ (List.mem_append_right _ (List.mem_append_left _ h))))))))))
theorem gs_11 : ∀ w ∈ gw_11, w ∈ gw := fun w h => List.mem_append_right _ (List.mem_append_right _ (List.mem_append_right _ (List.mem_append_right _ (List.mem_append_right _ (List.mem_append_right _ (List.mem_append_right _ (List.mem_append_right _ (List.mem_append_right _ (List.mem_append_right _ (List.mem_append_right _ (List.mem_append_left _ h)))))))))))
theorem gs_12 : ∀ w ∈ gw_12, w ∈ gw := fun w h => List.mem_append_right _ (List.mem_append_right _ (List.mem_append_right _ (List.mem_append_right _ (List.mem_append_right _ (List.mem_append_right _ (List.mem_append_right _ (List.mem_append_right _ (List.mem_append_right _ (List.mem_append_right _ (List.mem_append_right _ (List.mem_append_right _ (List.mem_append_left _ h))))))))))))
theorem gs_13 : ∀ w ∈ gw_13, w ∈ gw := fun w h => List.mem_append_right _ (List.mem_append_right _ (List.mem_append_right _ (List.mem_append_right _ (List.mem_append_right _ (List.mem_append_right _ (List.mem_append_right _ (List.mem_append_right _ (List.mem_append_right _ (List.mem_append_right _ (List.mem_append_right _ (List.mem_append_right _ (List.mem_append_right _ (List.mem_append_left _ h)))))))))))))
theorem gs_14 : ∀ w ∈ gw_14, w ∈ gw := fun w h => List.mem_append_right _ (List.mem_append_right _ (List.mem_append_right _ (List.mem_append_right _ (List.mem_append_right _ (List.mem_append_right _ (List.mem_append_right _ (List.mem_append_right _ (List.mem_append_right _ (List.mem_append_right _ (List.mem_append_right _ (List.mem_append_right _ (List.mem_append_right _ (List.mem_append_right _ (List.mem_append_left _ h))))))))))))))
theorem gs_15 : ∀ w ∈ gw_15, w ∈ gw := fun w h => List.mem_append_right _ (List.mem_append_right _ (List.mem_append_right _ (List.mem_append_right _ (List.mem_append_right _ (List.mem_append_right _ (List.mem_append_right _ (List.mem_append_right _ (List.mem_append_right _ (List.mem_append_right _ (List.mem_append_right _ (List.mem_append_right _ (List.mem_append_right _ (List.mem_append_right _ (List.mem_append_right _ (h)))))))))))))))
theorem gw_good : GoodIn lw_tbl gw := goodIn_app gi_0 (goodIn_app gi_1 (goodIn_app gi_2 (goodIn_app gi_3 (goodIn_app gi_4 (goodIn_app gi_5 (goodIn_app gi_6 (goodIn_app gi_7 (goodIn_app gi_8 (goodIn_app gi_9 (goodIn_app gi_10 (goodIn_app gi_11 (goodIn_app gi_12 (goodIn_app gi_13 (goodIn_app gi_14 (gi_15)))))))))))))))
theorem gm_0 : Cond.selects n_X y_X_forgetAll y_X_forgetAll ∈ gw := gs_0 _ (List.mem_of_getElem? (i := 0) rfl)
theorem gm_1 : Cond.selects n_X y_X_sortPieces y_X_sortPieces ∈ gw := gs_0 _ (List.mem_of_getElem? (i := 1) rfl)
theorem gm_2 : Cond.selects n_P y_P_place y_P_place ∈ gw := gs_0 _ (List.mem_of_getElem? (i := 2) rfl)
theorem gm_3 : Cond.selects n_P y_P_uniteBlocks y_P_uniteBlocks ∈ gw := gs_0 _ (List.mem_of_getElem? (i := 3) rfl)
theorem gm_4 : Cond.selects n_P y_P_joinComponents y_P_joinComponents ∈ gw := gs_0 _ (List.mem_of_getElem? (i := 4) rfl)
theorem gm_5 : Cond.selects n_X y_X_findTangle y_X_findTangle ∈ gw := gs_0 _ (List.mem_of_getElem? (i := 5) rfl)
theorem gm_6 : Cond.selects n_D y_D_canDraw y_D_canDraw ∈ gw := gs_0 _ (List.mem_of_getElem? (i := 6) rfl)
theorem gm_7 : Cond.selects n_D y_D_lookAround y_D_lookAround ∈ gw := gs_0 _ (List.mem_of_getElem? (i := 7) rfl)
theorem gm_8 : Cond.selects n_D y_D_drawEdge y_D_drawEdge ∈ gw := gs_0 _ (List.mem_of_getElem? (i := 8) rfl)
theorem gm_9 : Cond.selects n_D y_D_chooseFragment y_D_chooseFragment ∈ gw := gs_0 _ (List.mem_of_getElem? (i := 9) rfl)
theorem gm_10 : Cond.selects n_D y_D_gatherFragment y_D_gatherFragment ∈ gw := gs_0 _ (List.mem_of_getElem? (i := 10) rfl)
theorem gm_11 : Cond.selects n_D y_D_countFacesWith y_D_countFacesWith ∈ gw := gs_0 _ (List.mem_of_getElem? (i := 11) rfl)
theorem gm_12 : Cond.selects n_D y_D_drawPath y_D_drawPath ∈ gw := gs_0 _ (List.mem_of_getElem? (i := 12) rfl)
theorem gm_13 : Cond.selects n_D y_D_spread y_D_spread ∈ gw := gs_0 _ (List.mem_of_getElem? (i := 13) rfl)
theorem gm_14 : Cond.selects n_D y_D_faceWith y_D_faceWith ∈ gw := gs_0 _ (List.mem_of_getElem? (i := 14) rfl)
theorem gm_15 : Cond.selects n_D y_D_divideFace y_D_divideFace ∈ gw := gs_0 _ (List.mem_of_getElem? (i := 15) rfl)
theorem gm_16 : Cond.selects n_D y_D_placeOf y_D_placeOf ∈ gw := gs_0 _ (List.mem_of_getElem? (i := 16) rfl)
theorem gm_17 : Cond.selects n_D y_D_startWalk y_D_startWalk ∈ gw := gs_0 _ (List.mem_of_getElem? (i := 17) rfl)
theorem gm_18 : Cond.selects n_D y_D_walkArc y_D_walkArc ∈ gw := gs_0 _ (List.mem_of_getElem? (i := 18) rfl)
theorem gm_19 : Cond.selects n_D y_D_walkTo y_D_walkTo ∈ gw := gs_0 _ (List.mem_of_getElem? (i := 19) rfl)
theorem gm_20 : Cond.selects n_X y_X_facesOf y_X_facesOf ∈ gw := gs_0 _ (List.mem_of_getElem? (i := 20) rfl)
theorem gm_21 : Cond.selects n_X y_X_makeSplit y_X_makeSplit ∈ gw := gs_0 _ (List.mem_of_getElem? (i := 21) rfl)
theorem gm_22 : Cond.selects n_S y_S_setWorths y_S_setWorths ∈ gw := gs_0 _ (List.mem_of_getElem? (i := 22) rfl)
theorem gm_23 : Cond.selects n_S y_S_worthBetween y_S_worthBetween ∈ gw := gs_0 _ (List.mem_of_getElem? (i := 23) rfl)
theorem gm_24 : Cond.selects n_X y_X_findWitness y_X_findWitness ∈ gw := gs_0 _ (List.mem_of_getElem? (i := 24) rfl)
theorem gm_25 : Cond.selects n_M y_M_isVertex y_M_isVertex ∈ gw := gs_0 _ (List.mem_of_getElem? (i := 25) rfl)
theorem gm_26 : Cond.selects n_M y_M_isEdge y_M_isEdge ∈ gw := gs_0 _ (List.mem_of_getElem? (i := 26) rfl)
theorem gm_27 : Cond.selects n_M y_M_work y_M_work ∈ gw := gs_0 _ (List.mem_of_getElem? (i := 27) rfl)
theorem gm_28 : Cond.selects n_M y_M_isFlat y_M_isFlat ∈ gw := gs_0 _ (List.mem_of_getElem? (i := 28) rfl)
theorem gm_29 : Cond.selects n_M y_M_plant y_M_plant ∈ gw := gs_0 _ (List.mem_of_getElem? (i := 29) rfl)
theorem gm_30 : Cond.selects n_M y_M_goDown y_M_goDown ∈ gw := gs_0 _ (List.mem_of_getElem? (i := 30) rfl)
theorem gm_31 : Cond.selects n_M y_M_touches y_M_touches ∈ gw := gs_0 _ (List.mem_of_getElem? (i := 31) rfl)
theorem gm_32 : Cond.selects n_M y_M_other y_M_other ∈ gw := gs_0 _ (List.mem_of_getElem? (i := 32) rfl)
theorem gm_33 : Cond.selects n_M y_M_fringe y_M_fringe ∈ gw := gs_0 _ (List.mem_of_getElem? (i := 33) rfl)
theorem gm_34 : Cond.selects n_M y_M_inTree y_M_inTree ∈ gw := gs_0 _ (List.mem_of_getElem? (i := 34) rfl)
theorem gm_35 : Cond.selects n_M y_M_isBack y_M_isBack ∈ gw := gs_0 _ (List.mem_of_getElem? (i := 35) rfl)
theorem gm_36 : Cond.selects n_M y_M_isBelow y_M_isBelow ∈ gw := gs_0 _ (List.mem_of_getElem? (i := 36) rfl)
theorem gm_37 : Cond.selects n_M y_M_compare y_M_compare ∈ gw := gs_0 _ (List.mem_of_getElem? (i := 37) rfl)
theorem gm_38 : Cond.selects n_M y_M_lowest y_M_lowest ∈ gw := gs_0 _ (List.mem_of_getElem? (i := 38) rfl)
theorem gm_39 : Cond.selects n_M y_M_deeper y_M_deeper ∈ gw := gs_0 _ (List.mem_of_getElem? (i := 39) rfl)
theorem gm_40 : Cond.selects n_M y_M_tellAlike y_M_tellAlike ∈ gw := gs_1 _ (List.mem_of_getElem? (i := 0) rfl)
theorem gm_41 : Cond.selects n_M y_M_tell y_M_tell ∈ gw := gs_1 _ (List.mem_of_getElem? (i := 1) rfl)
theorem gm_42 : Cond.selects n_M y_M_findComponents y_M_findComponents ∈ gw := gs_1 _ (List.mem_of_getElem? (i := 2) rfl)
theorem gm_43 : Cond.selects n_M y_M_findBlocks y_M_findBlocks ∈ gw := gs_1 _ (List.mem_of_getElem? (i := 3) rfl)
theorem gm_44 : Cond.selects n_M y_M_join y_M_join ∈ gw := gs_1 _ (List.mem_of_getElem? (i := 4) rfl)
theorem gm_45 : Cond.selects n_M y_M_number y_M_number ∈ gw := gs_1 _ (List.mem_of_getElem? (i := 5) rfl)
theorem gm_46 : Cond.selects n_M y_M_split y_M_split ∈ gw := gs_1 _ (List.mem_of_getElem? (i := 6) rfl)
theorem gm_47 : Cond.selects n_M y_M_crossingBy y_M_crossingBy ∈ gw := gs_1 _ (List.mem_of_getElem? (i := 7) rfl)
theorem gm_48 : Cond.selects n_M y_M_weightOf y_M_weightOf ∈ gw := gs_1 _ (List.mem_of_getElem? (i := 8) rfl)
theorem gm_49 : Cond.selects n_M y_M_begins y_M_begins ∈ gw := gs_1 _ (List.mem_of_getElem? (i := 9) rfl)
theorem gm_50 : Cond.initialized n_L ∈ gw := gs_1 _ (List.mem_of_getElem? (i := 10) rfl)
theorem gm_51 : Cond.initialized n_X ∈ gw := gs_1 _ (List.mem_of_getElem? (i := 11) rfl)
theorem gm_52 : Cond.initialized n_G ∈ gw := gs_1 _ (List.mem_of_getElem? (i := 12) rfl)
theorem gm_53 : Cond.initialized n_P ∈ gw := gs_1 _ (List.mem_of_getElem? (i := 13) rfl)
theorem gm_54 : Cond.initialized n_D ∈ gw := gs_1 _ (List.mem_of_getElem? (i := 14) rfl)
theorem gm_55 : Cond.initialized n_S ∈ gw := gs_1 _ (List.mem_of_getElem? (i := 15) rfl)
theorem gm_56 : Cond.initialized n_M ∈ gw := gs_1 _ (List.mem_of_getElem? (i := 16) rfl)
theorem gm_57 : Cond.initialized n_B ∈ gw := gs_1 _ (List.mem_of_getElem? (i := 17) rfl)
theorem gm_58 : Cond.initialized n_J ∈ gw := gs_1 _ (List.mem_of_getElem? (i := 18) rfl)
theorem gm_59 : Cond.initialized "java/lang/System" ∈ gw := gs_1 _ (List.mem_of_getElem? (i := 19) rfl)
theorem gm_60 : Cond.classLink n_L 7 n_X ∈ gw := gs_1 _ (List.mem_of_getElem? (i := 20) rfl)
theorem gm_61 : Cond.instantiable n_X 11 ∈ gw := gs_1 _ (List.mem_of_getElem? (i := 21) rfl)
theorem gm_62 : Cond.methodLink n_L 9 y_X_init ∈ gw := gs_1 _ (List.mem_of_getElem? (i := 22) rfl)
theorem gm_63 : Cond.instanceMethod y_X_init ∈ gw := gs_1 _ (List.mem_of_getElem? (i := 23) rfl)
theorem gm_64 : Cond.code y_X_init prog_1_method_1_code 1 none ∈ gw := gs_1 _ (List.mem_of_getElem? (i := 24) rfl)
theorem gm_65 : Cond.methodLink n_X 1 objectInit ∈ gw := gs_1 _ (List.mem_of_getElem? (i := 25) rfl)
theorem gm_66 : Cond.instanceMethod objectInit ∈ gw := gs_1 _ (List.mem_of_getElem? (i := 26) rfl)
theorem gm_67 : Cond.code objectInit ⟨#[0xb1]⟩ 1 none ∈ gw := gs_1 _ (List.mem_of_getElem? (i := 27) rfl)
theorem gm_68 : Cond.classLink n_X 7 n_G ∈ gw := gs_1 _ (List.mem_of_getElem? (i := 28) rfl)
theorem gm_69 : Cond.instantiable n_G 5 ∈ gw := gs_1 _ (List.mem_of_getElem? (i := 29) rfl)
theorem gm_70 : Cond.instanceMethod y_G_init ∈ gw := gs_1 _ (List.mem_of_getElem? (i := 30) rfl)
theorem gm_71 : Cond.code y_G_init prog_4_method_1_code 1 none ∈ gw := gs_1 _ (List.mem_of_getElem? (i := 31) rfl)
theorem gm_72 : Cond.methodLink n_G 3 objectInit ∈ gw := gs_1 _ (List.mem_of_getElem? (i := 32) rfl)
theorem gm_73 : Cond.fieldLink n_G 21 n_G "vertexCount" "I" ∈ gw := gs_1 _ (List.mem_of_getElem? (i := 33) rfl)
theorem gm_74 : Cond.fieldLink n_P 25 n_G "vertexCount" "I" ∈ gw := gs_1 _ (List.mem_of_getElem? (i := 34) rfl)
theorem gm_75 : Cond.fieldLink n_X 42 n_G "vertexCount" "I" ∈ gw := gs_1 _ (List.mem_of_getElem? (i := 35) rfl)
theorem gm_76 : Cond.fieldLink n_S 28 n_G "vertexCount" "I" ∈ gw := gs_1 _ (List.mem_of_getElem? (i := 36) rfl)
theorem gm_77 : Cond.fieldLink n_D 100 n_G "vertexCount" "I" ∈ gw := gs_1 _ (List.mem_of_getElem? (i := 37) rfl)
theorem gm_78 : Cond.fieldLink n_D 42 n_G "edgeCount" "I" ∈ gw := gs_1 _ (List.mem_of_getElem? (i := 38) rfl)
theorem gm_79 : Cond.fieldLink n_X 46 n_G "edgeCount" "I" ∈ gw := gs_1 _ (List.mem_of_getElem? (i := 39) rfl)
theorem gm_80 : Cond.fieldLink n_P 31 n_G "edgeCount" "I" ∈ gw := gs_2 _ (List.mem_of_getElem? (i := 0) rfl)
theorem gm_81 : Cond.fieldLink n_G 25 n_G "edgeCount" "I" ∈ gw := gs_2 _ (List.mem_of_getElem? (i := 1) rfl)
theorem gm_82 : Cond.fieldLink n_S 41 n_G "edgeCount" "I" ∈ gw := gs_2 _ (List.mem_of_getElem? (i := 2) rfl)
theorem gm_83 : Cond.fieldLink n_G 9 n_G "first" "[I" ∈ gw := gs_2 _ (List.mem_of_getElem? (i := 3) rfl)
theorem gm_84 : Cond.fieldLink n_P 40 n_G "first" "[I" ∈ gw := gs_2 _ (List.mem_of_getElem? (i := 4) rfl)
theorem gm_85 : Cond.fieldLink n_X 56 n_G "first" "[I" ∈ gw := gs_2 _ (List.mem_of_getElem? (i := 5) rfl)
theorem gm_86 : Cond.fieldLink n_D 103 n_G "first" "[I" ∈ gw := gs_2 _ (List.mem_of_getElem? (i := 6) rfl)
theorem gm_87 : Cond.fieldLink n_G 15 n_G "second" "[I" ∈ gw := gs_2 _ (List.mem_of_getElem? (i := 7) rfl)
theorem gm_88 : Cond.fieldLink n_P 43 n_G "second" "[I" ∈ gw := gs_2 _ (List.mem_of_getElem? (i := 8) rfl)
theorem gm_89 : Cond.fieldLink n_X 60 n_G "second" "[I" ∈ gw := gs_2 _ (List.mem_of_getElem? (i := 9) rfl)
theorem gm_90 : Cond.fieldLink n_D 106 n_G "second" "[I" ∈ gw := gs_2 _ (List.mem_of_getElem? (i := 10) rfl)
theorem gm_91 : Cond.fieldLink n_G 18 n_G "weight" "[I" ∈ gw := gs_2 _ (List.mem_of_getElem? (i := 11) rfl)
theorem gm_92 : Cond.fieldLink n_X 63 n_G "weight" "[I" ∈ gw := gs_2 _ (List.mem_of_getElem? (i := 12) rfl)
theorem gm_93 : Cond.fieldLink n_S 44 n_G "weight" "[I" ∈ gw := gs_2 _ (List.mem_of_getElem? (i := 13) rfl)
theorem gm_99 : Cond.arrayClass FieldType.int ∈ gw := gs_2 _ (List.mem_of_getElem? (i := 19) rfl)
theorem gm_100 : Cond.classLink n_X 16 n_P ∈ gw := gs_2 _ (List.mem_of_getElem? (i := 20) rfl)
theorem gm_101 : Cond.instantiable n_P 6 ∈ gw := gs_2 _ (List.mem_of_getElem? (i := 21) rfl)
theorem gm_102 : Cond.methodLink n_X 18 y_P_init ∈ gw := gs_2 _ (List.mem_of_getElem? (i := 22) rfl)
theorem gm_103 : Cond.instanceMethod y_P_init ∈ gw := gs_2 _ (List.mem_of_getElem? (i := 23) rfl)
theorem gm_104 : Cond.code y_P_init prog_5_method_1_code 2 none ∈ gw := gs_2 _ (List.mem_of_getElem? (i := 24) rfl)
theorem gm_105 : Cond.methodLink n_P 3 objectInit ∈ gw := gs_2 _ (List.mem_of_getElem? (i := 25) rfl)
theorem gm_106 : Cond.fieldLink n_P 21 n_P "graph" "LPlanarSplit$Graph;" ∈ gw := gs_2 _ (List.mem_of_getElem? (i := 26) rfl)
theorem gm_107 : Cond.fieldLink n_P 9 n_P "componentOf" "[I" ∈ gw := gs_2 _ (List.mem_of_getElem? (i := 27) rfl)
theorem gm_108 : Cond.fieldLink n_X 85 n_P "componentOf" "[I" ∈ gw := gs_2 _ (List.mem_of_getElem? (i := 28) rfl)
theorem gm_109 : Cond.fieldLink n_P 15 n_P "blockOf" "[I" ∈ gw := gs_2 _ (List.mem_of_getElem? (i := 29) rfl)
theorem gm_110 : Cond.fieldLink n_D 59 n_P "blockOf" "[I" ∈ gw := gs_2 _ (List.mem_of_getElem? (i := 30) rfl)
theorem gm_111 : Cond.fieldLink n_X 97 n_P "blockOf" "[I" ∈ gw := gs_2 _ (List.mem_of_getElem? (i := 31) rfl)
theorem gm_112 : Cond.fieldLink n_P 54 n_P "componentHeads" "I" ∈ gw := gs_2 _ (List.mem_of_getElem? (i := 32) rfl)
theorem gm_113 : Cond.fieldLink n_X 76 n_P "componentHeads" "I" ∈ gw := gs_2 _ (List.mem_of_getElem? (i := 33) rfl)
theorem gm_114 : Cond.fieldLink n_D 48 n_P "blockHeads" "I" ∈ gw := gs_2 _ (List.mem_of_getElem? (i := 34) rfl)
theorem gm_115 : Cond.fieldLink n_P 57 n_P "blockHeads" "I" ∈ gw := gs_2 _ (List.mem_of_getElem? (i := 35) rfl)
theorem gm_116 : Cond.fieldLink n_X 94 n_P "blockHeads" "I" ∈ gw := gs_2 _ (List.mem_of_getElem? (i := 36) rfl)
theorem gm_117 : Cond.fieldLink n_P 18 n_P "way" "[I" ∈ gw := gs_2 _ (List.mem_of_getElem? (i := 37) rfl)
theorem gm_124 : Cond.classLink n_X 28 n_D ∈ gw := gs_3 _ (List.mem_of_getElem? (i := 4) rfl)
theorem gm_125 : Cond.instantiable n_D 17 ∈ gw := gs_3 _ (List.mem_of_getElem? (i := 5) rfl)
theorem gm_126 : Cond.methodLink n_X 30 y_D_init ∈ gw := gs_3 _ (List.mem_of_getElem? (i := 6) rfl)
theorem gm_127 : Cond.instanceMethod y_D_init ∈ gw := gs_3 _ (List.mem_of_getElem? (i := 7) rfl)
theorem gm_128 : Cond.code y_D_init prog_3_method_1_code 2 none ∈ gw := gs_3 _ (List.mem_of_getElem? (i := 8) rfl)
theorem gm_129 : Cond.methodLink n_D 3 objectInit ∈ gw := gs_3 _ (List.mem_of_getElem? (i := 9) rfl)
theorem gm_130 : Cond.classLink n_D 18 "[[I" ∈ gw := gs_3 _ (List.mem_of_getElem? (i := 10) rfl)
theorem gm_131 : Cond.fieldLink n_D 38 n_D "graph" "LPlanarSplit$Graph;" ∈ gw := gs_3 _ (List.mem_of_getElem? (i := 11) rfl)
theorem gm_132 : Cond.fieldLink n_D 9 n_D "edgesAt" "[I" ∈ gw := gs_3 _ (List.mem_of_getElem? (i := 12) rfl)
theorem gm_133 : Cond.fieldLink n_D 15 n_D "neighbours" "[I" ∈ gw := gs_3 _ (List.mem_of_getElem? (i := 13) rfl)
theorem gm_134 : Cond.fieldLink n_D 82 n_D "drawnEdges" "I" ∈ gw := gs_3 _ (List.mem_of_getElem? (i := 14) rfl)
theorem gm_135 : Cond.fieldLink n_D 112 n_D "drawnVertices" "I" ∈ gw := gs_3 _ (List.mem_of_getElem? (i := 15) rfl)
theorem gm_136 : Cond.fieldLink n_D 20 n_D "walk" "[[I" ∈ gw := gs_3 _ (List.mem_of_getElem? (i := 16) rfl)
theorem gm_137 : Cond.fieldLink n_D 23 n_D "walkLength" "[I" ∈ gw := gs_3 _ (List.mem_of_getElem? (i := 17) rfl)
theorem gm_138 : Cond.fieldLink n_D 26 n_D "walkSet" "[I" ∈ gw := gs_3 _ (List.mem_of_getElem? (i := 18) rfl)
theorem gm_139 : Cond.fieldLink n_D 115 n_D "faceCount" "I" ∈ gw := gs_3 _ (List.mem_of_getElem? (i := 19) rfl)
theorem gm_140 : Cond.fieldLink n_D 121 n_D "fragmentEdges" "I" ∈ gw := gs_3 _ (List.mem_of_getElem? (i := 20) rfl)
theorem gm_141 : Cond.fieldLink n_D 124 n_D "fragmentVertices" "I" ∈ gw := gs_3 _ (List.mem_of_getElem? (i := 21) rfl)
theorem gm_142 : Cond.fieldLink n_D 130 n_D "chosenEdges" "I" ∈ gw := gs_3 _ (List.mem_of_getElem? (i := 22) rfl)
theorem gm_143 : Cond.fieldLink n_D 91 n_D "chosenContacts" "I" ∈ gw := gs_3 _ (List.mem_of_getElem? (i := 23) rfl)
theorem gm_144 : Cond.fieldLink n_D 29 n_D "cameBy" "[I" ∈ gw := gs_3 _ (List.mem_of_getElem? (i := 24) rfl)
theorem gm_145 : Cond.fieldLink n_D 32 n_D "path" "[I" ∈ gw := gs_3 _ (List.mem_of_getElem? (i := 25) rfl)
theorem gm_146 : Cond.fieldLink n_D 136 n_D "pathLength" "I" ∈ gw := gs_3 _ (List.mem_of_getElem? (i := 26) rfl)
theorem gm_147 : Cond.fieldLink n_D 35 n_D "oldWalk" "[I" ∈ gw := gs_3 _ (List.mem_of_getElem? (i := 27) rfl)
theorem gm_165 : Cond.classLink n_X 35 n_S ∈ gw := gs_4 _ (List.mem_of_getElem? (i := 5) rfl)
theorem gm_166 : Cond.instantiable n_S 4 ∈ gw := gs_4 _ (List.mem_of_getElem? (i := 6) rfl)
theorem gm_167 : Cond.methodLink n_X 37 y_S_init ∈ gw := gs_4 _ (List.mem_of_getElem? (i := 7) rfl)
theorem gm_168 : Cond.instanceMethod y_S_init ∈ gw := gs_4 _ (List.mem_of_getElem? (i := 8) rfl)
theorem gm_169 : Cond.code y_S_init prog_6_method_1_code 2 none ∈ gw := gs_4 _ (List.mem_of_getElem? (i := 9) rfl)
theorem gm_170 : Cond.methodLink n_S 3 objectInit ∈ gw := gs_4 _ (List.mem_of_getElem? (i := 10) rfl)
theorem gm_171 : Cond.fieldLink n_S 15 n_S "graph" "LPlanarSplit$Graph;" ∈ gw := gs_4 _ (List.mem_of_getElem? (i := 11) rfl)
theorem gm_172 : Cond.fieldLink n_S 38 n_S "sideOne" "I" ∈ gw := gs_4 _ (List.mem_of_getElem? (i := 12) rfl)
theorem gm_173 : Cond.fieldLink n_X 122 n_S "sideOne" "I" ∈ gw := gs_4 _ (List.mem_of_getElem? (i := 13) rfl)
theorem gm_174 : Cond.fieldLink n_S 19 n_S "greatest" "J" ∈ gw := gs_4 _ (List.mem_of_getElem? (i := 14) rfl)
theorem gm_175 : Cond.fieldLink n_S 9 n_S "worth" "[J" ∈ gw := gs_4 _ (List.mem_of_getElem? (i := 15) rfl)
theorem gm_180 : Cond.arrayClass FieldType.long ∈ gw := gs_4 _ (List.mem_of_getElem? (i := 20) rfl)
theorem gm_181 : Cond.fieldLink n_X 10 n_X "graph" "LPlanarSplit$Graph;" ∈ gw := gs_4 _ (List.mem_of_getElem? (i := 21) rfl)
theorem gm_182 : Cond.fieldLink n_X 21 n_X "pieces" "LPlanarSplit$Pieces;" ∈ gw := gs_4 _ (List.mem_of_getElem? (i := 22) rfl)
theorem gm_183 : Cond.fieldLink n_X 25 n_X "partPieces" "LPlanarSplit$Pieces;" ∈ gw := gs_4 _ (List.mem_of_getElem? (i := 23) rfl)
theorem gm_184 : Cond.fieldLink n_X 31 n_X "drawing" "LPlanarSplit$Drawing;" ∈ gw := gs_4 _ (List.mem_of_getElem? (i := 24) rfl)
theorem gm_185 : Cond.fieldLink n_X 38 n_X "split" "LPlanarSplit$Split;" ∈ gw := gs_4 _ (List.mem_of_getElem? (i := 25) rfl)
theorem gm_186 : Cond.fieldLink n_X 137 n_X "piecesKnown" "Z" ∈ gw := gs_4 _ (List.mem_of_getElem? (i := 26) rfl)
theorem gm_187 : Cond.fieldLink n_X 140 n_X "tangleKnown" "Z" ∈ gw := gs_4 _ (List.mem_of_getElem? (i := 27) rfl)
theorem gm_188 : Cond.fieldLink n_X 69 n_X "splitKnown" "Z" ∈ gw := gs_4 _ (List.mem_of_getElem? (i := 28) rfl)
theorem gm_189 : Cond.fieldLink n_X 143 n_X "witnessKnown" "Z" ∈ gw := gs_4 _ (List.mem_of_getElem? (i := 29) rfl)
theorem gm_190 : Cond.fieldLink n_X 103 n_X "tangle" "I" ∈ gw := gs_4 _ (List.mem_of_getElem? (i := 30) rfl)
theorem gm_191 : Cond.fieldLink n_X 131 n_X "witnessSet" "I" ∈ gw := gs_4 _ (List.mem_of_getElem? (i := 31) rfl)
theorem gm_203 : Cond.methodLink n_L 13 y_X_begin ∈ gw := gs_5 _ (List.mem_of_getElem? (i := 3) rfl)
theorem gm_204 : Cond.instanceMethod y_X_begin ∈ gw := gs_5 _ (List.mem_of_getElem? (i := 4) rfl)
theorem gm_205 : Cond.selects n_X y_X_begin y_X_begin ∈ gw := gs_5 _ (List.mem_of_getElem? (i := 5) rfl)
theorem gm_206 : Cond.code y_X_begin prog_1_method_2_code 2 (.some FieldType.boolean) ∈ gw := gs_5 _ (List.mem_of_getElem? (i := 6) rfl)
theorem gm_207 : Cond.methodLink n_X 49 y_X_forgetAll ∈ gw := gs_5 _ (List.mem_of_getElem? (i := 7) rfl)
theorem gm_208 : Cond.instanceMethod y_X_forgetAll ∈ gw := gs_5 _ (List.mem_of_getElem? (i := 8) rfl)
theorem gm_209 : Cond.code y_X_forgetAll prog_1_method_18_code 1 none ∈ gw := gs_5 _ (List.mem_of_getElem? (i := 9) rfl)
theorem gm_210 : Cond.methodLink n_L 18 y_X_add ∈ gw := gs_5 _ (List.mem_of_getElem? (i := 10) rfl)
theorem gm_211 : Cond.instanceMethod y_X_add ∈ gw := gs_5 _ (List.mem_of_getElem? (i := 11) rfl)
theorem gm_212 : Cond.selects n_X y_X_add y_X_add ∈ gw := gs_5 _ (List.mem_of_getElem? (i := 12) rfl)
theorem gm_213 : Cond.code y_X_add prog_1_method_3_code 5 (.some FieldType.int) ∈ gw := gs_5 _ (List.mem_of_getElem? (i := 13) rfl)
theorem gm_214 : Cond.methodLink n_X 52 y_G_hasVertex ∈ gw := gs_5 _ (List.mem_of_getElem? (i := 14) rfl)
theorem gm_215 : Cond.instanceMethod y_G_hasVertex ∈ gw := gs_5 _ (List.mem_of_getElem? (i := 15) rfl)
theorem gm_216 : Cond.selects n_G y_G_hasVertex y_G_hasVertex ∈ gw := gs_5 _ (List.mem_of_getElem? (i := 16) rfl)
theorem gm_217 : Cond.code y_G_hasVertex prog_4_method_2_code 2 (.some FieldType.boolean) ∈ gw := gs_5 _ (List.mem_of_getElem? (i := 17) rfl)
theorem gm_218 : Cond.methodLink n_L 23 y_X_undo ∈ gw := gs_5 _ (List.mem_of_getElem? (i := 18) rfl)
theorem gm_219 : Cond.instanceMethod y_X_undo ∈ gw := gs_5 _ (List.mem_of_getElem? (i := 19) rfl)
theorem gm_220 : Cond.selects n_X y_X_undo y_X_undo ∈ gw := gs_5 _ (List.mem_of_getElem? (i := 20) rfl)
theorem gm_221 : Cond.code y_X_undo prog_1_method_4_code 1 (.some FieldType.int) ∈ gw := gs_5 _ (List.mem_of_getElem? (i := 21) rfl)
theorem gm_222 : Cond.methodLink n_L 28 y_X_weigh ∈ gw := gs_5 _ (List.mem_of_getElem? (i := 22) rfl)
theorem gm_223 : Cond.instanceMethod y_X_weigh ∈ gw := gs_5 _ (List.mem_of_getElem? (i := 23) rfl)
theorem gm_224 : Cond.selects n_X y_X_weigh y_X_weigh ∈ gw := gs_5 _ (List.mem_of_getElem? (i := 24) rfl)
theorem gm_225 : Cond.code y_X_weigh prog_1_method_5_code 3 (.some FieldType.boolean) ∈ gw := gs_5 _ (List.mem_of_getElem? (i := 25) rfl)
theorem gm_226 : Cond.methodLink n_X 66 y_G_hasEdge ∈ gw := gs_5 _ (List.mem_of_getElem? (i := 26) rfl)
theorem gm_227 : Cond.instanceMethod y_G_hasEdge ∈ gw := gs_5 _ (List.mem_of_getElem? (i := 27) rfl)
theorem gm_228 : Cond.selects n_G y_G_hasEdge y_G_hasEdge ∈ gw := gs_5 _ (List.mem_of_getElem? (i := 28) rfl)
theorem gm_229 : Cond.code y_G_hasEdge prog_4_method_3_code 2 (.some FieldType.boolean) ∈ gw := gs_5 _ (List.mem_of_getElem? (i := 29) rfl)
theorem gm_230 : Cond.methodLink n_L 33 y_X_edges ∈ gw := gs_5 _ (List.mem_of_getElem? (i := 30) rfl)
theorem gm_231 : Cond.instanceMethod y_X_edges ∈ gw := gs_5 _ (List.mem_of_getElem? (i := 31) rfl)
theorem gm_232 : Cond.selects n_X y_X_edges y_X_edges ∈ gw := gs_5 _ (List.mem_of_getElem? (i := 32) rfl)
theorem gm_233 : Cond.code y_X_edges prog_1_method_6_code 1 (.some FieldType.int) ∈ gw := gs_5 _ (List.mem_of_getElem? (i := 33) rfl)
theorem gm_234 : Cond.methodLink n_L 37 y_X_components ∈ gw := gs_5 _ (List.mem_of_getElem? (i := 34) rfl)
theorem gm_235 : Cond.instanceMethod y_X_components ∈ gw := gs_5 _ (List.mem_of_getElem? (i := 35) rfl)
theorem gm_236 : Cond.selects n_X y_X_components y_X_components ∈ gw := gs_5 _ (List.mem_of_getElem? (i := 36) rfl)
theorem gm_237 : Cond.code y_X_components prog_1_method_7_code 1 (.some FieldType.int) ∈ gw := gs_5 _ (List.mem_of_getElem? (i := 37) rfl)
theorem gm_238 : Cond.methodLink n_X 73 y_X_sortPieces ∈ gw := gs_5 _ (List.mem_of_getElem? (i := 38) rfl)
theorem gm_239 : Cond.instanceMethod y_X_sortPieces ∈ gw := gs_5 _ (List.mem_of_getElem? (i := 39) rfl)
theorem gm_240 : Cond.code y_X_sortPieces prog_1_method_19_code 1 none ∈ gw := gs_6 _ (List.mem_of_getElem? (i := 0) rfl)
theorem gm_241 : Cond.methodLink n_X 146 y_G_allEdges ∈ gw := gs_6 _ (List.mem_of_getElem? (i := 1) rfl)
theorem gm_242 : Cond.instanceMethod y_G_allEdges ∈ gw := gs_6 _ (List.mem_of_getElem? (i := 2) rfl)
theorem gm_243 : Cond.selects n_G y_G_allEdges y_G_allEdges ∈ gw := gs_6 _ (List.mem_of_getElem? (i := 3) rfl)
theorem gm_244 : Cond.code y_G_allEdges prog_4_method_4_code 1 (.some FieldType.int) ∈ gw := gs_6 _ (List.mem_of_getElem? (i := 4) rfl)
theorem gm_245 : Cond.methodLink n_X 150 y_P_sort ∈ gw := gs_6 _ (List.mem_of_getElem? (i := 5) rfl)
theorem gm_246 : Cond.instanceMethod y_P_sort ∈ gw := gs_6 _ (List.mem_of_getElem? (i := 6) rfl)
theorem gm_247 : Cond.selects n_P y_P_sort y_P_sort ∈ gw := gs_6 _ (List.mem_of_getElem? (i := 7) rfl)
theorem gm_248 : Cond.code y_P_sort prog_5_method_2_code 3 none ∈ gw := gs_6 _ (List.mem_of_getElem? (i := 8) rfl)
theorem gm_249 : Cond.methodLink n_P 34 y_B_has ∈ gw := gs_6 _ (List.mem_of_getElem? (i := 9) rfl)
theorem gm_250 : Cond.static y_B_has ∈ gw := gs_6 _ (List.mem_of_getElem? (i := 10) rfl)
theorem gm_251 : Cond.code y_B_has prog_2_method_2_code 2 (.some FieldType.boolean) ∈ gw := gs_6 _ (List.mem_of_getElem? (i := 11) rfl)
theorem gm_252 : Cond.methodLink n_P 46 y_P_place ∈ gw := gs_6 _ (List.mem_of_getElem? (i := 12) rfl)
theorem gm_253 : Cond.instanceMethod y_P_place ∈ gw := gs_6 _ (List.mem_of_getElem? (i := 13) rfl)
theorem gm_254 : Cond.code y_P_place prog_5_method_3_code 5 none ∈ gw := gs_6 _ (List.mem_of_getElem? (i := 14) rfl)
theorem gm_255 : Cond.methodLink n_P 60 y_P_uniteBlocks ∈ gw := gs_6 _ (List.mem_of_getElem? (i := 15) rfl)
theorem gm_256 : Cond.instanceMethod y_P_uniteBlocks ∈ gw := gs_6 _ (List.mem_of_getElem? (i := 16) rfl)
theorem gm_257 : Cond.code y_P_uniteBlocks prog_5_method_5_code 4 none ∈ gw := gs_6 _ (List.mem_of_getElem? (i := 17) rfl)
theorem gm_258 : Cond.methodLink n_P 64 y_P_joinComponents ∈ gw := gs_6 _ (List.mem_of_getElem? (i := 18) rfl)
theorem gm_259 : Cond.instanceMethod y_P_joinComponents ∈ gw := gs_6 _ (List.mem_of_getElem? (i := 19) rfl)
theorem gm_260 : Cond.code y_P_joinComponents prog_5_method_4_code 5 none ∈ gw := gs_6 _ (List.mem_of_getElem? (i := 20) rfl)
theorem gm_261 : Cond.methodLink n_P 50 y_P_heads ∈ gw := gs_6 _ (List.mem_of_getElem? (i := 21) rfl)
theorem gm_262 : Cond.static y_P_heads ∈ gw := gs_6 _ (List.mem_of_getElem? (i := 22) rfl)
theorem gm_263 : Cond.code y_P_heads prog_5_method_6_code 4 (.some FieldType.int) ∈ gw := gs_6 _ (List.mem_of_getElem? (i := 23) rfl)
theorem gm_264 : Cond.methodLink n_X 79 y_J_bitCount ∈ gw := gs_6 _ (List.mem_of_getElem? (i := 24) rfl)
theorem gm_265 : Cond.static y_J_bitCount ∈ gw := gs_6 _ (List.mem_of_getElem? (i := 25) rfl)
theorem gm_266 : Cond.code y_J_bitCount prog_9_method_49_code 1 (.some FieldType.int) ∈ gw := gs_6 _ (List.mem_of_getElem? (i := 26) rfl)
theorem gm_267 : Cond.constant n_J 265 (1431655765 : Int32) ∈ gw := gs_6 _ (List.mem_of_getElem? (i := 27) rfl)
theorem gm_268 : Cond.constant n_J 266 (858993459 : Int32) ∈ gw := gs_6 _ (List.mem_of_getElem? (i := 28) rfl)
theorem gm_269 : Cond.constant n_J 267 (252645135 : Int32) ∈ gw := gs_6 _ (List.mem_of_getElem? (i := 29) rfl)
theorem gm_270 : Cond.methodLink n_L 41 y_X_component ∈ gw := gs_6 _ (List.mem_of_getElem? (i := 30) rfl)
theorem gm_271 : Cond.instanceMethod y_X_component ∈ gw := gs_6 _ (List.mem_of_getElem? (i := 31) rfl)
theorem gm_272 : Cond.selects n_X y_X_component y_X_component ∈ gw := gs_6 _ (List.mem_of_getElem? (i := 32) rfl)
theorem gm_273 : Cond.code y_X_component prog_1_method_8_code 2 (.some FieldType.int) ∈ gw := gs_6 _ (List.mem_of_getElem? (i := 33) rfl)
theorem gm_274 : Cond.methodLink n_X 88 y_B_countBelowLeast ∈ gw := gs_6 _ (List.mem_of_getElem? (i := 34) rfl)
theorem gm_275 : Cond.static y_B_countBelowLeast ∈ gw := gs_6 _ (List.mem_of_getElem? (i := 35) rfl)
theorem gm_276 : Cond.code y_B_countBelowLeast prog_2_method_4_code 2 (.some FieldType.int) ∈ gw := gs_6 _ (List.mem_of_getElem? (i := 36) rfl)
theorem gm_277 : Cond.methodLink n_B 7 y_J_bitCount ∈ gw := gs_6 _ (List.mem_of_getElem? (i := 37) rfl)
theorem gm_278 : Cond.methodLink n_L 46 y_X_blocks ∈ gw := gs_6 _ (List.mem_of_getElem? (i := 38) rfl)
theorem gm_279 : Cond.instanceMethod y_X_blocks ∈ gw := gs_6 _ (List.mem_of_getElem? (i := 39) rfl)
theorem gm_280 : Cond.selects n_X y_X_blocks y_X_blocks ∈ gw := gs_7 _ (List.mem_of_getElem? (i := 0) rfl)
theorem gm_281 : Cond.code y_X_blocks prog_1_method_9_code 1 (.some FieldType.int) ∈ gw := gs_7 _ (List.mem_of_getElem? (i := 1) rfl)
theorem gm_282 : Cond.methodLink n_L 50 y_X_block ∈ gw := gs_7 _ (List.mem_of_getElem? (i := 2) rfl)
theorem gm_283 : Cond.instanceMethod y_X_block ∈ gw := gs_7 _ (List.mem_of_getElem? (i := 3) rfl)
theorem gm_284 : Cond.selects n_X y_X_block y_X_block ∈ gw := gs_7 _ (List.mem_of_getElem? (i := 4) rfl)
theorem gm_285 : Cond.code y_X_block prog_1_method_10_code 2 (.some FieldType.int) ∈ gw := gs_7 _ (List.mem_of_getElem? (i := 5) rfl)
theorem gm_286 : Cond.methodLink n_L 54 y_X_planar ∈ gw := gs_7 _ (List.mem_of_getElem? (i := 6) rfl)
theorem gm_287 : Cond.instanceMethod y_X_planar ∈ gw := gs_7 _ (List.mem_of_getElem? (i := 7) rfl)
theorem gm_288 : Cond.selects n_X y_X_planar y_X_planar ∈ gw := gs_7 _ (List.mem_of_getElem? (i := 8) rfl)
theorem gm_289 : Cond.code y_X_planar prog_1_method_11_code 1 (.some FieldType.boolean) ∈ gw := gs_7 _ (List.mem_of_getElem? (i := 9) rfl)
theorem gm_290 : Cond.methodLink n_X 100 y_X_findTangle ∈ gw := gs_7 _ (List.mem_of_getElem? (i := 10) rfl)
theorem gm_291 : Cond.instanceMethod y_X_findTangle ∈ gw := gs_7 _ (List.mem_of_getElem? (i := 11) rfl)
theorem gm_292 : Cond.code y_X_findTangle prog_1_method_20_code 1 none ∈ gw := gs_7 _ (List.mem_of_getElem? (i := 12) rfl)
theorem gm_293 : Cond.methodLink n_X 154 y_D_tangleOf ∈ gw := gs_7 _ (List.mem_of_getElem? (i := 13) rfl)
theorem gm_294 : Cond.instanceMethod y_D_tangleOf ∈ gw := gs_7 _ (List.mem_of_getElem? (i := 14) rfl)
theorem gm_295 : Cond.selects n_D y_D_tangleOf y_D_tangleOf ∈ gw := gs_7 _ (List.mem_of_getElem? (i := 15) rfl)
theorem gm_296 : Cond.code y_D_tangleOf prog_3_method_2_code 4 (.some FieldType.int) ∈ gw := gs_7 _ (List.mem_of_getElem? (i := 16) rfl)
theorem gm_297 : Cond.methodLink n_D 53 y_B_has ∈ gw := gs_7 _ (List.mem_of_getElem? (i := 17) rfl)
theorem gm_298 : Cond.methodLink n_D 62 y_D_canDraw ∈ gw := gs_7 _ (List.mem_of_getElem? (i := 18) rfl)
theorem gm_299 : Cond.instanceMethod y_D_canDraw ∈ gw := gs_7 _ (List.mem_of_getElem? (i := 19) rfl)
theorem gm_300 : Cond.code y_D_canDraw prog_3_method_3_code 3 (.some FieldType.boolean) ∈ gw := gs_7 _ (List.mem_of_getElem? (i := 20) rfl)
theorem gm_301 : Cond.methodLink n_D 66 y_J_bitCount ∈ gw := gs_7 _ (List.mem_of_getElem? (i := 21) rfl)
theorem gm_302 : Cond.methodLink n_D 72 y_D_lookAround ∈ gw := gs_7 _ (List.mem_of_getElem? (i := 22) rfl)
theorem gm_303 : Cond.instanceMethod y_D_lookAround ∈ gw := gs_7 _ (List.mem_of_getElem? (i := 23) rfl)
theorem gm_304 : Cond.code y_D_lookAround prog_3_method_4_code 5 none ∈ gw := gs_7 _ (List.mem_of_getElem? (i := 24) rfl)
theorem gm_305 : Cond.methodLink n_D 76 y_B_least ∈ gw := gs_7 _ (List.mem_of_getElem? (i := 25) rfl)
theorem gm_306 : Cond.static y_B_least ∈ gw := gs_7 _ (List.mem_of_getElem? (i := 26) rfl)
theorem gm_307 : Cond.code y_B_least prog_2_method_3_code 1 (.some FieldType.int) ∈ gw := gs_7 _ (List.mem_of_getElem? (i := 27) rfl)
theorem gm_308 : Cond.methodLink n_D 79 y_D_drawEdge ∈ gw := gs_7 _ (List.mem_of_getElem? (i := 28) rfl)
theorem gm_309 : Cond.instanceMethod y_D_drawEdge ∈ gw := gs_7 _ (List.mem_of_getElem? (i := 29) rfl)
theorem gm_310 : Cond.code y_D_drawEdge prog_3_method_5_code 2 none ∈ gw := gs_7 _ (List.mem_of_getElem? (i := 30) rfl)
theorem gm_311 : Cond.methodLink n_D 109 y_G_ends ∈ gw := gs_7 _ (List.mem_of_getElem? (i := 31) rfl)
theorem gm_312 : Cond.instanceMethod y_G_ends ∈ gw := gs_7 _ (List.mem_of_getElem? (i := 32) rfl)
theorem gm_313 : Cond.selects n_G y_G_ends y_G_ends ∈ gw := gs_7 _ (List.mem_of_getElem? (i := 33) rfl)
theorem gm_314 : Cond.code y_G_ends prog_4_method_5_code 2 (.some FieldType.int) ∈ gw := gs_7 _ (List.mem_of_getElem? (i := 34) rfl)
theorem gm_315 : Cond.methodLink n_D 85 y_D_chooseFragment ∈ gw := gs_7 _ (List.mem_of_getElem? (i := 35) rfl)
theorem gm_316 : Cond.instanceMethod y_D_chooseFragment ∈ gw := gs_7 _ (List.mem_of_getElem? (i := 36) rfl)
theorem gm_317 : Cond.code y_D_chooseFragment prog_3_method_6_code 7 (.some FieldType.boolean) ∈ gw := gs_7 _ (List.mem_of_getElem? (i := 37) rfl)
theorem gm_318 : Cond.methodLink n_D 118 y_D_gatherFragment ∈ gw := gs_7 _ (List.mem_of_getElem? (i := 38) rfl)
theorem gm_319 : Cond.instanceMethod y_D_gatherFragment ∈ gw := gs_7 _ (List.mem_of_getElem? (i := 39) rfl)
theorem gm_320 : Cond.code y_D_gatherFragment prog_3_method_7_code 6 none ∈ gw := gs_8 _ (List.mem_of_getElem? (i := 0) rfl)
theorem gm_321 : Cond.methodLink n_D 127 y_D_countFacesWith ∈ gw := gs_8 _ (List.mem_of_getElem? (i := 1) rfl)
theorem gm_322 : Cond.instanceMethod y_D_countFacesWith ∈ gw := gs_8 _ (List.mem_of_getElem? (i := 2) rfl)
theorem gm_323 : Cond.code y_D_countFacesWith prog_3_method_8_code 4 (.some FieldType.int) ∈ gw := gs_8 _ (List.mem_of_getElem? (i := 3) rfl)
theorem gm_324 : Cond.methodLink n_D 88 y_D_drawPath ∈ gw := gs_8 _ (List.mem_of_getElem? (i := 4) rfl)
theorem gm_325 : Cond.instanceMethod y_D_drawPath ∈ gw := gs_8 _ (List.mem_of_getElem? (i := 5) rfl)
theorem gm_326 : Cond.code y_D_drawPath prog_3_method_10_code 6 none ∈ gw := gs_8 _ (List.mem_of_getElem? (i := 6) rfl)
theorem gm_327 : Cond.methodLink n_D 133 y_D_spread ∈ gw := gs_8 _ (List.mem_of_getElem? (i := 7) rfl)
theorem gm_328 : Cond.instanceMethod y_D_spread ∈ gw := gs_8 _ (List.mem_of_getElem? (i := 8) rfl)
theorem gm_329 : Cond.code y_D_spread prog_3_method_11_code 6 (.some FieldType.int) ∈ gw := gs_8 _ (List.mem_of_getElem? (i := 9) rfl)
theorem gm_330 : Cond.methodLink n_D 142 y_G_isBetween ∈ gw := gs_8 _ (List.mem_of_getElem? (i := 10) rfl)
theorem gm_331 : Cond.instanceMethod y_G_isBetween ∈ gw := gs_8 _ (List.mem_of_getElem? (i := 11) rfl)
theorem gm_332 : Cond.selects n_G y_G_isBetween y_G_isBetween ∈ gw := gs_8 _ (List.mem_of_getElem? (i := 12) rfl)
theorem gm_333 : Cond.code y_G_isBetween prog_4_method_6_code 3 (.some FieldType.boolean) ∈ gw := gs_8 _ (List.mem_of_getElem? (i := 13) rfl)
theorem gm_334 : Cond.methodLink n_D 139 y_G_hasVertex ∈ gw := gs_8 _ (List.mem_of_getElem? (i := 14) rfl)
theorem gm_335 : Cond.methodLink n_D 94 y_D_faceWith ∈ gw := gs_8 _ (List.mem_of_getElem? (i := 15) rfl)
theorem gm_336 : Cond.instanceMethod y_D_faceWith ∈ gw := gs_8 _ (List.mem_of_getElem? (i := 16) rfl)
theorem gm_337 : Cond.code y_D_faceWith prog_3_method_9_code 3 (.some FieldType.int) ∈ gw := gs_8 _ (List.mem_of_getElem? (i := 17) rfl)
theorem gm_338 : Cond.methodLink n_D 97 y_D_divideFace ∈ gw := gs_8 _ (List.mem_of_getElem? (i := 18) rfl)
theorem gm_339 : Cond.instanceMethod y_D_divideFace ∈ gw := gs_8 _ (List.mem_of_getElem? (i := 19) rfl)
theorem gm_340 : Cond.code y_D_divideFace prog_3_method_12_code 6 none ∈ gw := gs_8 _ (List.mem_of_getElem? (i := 20) rfl)
theorem gm_341 : Cond.methodLink n_D 145 arraycopyName ∈ gw := gs_8 _ (List.mem_of_getElem? (i := 21) rfl)
theorem gm_342 : Cond.static arraycopyName ∈ gw := gs_8 _ (List.mem_of_getElem? (i := 22) rfl)
theorem gm_343 : Cond.native arraycopyName ∈ gw := gs_8 _ (List.mem_of_getElem? (i := 23) rfl)
theorem gm_344 : Cond.methodLink n_D 151 y_D_placeOf ∈ gw := gs_8 _ (List.mem_of_getElem? (i := 24) rfl)
theorem gm_345 : Cond.instanceMethod y_D_placeOf ∈ gw := gs_8 _ (List.mem_of_getElem? (i := 25) rfl)
theorem gm_346 : Cond.code y_D_placeOf prog_3_method_13_code 4 (.some FieldType.int) ∈ gw := gs_8 _ (List.mem_of_getElem? (i := 26) rfl)
theorem gm_347 : Cond.methodLink n_D 155 y_D_startWalk ∈ gw := gs_8 _ (List.mem_of_getElem? (i := 27) rfl)
theorem gm_348 : Cond.instanceMethod y_D_startWalk ∈ gw := gs_8 _ (List.mem_of_getElem? (i := 28) rfl)
theorem gm_349 : Cond.code y_D_startWalk prog_3_method_14_code 2 none ∈ gw := gs_8 _ (List.mem_of_getElem? (i := 29) rfl)
theorem gm_350 : Cond.methodLink n_D 158 y_D_walkArc ∈ gw := gs_8 _ (List.mem_of_getElem? (i := 30) rfl)
theorem gm_351 : Cond.instanceMethod y_D_walkArc ∈ gw := gs_8 _ (List.mem_of_getElem? (i := 31) rfl)
theorem gm_352 : Cond.code y_D_walkArc prog_3_method_15_code 7 none ∈ gw := gs_8 _ (List.mem_of_getElem? (i := 32) rfl)
theorem gm_353 : Cond.methodLink n_D 162 y_D_walkTo ∈ gw := gs_8 _ (List.mem_of_getElem? (i := 33) rfl)
theorem gm_354 : Cond.instanceMethod y_D_walkTo ∈ gw := gs_8 _ (List.mem_of_getElem? (i := 34) rfl)
theorem gm_355 : Cond.code y_D_walkTo prog_3_method_16_code 3 none ∈ gw := gs_8 _ (List.mem_of_getElem? (i := 35) rfl)
theorem gm_356 : Cond.methodLink n_L 59 y_X_faces ∈ gw := gs_8 _ (List.mem_of_getElem? (i := 36) rfl)
theorem gm_357 : Cond.instanceMethod y_X_faces ∈ gw := gs_8 _ (List.mem_of_getElem? (i := 37) rfl)
theorem gm_358 : Cond.selects n_X y_X_faces y_X_faces ∈ gw := gs_8 _ (List.mem_of_getElem? (i := 38) rfl)
theorem gm_359 : Cond.code y_X_faces prog_1_method_12_code 3 (.some FieldType.int) ∈ gw := gs_8 _ (List.mem_of_getElem? (i := 39) rfl)
theorem gm_360 : Cond.methodLink n_X 106 y_B_has ∈ gw := gs_9 _ (List.mem_of_getElem? (i := 0) rfl)
theorem gm_361 : Cond.methodLink n_X 110 y_X_facesOf ∈ gw := gs_9 _ (List.mem_of_getElem? (i := 1) rfl)
theorem gm_362 : Cond.instanceMethod y_X_facesOf ∈ gw := gs_9 _ (List.mem_of_getElem? (i := 2) rfl)
theorem gm_363 : Cond.code y_X_facesOf prog_1_method_23_code 4 (.some FieldType.int) ∈ gw := gs_9 _ (List.mem_of_getElem? (i := 3) rfl)
theorem gm_364 : Cond.methodLink n_L 63 y_X_cut ∈ gw := gs_9 _ (List.mem_of_getElem? (i := 4) rfl)
theorem gm_365 : Cond.instanceMethod y_X_cut ∈ gw := gs_9 _ (List.mem_of_getElem? (i := 5) rfl)
theorem gm_366 : Cond.selects n_X y_X_cut y_X_cut ∈ gw := gs_9 _ (List.mem_of_getElem? (i := 6) rfl)
theorem gm_367 : Cond.code y_X_cut prog_1_method_13_code 1 (.some FieldType.long) ∈ gw := gs_9 _ (List.mem_of_getElem? (i := 7) rfl)
theorem gm_368 : Cond.constantLong n_X 113 (-1 : Int64) ∈ gw := gs_9 _ (List.mem_of_getElem? (i := 8) rfl)
theorem gm_369 : Cond.methodLink n_X 115 y_X_makeSplit ∈ gw := gs_9 _ (List.mem_of_getElem? (i := 9) rfl)
theorem gm_370 : Cond.instanceMethod y_X_makeSplit ∈ gw := gs_9 _ (List.mem_of_getElem? (i := 10) rfl)
theorem gm_371 : Cond.code y_X_makeSplit prog_1_method_21_code 1 none ∈ gw := gs_9 _ (List.mem_of_getElem? (i := 11) rfl)
theorem gm_372 : Cond.methodLink n_X 158 y_S_make ∈ gw := gs_9 _ (List.mem_of_getElem? (i := 12) rfl)
theorem gm_373 : Cond.instanceMethod y_S_make ∈ gw := gs_9 _ (List.mem_of_getElem? (i := 13) rfl)
theorem gm_374 : Cond.selects n_S y_S_make y_S_make ∈ gw := gs_9 _ (List.mem_of_getElem? (i := 14) rfl)
theorem gm_375 : Cond.code y_S_make prog_6_method_3_code 5 none ∈ gw := gs_9 _ (List.mem_of_getElem? (i := 15) rfl)
theorem gm_376 : Cond.methodLink n_S 23 y_S_setWorths ∈ gw := gs_9 _ (List.mem_of_getElem? (i := 16) rfl)
theorem gm_377 : Cond.instanceMethod y_S_setWorths ∈ gw := gs_9 _ (List.mem_of_getElem? (i := 17) rfl)
theorem gm_378 : Cond.code y_S_setWorths prog_6_method_4_code 2 none ∈ gw := gs_9 _ (List.mem_of_getElem? (i := 18) rfl)
theorem gm_379 : Cond.constantLong n_S 26 (-1 : Int64) ∈ gw := gs_9 _ (List.mem_of_getElem? (i := 19) rfl)
theorem gm_380 : Cond.methodLink n_S 34 y_S_worthBetween ∈ gw := gs_9 _ (List.mem_of_getElem? (i := 20) rfl)
theorem gm_381 : Cond.instanceMethod y_S_worthBetween ∈ gw := gs_9 _ (List.mem_of_getElem? (i := 21) rfl)
theorem gm_382 : Cond.code y_S_worthBetween prog_6_method_5_code 5 (.some FieldType.long) ∈ gw := gs_9 _ (List.mem_of_getElem? (i := 22) rfl)
theorem gm_383 : Cond.methodLink n_S 48 y_G_isBetween ∈ gw := gs_9 _ (List.mem_of_getElem? (i := 23) rfl)
theorem gm_384 : Cond.methodLink n_X 118 y_S_heaviest ∈ gw := gs_9 _ (List.mem_of_getElem? (i := 24) rfl)
theorem gm_385 : Cond.instanceMethod y_S_heaviest ∈ gw := gs_9 _ (List.mem_of_getElem? (i := 25) rfl)
theorem gm_386 : Cond.selects n_S y_S_heaviest y_S_heaviest ∈ gw := gs_9 _ (List.mem_of_getElem? (i := 26) rfl)
theorem gm_387 : Cond.code y_S_heaviest prog_6_method_2_code 1 (.some FieldType.long) ∈ gw := gs_9 _ (List.mem_of_getElem? (i := 27) rfl)
theorem gm_388 : Cond.methodLink n_L 68 y_X_side ∈ gw := gs_9 _ (List.mem_of_getElem? (i := 28) rfl)
theorem gm_389 : Cond.instanceMethod y_X_side ∈ gw := gs_9 _ (List.mem_of_getElem? (i := 29) rfl)
theorem gm_390 : Cond.selects n_X y_X_side y_X_side ∈ gw := gs_9 _ (List.mem_of_getElem? (i := 30) rfl)
theorem gm_391 : Cond.code y_X_side prog_1_method_14_code 2 (.some FieldType.int) ∈ gw := gs_9 _ (List.mem_of_getElem? (i := 31) rfl)
theorem gm_392 : Cond.methodLink n_L 72 y_X_crosses ∈ gw := gs_9 _ (List.mem_of_getElem? (i := 32) rfl)
theorem gm_393 : Cond.instanceMethod y_X_crosses ∈ gw := gs_9 _ (List.mem_of_getElem? (i := 33) rfl)
theorem gm_394 : Cond.selects n_X y_X_crosses y_X_crosses ∈ gw := gs_9 _ (List.mem_of_getElem? (i := 34) rfl)
theorem gm_395 : Cond.code y_X_crosses prog_1_method_15_code 2 (.some FieldType.boolean) ∈ gw := gs_9 _ (List.mem_of_getElem? (i := 35) rfl)
theorem gm_396 : Cond.methodLink n_X 125 y_G_isBetween ∈ gw := gs_9 _ (List.mem_of_getElem? (i := 36) rfl)
theorem gm_397 : Cond.methodLink n_L 76 y_X_witness ∈ gw := gs_9 _ (List.mem_of_getElem? (i := 37) rfl)
theorem gm_398 : Cond.instanceMethod y_X_witness ∈ gw := gs_9 _ (List.mem_of_getElem? (i := 38) rfl)
theorem gm_399 : Cond.selects n_X y_X_witness y_X_witness ∈ gw := gs_9 _ (List.mem_of_getElem? (i := 39) rfl)
theorem gm_400 : Cond.code y_X_witness prog_1_method_16_code 2 (.some FieldType.boolean) ∈ gw := gs_10 _ (List.mem_of_getElem? (i := 0) rfl)
theorem gm_401 : Cond.methodLink n_X 128 y_X_findWitness ∈ gw := gs_10 _ (List.mem_of_getElem? (i := 1) rfl)
theorem gm_402 : Cond.instanceMethod y_X_findWitness ∈ gw := gs_10 _ (List.mem_of_getElem? (i := 2) rfl)
theorem gm_403 : Cond.code y_X_findWitness prog_1_method_22_code 3 none ∈ gw := gs_10 _ (List.mem_of_getElem? (i := 3) rfl)
theorem gm_404 : Cond.methodLink n_L 80 y_X_kind ∈ gw := gs_10 _ (List.mem_of_getElem? (i := 4) rfl)
theorem gm_405 : Cond.instanceMethod y_X_kind ∈ gw := gs_10 _ (List.mem_of_getElem? (i := 5) rfl)
theorem gm_406 : Cond.selects n_X y_X_kind y_X_kind ∈ gw := gs_10 _ (List.mem_of_getElem? (i := 6) rfl)
theorem gm_407 : Cond.code y_X_kind prog_1_method_17_code 2 (.some FieldType.int) ∈ gw := gs_10 _ (List.mem_of_getElem? (i := 7) rfl)
theorem gm_408 : Cond.methodLink n_X 134 y_G_degree ∈ gw := gs_10 _ (List.mem_of_getElem? (i := 8) rfl)
theorem gm_409 : Cond.instanceMethod y_G_degree ∈ gw := gs_10 _ (List.mem_of_getElem? (i := 9) rfl)
theorem gm_410 : Cond.selects n_G y_G_degree y_G_degree ∈ gw := gs_10 _ (List.mem_of_getElem? (i := 10) rfl)
theorem gm_411 : Cond.code y_G_degree prog_4_method_7_code 5 (.some FieldType.int) ∈ gw := gs_10 _ (List.mem_of_getElem? (i := 11) rfl)
theorem gm_412 : Cond.methodLink n_G 28 y_B_has ∈ gw := gs_10 _ (List.mem_of_getElem? (i := 12) rfl)
theorem gm_413 : Cond.classLink n_L 10 n_M ∈ gw := gs_10 _ (List.mem_of_getElem? (i := 13) rfl)
theorem gm_414 : Cond.instantiable n_M 24 ∈ gw := gs_10 _ (List.mem_of_getElem? (i := 14) rfl)
theorem gm_415 : Cond.methodLink n_L 12 y_M_init ∈ gw := gs_10 _ (List.mem_of_getElem? (i := 15) rfl)
theorem gm_416 : Cond.instanceMethod y_M_init ∈ gw := gs_10 _ (List.mem_of_getElem? (i := 16) rfl)
theorem gm_417 : Cond.code y_M_init prog_8_method_1_code 1 none ∈ gw := gs_10 _ (List.mem_of_getElem? (i := 17) rfl)
theorem gm_418 : Cond.methodLink n_M 1 objectInit ∈ gw := gs_10 _ (List.mem_of_getElem? (i := 18) rfl)
theorem gm_419 : Cond.fieldLink n_M 52 n_M "vertices" "I" ∈ gw := gs_10 _ (List.mem_of_getElem? (i := 19) rfl)
theorem gm_420 : Cond.fieldLink n_M 56 n_M "edges" "I" ∈ gw := gs_10 _ (List.mem_of_getElem? (i := 20) rfl)
theorem gm_421 : Cond.fieldLink n_M 7 n_M "ends" "[I" ∈ gw := gs_10 _ (List.mem_of_getElem? (i := 21) rfl)
theorem gm_422 : Cond.fieldLink n_M 13 n_M "weights" "[I" ∈ gw := gs_10 _ (List.mem_of_getElem? (i := 22) rfl)
theorem gm_423 : Cond.fieldLink n_M 59 n_M "worked" "Z" ∈ gw := gs_10 _ (List.mem_of_getElem? (i := 23) rfl)
theorem gm_424 : Cond.fieldLink n_M 157 n_M "flat" "Z" ∈ gw := gs_10 _ (List.mem_of_getElem? (i := 24) rfl)
theorem gm_425 : Cond.fieldLink n_M 125 n_M "components" "I" ∈ gw := gs_10 _ (List.mem_of_getElem? (i := 25) rfl)
theorem gm_426 : Cond.fieldLink n_M 16 n_M "component" "[I" ∈ gw := gs_10 _ (List.mem_of_getElem? (i := 26) rfl)
theorem gm_427 : Cond.fieldLink n_M 19 n_M "block" "[I" ∈ gw := gs_10 _ (List.mem_of_getElem? (i := 27) rfl)
theorem gm_428 : Cond.fieldLink n_M 134 n_M "blocks" "I" ∈ gw := gs_10 _ (List.mem_of_getElem? (i := 28) rfl)
theorem gm_429 : Cond.fieldLink n_M 137 n_M "sides" "I" ∈ gw := gs_10 _ (List.mem_of_getElem? (i := 29) rfl)
theorem gm_430 : Cond.fieldLink n_M 147 n_M "sum" "J" ∈ gw := gs_10 _ (List.mem_of_getElem? (i := 30) rfl)
theorem gm_431 : Cond.fieldLink n_M 160 n_M "core" "I" ∈ gw := gs_10 _ (List.mem_of_getElem? (i := 31) rfl)
theorem gm_432 : Cond.fieldLink n_M 22 n_M "depth" "[I" ∈ gw := gs_10 _ (List.mem_of_getElem? (i := 32) rfl)
theorem gm_433 : Cond.fieldLink n_M 25 n_M "parent" "[I" ∈ gw := gs_10 _ (List.mem_of_getElem? (i := 33) rfl)
theorem gm_434 : Cond.fieldLink n_M 28 n_M "by" "[I" ∈ gw := gs_10 _ (List.mem_of_getElem? (i := 34) rfl)
theorem gm_435 : Cond.fieldLink n_M 31 n_M "next" "[I" ∈ gw := gs_10 _ (List.mem_of_getElem? (i := 35) rfl)
theorem gm_436 : Cond.fieldLink n_M 34 n_M "stack" "[I" ∈ gw := gs_10 _ (List.mem_of_getElem? (i := 36) rfl)
theorem gm_437 : Cond.fieldLink n_M 37 n_M "deep" "[I" ∈ gw := gs_10 _ (List.mem_of_getElem? (i := 37) rfl)
theorem gm_438 : Cond.fieldLink n_M 40 n_M "shallow" "[I" ∈ gw := gs_10 _ (List.mem_of_getElem? (i := 38) rfl)
theorem gm_439 : Cond.fieldLink n_M 43 n_M "group" "[I" ∈ gw := gs_10 _ (List.mem_of_getElem? (i := 39) rfl)
theorem gm_440 : Cond.fieldLink n_M 46 n_M "hand" "[I" ∈ gw := gs_11 _ (List.mem_of_getElem? (i := 0) rfl)
theorem gm_441 : Cond.fieldLink n_M 94 n_M "conflict" "Z" ∈ gw := gs_11 _ (List.mem_of_getElem? (i := 1) rfl)
theorem gm_442 : Cond.fieldLink n_M 49 n_M "fringes" "[I" ∈ gw := gs_11 _ (List.mem_of_getElem? (i := 2) rfl)
theorem gm_467 : Cond.methodLink n_L 17 y_M_begin ∈ gw := gs_11 _ (List.mem_of_getElem? (i := 27) rfl)
theorem gm_468 : Cond.instanceMethod y_M_begin ∈ gw := gs_11 _ (List.mem_of_getElem? (i := 28) rfl)
theorem gm_469 : Cond.selects n_M y_M_begin y_M_begin ∈ gw := gs_11 _ (List.mem_of_getElem? (i := 29) rfl)
theorem gm_470 : Cond.code y_M_begin prog_8_method_2_code 2 (.some FieldType.boolean) ∈ gw := gs_11 _ (List.mem_of_getElem? (i := 30) rfl)
theorem gm_471 : Cond.methodLink n_L 22 y_M_add ∈ gw := gs_11 _ (List.mem_of_getElem? (i := 31) rfl)
theorem gm_472 : Cond.instanceMethod y_M_add ∈ gw := gs_11 _ (List.mem_of_getElem? (i := 32) rfl)
theorem gm_473 : Cond.selects n_M y_M_add y_M_add ∈ gw := gs_11 _ (List.mem_of_getElem? (i := 33) rfl)
theorem gm_474 : Cond.code y_M_add prog_8_method_5_code 4 (.some FieldType.int) ∈ gw := gs_11 _ (List.mem_of_getElem? (i := 34) rfl)
theorem gm_475 : Cond.methodLink n_M 63 y_M_isVertex ∈ gw := gs_11 _ (List.mem_of_getElem? (i := 35) rfl)
theorem gm_476 : Cond.instanceMethod y_M_isVertex ∈ gw := gs_11 _ (List.mem_of_getElem? (i := 36) rfl)
theorem gm_477 : Cond.code y_M_isVertex prog_8_method_3_code 2 (.some FieldType.boolean) ∈ gw := gs_11 _ (List.mem_of_getElem? (i := 37) rfl)
theorem gm_478 : Cond.methodLink n_L 27 y_M_undo ∈ gw := gs_11 _ (List.mem_of_getElem? (i := 38) rfl)
theorem gm_479 : Cond.instanceMethod y_M_undo ∈ gw := gs_11 _ (List.mem_of_getElem? (i := 39) rfl)
theorem gm_480 : Cond.selects n_M y_M_undo y_M_undo ∈ gw := gs_12 _ (List.mem_of_getElem? (i := 0) rfl)
theorem gm_481 : Cond.code y_M_undo prog_8_method_6_code 1 (.some FieldType.int) ∈ gw := gs_12 _ (List.mem_of_getElem? (i := 1) rfl)
theorem gm_482 : Cond.methodLink n_L 32 y_M_weigh ∈ gw := gs_12 _ (List.mem_of_getElem? (i := 2) rfl)
theorem gm_483 : Cond.instanceMethod y_M_weigh ∈ gw := gs_12 _ (List.mem_of_getElem? (i := 3) rfl)
theorem gm_484 : Cond.selects n_M y_M_weigh y_M_weigh ∈ gw := gs_12 _ (List.mem_of_getElem? (i := 4) rfl)
theorem gm_485 : Cond.code y_M_weigh prog_8_method_7_code 3 (.some FieldType.boolean) ∈ gw := gs_12 _ (List.mem_of_getElem? (i := 5) rfl)
theorem gm_486 : Cond.methodLink n_M 67 y_M_isEdge ∈ gw := gs_12 _ (List.mem_of_getElem? (i := 6) rfl)
theorem gm_487 : Cond.instanceMethod y_M_isEdge ∈ gw := gs_12 _ (List.mem_of_getElem? (i := 7) rfl)
theorem gm_488 : Cond.code y_M_isEdge prog_8_method_4_code 2 (.some FieldType.boolean) ∈ gw := gs_12 _ (List.mem_of_getElem? (i := 8) rfl)
theorem gm_489 : Cond.methodLink n_L 36 y_M_edges ∈ gw := gs_12 _ (List.mem_of_getElem? (i := 9) rfl)
theorem gm_490 : Cond.instanceMethod y_M_edges ∈ gw := gs_12 _ (List.mem_of_getElem? (i := 10) rfl)
theorem gm_491 : Cond.selects n_M y_M_edges y_M_edges ∈ gw := gs_12 _ (List.mem_of_getElem? (i := 11) rfl)
theorem gm_492 : Cond.code y_M_edges prog_8_method_8_code 1 (.some FieldType.int) ∈ gw := gs_12 _ (List.mem_of_getElem? (i := 12) rfl)
theorem gm_493 : Cond.methodLink n_L 40 y_M_components ∈ gw := gs_12 _ (List.mem_of_getElem? (i := 13) rfl)
theorem gm_494 : Cond.instanceMethod y_M_components ∈ gw := gs_12 _ (List.mem_of_getElem? (i := 14) rfl)
theorem gm_495 : Cond.selects n_M y_M_components y_M_components ∈ gw := gs_12 _ (List.mem_of_getElem? (i := 15) rfl)
theorem gm_496 : Cond.code y_M_components prog_8_method_34_code 1 (.some FieldType.int) ∈ gw := gs_12 _ (List.mem_of_getElem? (i := 16) rfl)
theorem gm_497 : Cond.methodLink n_M 172 y_M_work ∈ gw := gs_12 _ (List.mem_of_getElem? (i := 17) rfl)
theorem gm_498 : Cond.instanceMethod y_M_work ∈ gw := gs_12 _ (List.mem_of_getElem? (i := 18) rfl)
theorem gm_499 : Cond.code y_M_work prog_8_method_33_code 4 none ∈ gw := gs_12 _ (List.mem_of_getElem? (i := 19) rfl)
theorem gm_500 : Cond.methodLink n_M 154 y_M_isFlat ∈ gw := gs_12 _ (List.mem_of_getElem? (i := 20) rfl)
theorem gm_501 : Cond.instanceMethod y_M_isFlat ∈ gw := gs_12 _ (List.mem_of_getElem? (i := 21) rfl)
theorem gm_502 : Cond.code y_M_isFlat prog_8_method_24_code 5 (.some FieldType.boolean) ∈ gw := gs_12 _ (List.mem_of_getElem? (i := 22) rfl)
theorem gm_503 : Cond.methodLink n_M 115 y_M_plant ∈ gw := gs_12 _ (List.mem_of_getElem? (i := 23) rfl)
theorem gm_504 : Cond.instanceMethod y_M_plant ∈ gw := gs_12 _ (List.mem_of_getElem? (i := 24) rfl)
theorem gm_505 : Cond.code y_M_plant prog_8_method_14_code 5 none ∈ gw := gs_12 _ (List.mem_of_getElem? (i := 25) rfl)
theorem gm_506 : Cond.methodLink n_M 81 y_M_goDown ∈ gw := gs_12 _ (List.mem_of_getElem? (i := 26) rfl)
theorem gm_507 : Cond.instanceMethod y_M_goDown ∈ gw := gs_12 _ (List.mem_of_getElem? (i := 27) rfl)
theorem gm_508 : Cond.code y_M_goDown prog_8_method_12_code 7 none ∈ gw := gs_12 _ (List.mem_of_getElem? (i := 28) rfl)
theorem gm_509 : Cond.methodLink n_M 70 y_M_has ∈ gw := gs_12 _ (List.mem_of_getElem? (i := 29) rfl)
theorem gm_510 : Cond.static y_M_has ∈ gw := gs_12 _ (List.mem_of_getElem? (i := 30) rfl)
theorem gm_511 : Cond.code y_M_has prog_8_method_11_code 2 (.some FieldType.boolean) ∈ gw := gs_12 _ (List.mem_of_getElem? (i := 31) rfl)
theorem gm_512 : Cond.methodLink n_M 74 y_M_touches ∈ gw := gs_12 _ (List.mem_of_getElem? (i := 32) rfl)
theorem gm_513 : Cond.instanceMethod y_M_touches ∈ gw := gs_12 _ (List.mem_of_getElem? (i := 33) rfl)
theorem gm_514 : Cond.code y_M_touches prog_8_method_9_code 3 (.some FieldType.boolean) ∈ gw := gs_12 _ (List.mem_of_getElem? (i := 34) rfl)
theorem gm_515 : Cond.methodLink n_M 77 y_M_other ∈ gw := gs_12 _ (List.mem_of_getElem? (i := 35) rfl)
theorem gm_516 : Cond.instanceMethod y_M_other ∈ gw := gs_12 _ (List.mem_of_getElem? (i := 36) rfl)
theorem gm_517 : Cond.code y_M_other prog_8_method_10_code 3 (.some FieldType.int) ∈ gw := gs_12 _ (List.mem_of_getElem? (i := 37) rfl)
theorem gm_518 : Cond.methodLink n_M 118 y_M_fringe ∈ gw := gs_12 _ (List.mem_of_getElem? (i := 38) rfl)
theorem gm_519 : Cond.instanceMethod y_M_fringe ∈ gw := gs_12 _ (List.mem_of_getElem? (i := 39) rfl)
theorem gm_520 : Cond.code y_M_fringe prog_8_method_17_code 7 (.some FieldType.int) ∈ gw := gs_13 _ (List.mem_of_getElem? (i := 0) rfl)
theorem gm_521 : Cond.methodLink n_M 85 y_M_inTree ∈ gw := gs_13 _ (List.mem_of_getElem? (i := 1) rfl)
theorem gm_522 : Cond.instanceMethod y_M_inTree ∈ gw := gs_13 _ (List.mem_of_getElem? (i := 2) rfl)
theorem gm_523 : Cond.code y_M_inTree prog_8_method_13_code 2 (.some FieldType.boolean) ∈ gw := gs_13 _ (List.mem_of_getElem? (i := 3) rfl)
theorem gm_524 : Cond.methodLink n_M 88 y_M_isBack ∈ gw := gs_13 _ (List.mem_of_getElem? (i := 4) rfl)
theorem gm_525 : Cond.instanceMethod y_M_isBack ∈ gw := gs_13 _ (List.mem_of_getElem? (i := 5) rfl)
theorem gm_526 : Cond.code y_M_isBack prog_8_method_15_code 3 (.some FieldType.boolean) ∈ gw := gs_13 _ (List.mem_of_getElem? (i := 6) rfl)
theorem gm_527 : Cond.methodLink n_M 91 y_M_isBelow ∈ gw := gs_13 _ (List.mem_of_getElem? (i := 7) rfl)
theorem gm_528 : Cond.instanceMethod y_M_isBelow ∈ gw := gs_13 _ (List.mem_of_getElem? (i := 8) rfl)
theorem gm_529 : Cond.code y_M_isBelow prog_8_method_16_code 4 (.some FieldType.boolean) ∈ gw := gs_13 _ (List.mem_of_getElem? (i := 9) rfl)
theorem gm_530 : Cond.methodLink n_M 122 y_M_compare ∈ gw := gs_13 _ (List.mem_of_getElem? (i := 10) rfl)
theorem gm_531 : Cond.instanceMethod y_M_compare ∈ gw := gs_13 _ (List.mem_of_getElem? (i := 11) rfl)
theorem gm_532 : Cond.code y_M_compare prog_8_method_23_code 8 none ∈ gw := gs_13 _ (List.mem_of_getElem? (i := 12) rfl)
theorem gm_533 : Cond.methodLink n_M 105 y_M_lowest ∈ gw := gs_13 _ (List.mem_of_getElem? (i := 13) rfl)
theorem gm_534 : Cond.instanceMethod y_M_lowest ∈ gw := gs_13 _ (List.mem_of_getElem? (i := 14) rfl)
theorem gm_535 : Cond.code y_M_lowest prog_8_method_18_code 5 (.some FieldType.int) ∈ gw := gs_13 _ (List.mem_of_getElem? (i := 15) rfl)
theorem gm_536 : Cond.methodLink n_M 108 y_M_deeper ∈ gw := gs_13 _ (List.mem_of_getElem? (i := 16) rfl)
theorem gm_537 : Cond.instanceMethod y_M_deeper ∈ gw := gs_13 _ (List.mem_of_getElem? (i := 17) rfl)
theorem gm_538 : Cond.code y_M_deeper prog_8_method_19_code 5 (.some FieldType.int) ∈ gw := gs_13 _ (List.mem_of_getElem? (i := 18) rfl)
theorem gm_539 : Cond.methodLink n_M 111 y_M_tellAlike ∈ gw := gs_13 _ (List.mem_of_getElem? (i := 19) rfl)
theorem gm_540 : Cond.instanceMethod y_M_tellAlike ∈ gw := gs_13 _ (List.mem_of_getElem? (i := 20) rfl)
theorem gm_541 : Cond.code y_M_tellAlike prog_8_method_22_code 4 none ∈ gw := gs_13 _ (List.mem_of_getElem? (i := 21) rfl)
theorem gm_542 : Cond.methodLink n_M 97 y_M_least ∈ gw := gs_13 _ (List.mem_of_getElem? (i := 22) rfl)
theorem gm_543 : Cond.static y_M_least ∈ gw := gs_13 _ (List.mem_of_getElem? (i := 23) rfl)
theorem gm_544 : Cond.code y_M_least prog_8_method_20_code 2 (.some FieldType.int) ∈ gw := gs_13 _ (List.mem_of_getElem? (i := 24) rfl)
theorem gm_545 : Cond.methodLink n_M 101 y_M_tell ∈ gw := gs_13 _ (List.mem_of_getElem? (i := 25) rfl)
theorem gm_546 : Cond.instanceMethod y_M_tell ∈ gw := gs_13 _ (List.mem_of_getElem? (i := 26) rfl)
theorem gm_547 : Cond.code y_M_tell prog_8_method_21_code 7 none ∈ gw := gs_13 _ (List.mem_of_getElem? (i := 27) rfl)
theorem gm_548 : Cond.methodLink n_M 163 y_M_findComponents ∈ gw := gs_13 _ (List.mem_of_getElem? (i := 28) rfl)
theorem gm_549 : Cond.instanceMethod y_M_findComponents ∈ gw := gs_13 _ (List.mem_of_getElem? (i := 29) rfl)
theorem gm_550 : Cond.code y_M_findComponents prog_8_method_25_code 4 none ∈ gw := gs_13 _ (List.mem_of_getElem? (i := 30) rfl)
theorem gm_551 : Cond.methodLink n_M 166 y_M_findBlocks ∈ gw := gs_13 _ (List.mem_of_getElem? (i := 31) rfl)
theorem gm_552 : Cond.instanceMethod y_M_findBlocks ∈ gw := gs_13 _ (List.mem_of_getElem? (i := 32) rfl)
theorem gm_553 : Cond.code y_M_findBlocks prog_8_method_27_code 4 none ∈ gw := gs_13 _ (List.mem_of_getElem? (i := 33) rfl)
theorem gm_554 : Cond.methodLink n_M 128 y_M_join ∈ gw := gs_13 _ (List.mem_of_getElem? (i := 34) rfl)
theorem gm_555 : Cond.instanceMethod y_M_join ∈ gw := gs_13 _ (List.mem_of_getElem? (i := 35) rfl)
theorem gm_556 : Cond.code y_M_join prog_8_method_26_code 5 none ∈ gw := gs_13 _ (List.mem_of_getElem? (i := 36) rfl)
theorem gm_557 : Cond.methodLink n_M 131 y_M_number ∈ gw := gs_13 _ (List.mem_of_getElem? (i := 37) rfl)
theorem gm_558 : Cond.instanceMethod y_M_number ∈ gw := gs_13 _ (List.mem_of_getElem? (i := 38) rfl)
theorem gm_559 : Cond.code y_M_number prog_8_method_28_code 5 none ∈ gw := gs_13 _ (List.mem_of_getElem? (i := 39) rfl)
theorem gm_560 : Cond.methodLink n_M 169 y_M_split ∈ gw := gs_14 _ (List.mem_of_getElem? (i := 0) rfl)
theorem gm_561 : Cond.instanceMethod y_M_split ∈ gw := gs_14 _ (List.mem_of_getElem? (i := 1) rfl)
theorem gm_562 : Cond.code y_M_split prog_8_method_32_code 8 none ∈ gw := gs_14 _ (List.mem_of_getElem? (i := 2) rfl)
theorem gm_563 : Cond.methodLink n_M 140 y_M_crossingBy ∈ gw := gs_14 _ (List.mem_of_getElem? (i := 3) rfl)
theorem gm_564 : Cond.instanceMethod y_M_crossingBy ∈ gw := gs_14 _ (List.mem_of_getElem? (i := 4) rfl)
theorem gm_565 : Cond.code y_M_crossingBy prog_8_method_29_code 5 (.some FieldType.int) ∈ gw := gs_14 _ (List.mem_of_getElem? (i := 5) rfl)
theorem gm_566 : Cond.methodLink n_M 143 y_M_weightOf ∈ gw := gs_14 _ (List.mem_of_getElem? (i := 6) rfl)
theorem gm_567 : Cond.instanceMethod y_M_weightOf ∈ gw := gs_14 _ (List.mem_of_getElem? (i := 7) rfl)
theorem gm_568 : Cond.code y_M_weightOf prog_8_method_30_code 5 (.some FieldType.long) ∈ gw := gs_14 _ (List.mem_of_getElem? (i := 8) rfl)
theorem gm_569 : Cond.methodLink n_M 151 y_M_begins ∈ gw := gs_14 _ (List.mem_of_getElem? (i := 9) rfl)
theorem gm_570 : Cond.instanceMethod y_M_begins ∈ gw := gs_14 _ (List.mem_of_getElem? (i := 10) rfl)
theorem gm_571 : Cond.code y_M_begins prog_8_method_31_code 6 (.some FieldType.boolean) ∈ gw := gs_14 _ (List.mem_of_getElem? (i := 11) rfl)
theorem gm_572 : Cond.methodLink n_L 45 y_M_component ∈ gw := gs_14 _ (List.mem_of_getElem? (i := 12) rfl)
theorem gm_573 : Cond.instanceMethod y_M_component ∈ gw := gs_14 _ (List.mem_of_getElem? (i := 13) rfl)
theorem gm_574 : Cond.selects n_M y_M_component y_M_component ∈ gw := gs_14 _ (List.mem_of_getElem? (i := 14) rfl)
theorem gm_575 : Cond.code y_M_component prog_8_method_35_code 2 (.some FieldType.int) ∈ gw := gs_14 _ (List.mem_of_getElem? (i := 15) rfl)
theorem gm_576 : Cond.methodLink n_L 49 y_M_blocks ∈ gw := gs_14 _ (List.mem_of_getElem? (i := 16) rfl)
theorem gm_577 : Cond.instanceMethod y_M_blocks ∈ gw := gs_14 _ (List.mem_of_getElem? (i := 17) rfl)
theorem gm_578 : Cond.selects n_M y_M_blocks y_M_blocks ∈ gw := gs_14 _ (List.mem_of_getElem? (i := 18) rfl)
theorem gm_579 : Cond.code y_M_blocks prog_8_method_36_code 1 (.some FieldType.int) ∈ gw := gs_14 _ (List.mem_of_getElem? (i := 19) rfl)
theorem gm_580 : Cond.methodLink n_L 53 y_M_block ∈ gw := gs_14 _ (List.mem_of_getElem? (i := 20) rfl)
theorem gm_581 : Cond.instanceMethod y_M_block ∈ gw := gs_14 _ (List.mem_of_getElem? (i := 21) rfl)
theorem gm_582 : Cond.selects n_M y_M_block y_M_block ∈ gw := gs_14 _ (List.mem_of_getElem? (i := 22) rfl)
theorem gm_583 : Cond.code y_M_block prog_8_method_37_code 2 (.some FieldType.int) ∈ gw := gs_14 _ (List.mem_of_getElem? (i := 23) rfl)
theorem gm_584 : Cond.methodLink n_L 58 y_M_planar ∈ gw := gs_14 _ (List.mem_of_getElem? (i := 24) rfl)
theorem gm_585 : Cond.instanceMethod y_M_planar ∈ gw := gs_14 _ (List.mem_of_getElem? (i := 25) rfl)
theorem gm_586 : Cond.selects n_M y_M_planar y_M_planar ∈ gw := gs_14 _ (List.mem_of_getElem? (i := 26) rfl)
theorem gm_587 : Cond.code y_M_planar prog_8_method_38_code 1 (.some FieldType.boolean) ∈ gw := gs_14 _ (List.mem_of_getElem? (i := 27) rfl)
theorem gm_588 : Cond.methodLink n_L 62 y_M_faces ∈ gw := gs_14 _ (List.mem_of_getElem? (i := 28) rfl)
theorem gm_589 : Cond.instanceMethod y_M_faces ∈ gw := gs_14 _ (List.mem_of_getElem? (i := 29) rfl)
theorem gm_590 : Cond.selects n_M y_M_faces y_M_faces ∈ gw := gs_14 _ (List.mem_of_getElem? (i := 30) rfl)
theorem gm_591 : Cond.code y_M_faces prog_8_method_39_code 7 (.some FieldType.int) ∈ gw := gs_14 _ (List.mem_of_getElem? (i := 31) rfl)
theorem gm_592 : Cond.methodLink n_L 67 y_M_cut ∈ gw := gs_14 _ (List.mem_of_getElem? (i := 32) rfl)
theorem gm_593 : Cond.instanceMethod y_M_cut ∈ gw := gs_14 _ (List.mem_of_getElem? (i := 33) rfl)
theorem gm_594 : Cond.selects n_M y_M_cut y_M_cut ∈ gw := gs_14 _ (List.mem_of_getElem? (i := 34) rfl)
theorem gm_595 : Cond.code y_M_cut prog_8_method_40_code 1 (.some FieldType.long) ∈ gw := gs_14 _ (List.mem_of_getElem? (i := 35) rfl)
theorem gm_596 : Cond.constantLong n_M 175 (-1 : Int64) ∈ gw := gs_14 _ (List.mem_of_getElem? (i := 36) rfl)
theorem gm_597 : Cond.methodLink n_L 71 y_M_side ∈ gw := gs_14 _ (List.mem_of_getElem? (i := 37) rfl)
theorem gm_598 : Cond.instanceMethod y_M_side ∈ gw := gs_14 _ (List.mem_of_getElem? (i := 38) rfl)
theorem gm_599 : Cond.selects n_M y_M_side y_M_side ∈ gw := gs_14 _ (List.mem_of_getElem? (i := 39) rfl)
theorem gm_600 : Cond.code y_M_side prog_8_method_41_code 2 (.some FieldType.int) ∈ gw := gs_15 _ (List.mem_of_getElem? (i := 0) rfl)
theorem gm_601 : Cond.methodLink n_L 75 y_M_crosses ∈ gw := gs_15 _ (List.mem_of_getElem? (i := 1) rfl)
theorem gm_602 : Cond.instanceMethod y_M_crosses ∈ gw := gs_15 _ (List.mem_of_getElem? (i := 2) rfl)
theorem gm_603 : Cond.selects n_M y_M_crosses y_M_crosses ∈ gw := gs_15 _ (List.mem_of_getElem? (i := 3) rfl)
theorem gm_604 : Cond.code y_M_crosses prog_8_method_42_code 3 (.some FieldType.boolean) ∈ gw := gs_15 _ (List.mem_of_getElem? (i := 4) rfl)
theorem gm_605 : Cond.methodLink n_L 79 y_M_witness ∈ gw := gs_15 _ (List.mem_of_getElem? (i := 5) rfl)
theorem gm_606 : Cond.instanceMethod y_M_witness ∈ gw := gs_15 _ (List.mem_of_getElem? (i := 6) rfl)
theorem gm_607 : Cond.selects n_M y_M_witness y_M_witness ∈ gw := gs_15 _ (List.mem_of_getElem? (i := 7) rfl)
theorem gm_608 : Cond.code y_M_witness prog_8_method_43_code 2 (.some FieldType.boolean) ∈ gw := gs_15 _ (List.mem_of_getElem? (i := 8) rfl)
theorem gm_609 : Cond.methodLink n_L 83 y_M_kind ∈ gw := gs_15 _ (List.mem_of_getElem? (i := 9) rfl)
theorem gm_610 : Cond.instanceMethod y_M_kind ∈ gw := gs_15 _ (List.mem_of_getElem? (i := 10) rfl)
theorem gm_611 : Cond.selects n_M y_M_kind y_M_kind ∈ gw := gs_15 _ (List.mem_of_getElem? (i := 11) rfl)
theorem gm_612 : Cond.code y_M_kind prog_8_method_44_code 5 (.some FieldType.int) ∈ gw := gs_15 _ (List.mem_of_getElem? (i := 12) rfl)
theorem gf_D : ∀ w ∈ u_ws n_D f_D 17, w ∈ gw := by decide +kernel
theorem gf_G : ∀ w ∈ u_ws n_G f_G 5, w ∈ gw := by decide +kernel
theorem gf_P : ∀ w ∈ u_ws n_P f_P 6, w ∈ gw := by decide +kernel
theorem gf_S : ∀ w ∈ u_ws n_S f_S 4, w ∈ gw := by decide +kernel
theorem gf_X : ∀ w ∈ u_ws n_X f_X 11, w ∈ gw := by decide +kernel
theorem gf_M : ∀ w ∈ u_ws n_M f_M 24, w ∈ gw := by decide +kernel
theorem gw_cons {c : Cond} (hc : c ∈ gw) : GoodIn gw (c :: gw) := fun w h => (List.mem_cons.mp h).elim (fun e => ⟨e ▸ hc, (gw_good w (e ▸ hc)).2⟩) (fun h => ⟨h, (gw_good w h).2⟩)
theorem gw_callV {own C : String} {idx n : Nat} {y : MethodName} {b : ByteArray} {r : Option FieldType} (h1 : Cond.methodLink own idx y ∈ gw) (h2 : Cond.instanceMethod y ∈ gw) (h3 : Cond.selects C y y ∈ gw) (h4 : Cond.initialized C ∈ gw) (h5 : Cond.code y b n r ∈ gw) : GoodIn gw (wsV own idx C y (.code y b n r :: gw)) :=
  fun w h => (List.mem_append.mp h).elim (fun q => by
    have : w ∈ gw := by
      rcases List.mem_cons.mp q with rfl | q
      · exact h1
      · rcases List.mem_cons.mp q with rfl | q
        · exact h2
        · rcases List.mem_cons.mp q with rfl | q
          · exact h3
          · rcases List.mem_cons.mp q with rfl | q
            · exact h4
            · cases q
    exact ⟨this, (gw_good w this).2⟩) (gw_cons h5 w)
theorem gw_callS {own : String} {idx n : Nat} {y : MethodName} {b : ByteArray} {r : Option FieldType} (h1 : Cond.methodLink own idx y ∈ gw) (h2 : Cond.static y ∈ gw) (h4 : Cond.initialized y.cls ∈ gw) (h5 : Cond.code y b n r ∈ gw) : GoodIn gw (va_wsS own idx y (.code y b n r :: gw)) :=
  fun w h => (List.mem_append.mp h).elim (fun q => by
    have : w ∈ gw := by
      rcases List.mem_cons.mp q with rfl | q
      · exact h1
      · rcases List.mem_cons.mp q with rfl | q
        · exact h2
        · rcases List.mem_cons.mp q with rfl | q
          · exact h4
          · cases q
    exact ⟨this, (gw_good w this).2⟩) (gw_cons h5 w)

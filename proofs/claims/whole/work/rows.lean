section
-- ===== PART A: goes FIRST, ahead of the names: the tables' words, and 'selects' of the private methods out of them =====
/-- a private method of a class that the tables say can be made, by its rows of tables_1 -/
def lw_okq (q : MethodName × Nat) : Prop := (q.1.cls ≠ "java/lang/invoke/MethodHandle" ∧ q.1.cls ≠ "java/lang/invoke/VarHandle") ∧ Cond.instantiable q.1.cls q.2 ∈ tables_1 ∧ Cond.privateMethod q.1 ∈ tables_1 ∧ Cond.instanceMethod q.1 ∈ tables_1
theorem lw_p0 : lw_okq (⟨"PlaneColours", "isPlane", "()Z"⟩, 5) := ⟨⟨by decide +kernel, by decide +kernel⟩, List.mem_of_getElem? (i := 18) (by decide +kernel), List.mem_of_getElem? (i := 282) (by decide +kernel), List.mem_of_getElem? (i := 283) (by decide +kernel)⟩
theorem lw_p1 : lw_okq (⟨"PlaneColours", "surveyAgain", "()V"⟩, 5) := ⟨⟨by decide +kernel, by decide +kernel⟩, List.mem_of_getElem? (i := 18) (by decide +kernel), List.mem_of_getElem? (i := 309) (by decide +kernel), List.mem_of_getElem? (i := 310) (by decide +kernel)⟩
theorem lw_p2 : lw_okq (⟨"PlaneColours$FaceRows", "walkFrom", "(I)V"⟩, 5) := ⟨⟨by decide +kernel, by decide +kernel⟩, List.mem_of_getElem? (i := 88) (by decide +kernel), List.mem_of_getElem? (i := 317) (by decide +kernel), List.mem_of_getElem? (i := 318) (by decide +kernel)⟩
theorem lw_p3 : lw_okq (⟨"PlaneColours$Tree", "growFrom", "(I)V"⟩, 8) := ⟨⟨by decide +kernel, by decide +kernel⟩, List.mem_of_getElem? (i := 117) (by decide +kernel), List.mem_of_getElem? (i := 329) (by decide +kernel), List.mem_of_getElem? (i := 330) (by decide +kernel)⟩
theorem lw_p4 : lw_okq (⟨"PlaneColours$Tree", "reach", "(IIII)V"⟩, 8) := ⟨⟨by decide +kernel, by decide +kernel⟩, List.mem_of_getElem? (i := 117) (by decide +kernel), List.mem_of_getElem? (i := 333) (by decide +kernel), List.mem_of_getElem? (i := 334) (by decide +kernel)⟩
theorem lw_p5 : lw_okq (⟨"PlaneColours$Tree", "reachNeighbours", "(I)V"⟩, 8) := ⟨⟨by decide +kernel, by decide +kernel⟩, List.mem_of_getElem? (i := 117) (by decide +kernel), List.mem_of_getElem? (i := 337) (by decide +kernel), List.mem_of_getElem? (i := 338) (by decide +kernel)⟩
theorem lw_p6 : lw_okq (⟨"java/lang/Throwable", "fillInStackTrace", "(I)Ljava/lang/Throwable;"⟩, 6) := ⟨⟨by decide +kernel, by decide +kernel⟩, List.mem_of_getElem? (i := 392) (by decide +kernel), List.mem_of_getElem? (i := 390) (by decide +kernel), List.mem_of_getElem? (i := 391) (by decide +kernel)⟩
theorem lw_p7 : lw_okq (⟨"PlaneColours", "checkVertex", "(I)V"⟩, 5) := ⟨⟨by decide +kernel, by decide +kernel⟩, List.mem_of_getElem? (i := 18) (by decide +kernel), List.mem_of_getElem? (i := 435) (by decide +kernel), List.mem_of_getElem? (i := 436) (by decide +kernel)⟩
theorem lw_p8 : lw_okq (⟨"PlaneColours", "checkEdgeOrNone", "(I)V"⟩, 5) := ⟨⟨by decide +kernel, by decide +kernel⟩, List.mem_of_getElem? (i := 18) (by decide +kernel), List.mem_of_getElem? (i := 455) (by decide +kernel), List.mem_of_getElem? (i := 456) (by decide +kernel)⟩
theorem lw_p9 : lw_okq (⟨"PlaneColours", "checkEdge", "(I)V"⟩, 5) := ⟨⟨by decide +kernel, by decide +kernel⟩, List.mem_of_getElem? (i := 18) (by decide +kernel), List.mem_of_getElem? (i := 459) (by decide +kernel), List.mem_of_getElem? (i := 460) (by decide +kernel)⟩
theorem lw_p10 : lw_okq (⟨"PlaneColours$Graph", "putSide", "(III)V"⟩, 9) := ⟨⟨by decide +kernel, by decide +kernel⟩, List.mem_of_getElem? (i := 26) (by decide +kernel), List.mem_of_getElem? (i := 495) (by decide +kernel), List.mem_of_getElem? (i := 496) (by decide +kernel)⟩
theorem lw_p11 : lw_okq (⟨"PlaneColours$Graph", "sideFrom", "(II)I"⟩, 9) := ⟨⟨by decide +kernel, by decide +kernel⟩, List.mem_of_getElem? (i := 26) (by decide +kernel), List.mem_of_getElem? (i := 499) (by decide +kernel), List.mem_of_getElem? (i := 500) (by decide +kernel)⟩
theorem lw_p12 : lw_okq (⟨"PlaneColours$Graph", "link", "(II)V"⟩, 9) := ⟨⟨by decide +kernel, by decide +kernel⟩, List.mem_of_getElem? (i := 26) (by decide +kernel), List.mem_of_getElem? (i := 503) (by decide +kernel), List.mem_of_getElem? (i := 504) (by decide +kernel)⟩
theorem lw_p13 : lw_okq (⟨"PlaneColours$Graph", "takeSide", "(I)V"⟩, 9) := ⟨⟨by decide +kernel, by decide +kernel⟩, List.mem_of_getElem? (i := 26) (by decide +kernel), List.mem_of_getElem? (i := 518) (by decide +kernel), List.mem_of_getElem? (i := 519) (by decide +kernel)⟩
theorem lw_p14 : lw_okq (⟨"PlaneColours", "checkFace", "(I)V"⟩, 5) := ⟨⟨by decide +kernel, by decide +kernel⟩, List.mem_of_getElem? (i := 18) (by decide +kernel), List.mem_of_getElem? (i := 551) (by decide +kernel), List.mem_of_getElem? (i := 552) (by decide +kernel)⟩
theorem lw_p15 : lw_okq (⟨"PlaneColours", "checkPlane", "()V"⟩, 5) := ⟨⟨by decide +kernel, by decide +kernel⟩, List.mem_of_getElem? (i := 18) (by decide +kernel), List.mem_of_getElem? (i := 573) (by decide +kernel), List.mem_of_getElem? (i := 574) (by decide +kernel)⟩
def lw_privs_1 : List (MethodName × Nat) := [(⟨"PlaneColours", "isPlane", "()Z"⟩, 5), (⟨"PlaneColours", "surveyAgain", "()V"⟩, 5), (⟨"PlaneColours$FaceRows", "walkFrom", "(I)V"⟩, 5), (⟨"PlaneColours$Tree", "growFrom", "(I)V"⟩, 8), (⟨"PlaneColours$Tree", "reach", "(IIII)V"⟩, 8), (⟨"PlaneColours$Tree", "reachNeighbours", "(I)V"⟩, 8), (⟨"java/lang/Throwable", "fillInStackTrace", "(I)Ljava/lang/Throwable;"⟩, 6), (⟨"PlaneColours", "checkVertex", "(I)V"⟩, 5), (⟨"PlaneColours", "checkEdgeOrNone", "(I)V"⟩, 5), (⟨"PlaneColours", "checkEdge", "(I)V"⟩, 5), (⟨"PlaneColours$Graph", "putSide", "(III)V"⟩, 9), (⟨"PlaneColours$Graph", "sideFrom", "(II)I"⟩, 9), (⟨"PlaneColours$Graph", "link", "(II)V"⟩, 9), (⟨"PlaneColours$Graph", "takeSide", "(I)V"⟩, 9), (⟨"PlaneColours", "checkFace", "(I)V"⟩, 5), (⟨"PlaneColours", "checkPlane", "()V"⟩, 5)]
theorem lw_r1 : ∀ q ∈ lw_privs_1, lw_okq q := List.forall_mem_cons.mpr ⟨lw_p0, List.forall_mem_cons.mpr ⟨lw_p1, List.forall_mem_cons.mpr ⟨lw_p2, List.forall_mem_cons.mpr ⟨lw_p3, List.forall_mem_cons.mpr ⟨lw_p4, List.forall_mem_cons.mpr ⟨lw_p5, List.forall_mem_cons.mpr ⟨lw_p6, List.forall_mem_cons.mpr ⟨lw_p7, List.forall_mem_cons.mpr ⟨lw_p8, List.forall_mem_cons.mpr ⟨lw_p9, List.forall_mem_cons.mpr ⟨lw_p10, List.forall_mem_cons.mpr ⟨lw_p11, List.forall_mem_cons.mpr ⟨lw_p12, List.forall_mem_cons.mpr ⟨lw_p13, List.forall_mem_cons.mpr ⟨lw_p14, List.forall_mem_cons.mpr ⟨lw_p15, fun _ h => absurd h List.not_mem_nil⟩⟩⟩⟩⟩⟩⟩⟩⟩⟩⟩⟩⟩⟩⟩⟩
theorem lw_p16 : lw_okq (⟨"PlaneColours$Colouring", "takeAll", "()I"⟩, 9) := ⟨⟨by decide +kernel, by decide +kernel⟩, List.mem_of_getElem? (i := 154) (by decide +kernel), List.mem_of_getElem? (i := 598) (by decide +kernel), List.mem_of_getElem? (i := 599) (by decide +kernel)⟩
theorem lw_p17 : lw_okq (⟨"PlaneColours$Colouring", "leastToTake", "()I"⟩, 9) := ⟨⟨by decide +kernel, by decide +kernel⟩, List.mem_of_getElem? (i := 154) (by decide +kernel), List.mem_of_getElem? (i := 602) (by decide +kernel), List.mem_of_getElem? (i := 603) (by decide +kernel)⟩
theorem lw_p18 : lw_okq (⟨"PlaneColours$Colouring", "neighboursLeft", "(I)I"⟩, 9) := ⟨⟨by decide +kernel, by decide +kernel⟩, List.mem_of_getElem? (i := 154) (by decide +kernel), List.mem_of_getElem? (i := 606) (by decide +kernel), List.mem_of_getElem? (i := 607) (by decide +kernel)⟩
theorem lw_p19 : lw_okq (⟨"PlaneColours$Colouring", "bringBack", "(I)V"⟩, 9) := ⟨⟨by decide +kernel, by decide +kernel⟩, List.mem_of_getElem? (i := 154) (by decide +kernel), List.mem_of_getElem? (i := 611) (by decide +kernel), List.mem_of_getElem? (i := 612) (by decide +kernel)⟩
theorem lw_p20 : lw_okq (⟨"PlaneColours$Colouring", "leastFreeColour", "(I)I"⟩, 9) := ⟨⟨by decide +kernel, by decide +kernel⟩, List.mem_of_getElem? (i := 154) (by decide +kernel), List.mem_of_getElem? (i := 615) (by decide +kernel), List.mem_of_getElem? (i := 616) (by decide +kernel)⟩
theorem lw_p21 : lw_okq (⟨"PlaneColours$Colouring", "colourFreedByChain", "(I)I"⟩, 9) := ⟨⟨by decide +kernel, by decide +kernel⟩, List.mem_of_getElem? (i := 154) (by decide +kernel), List.mem_of_getElem? (i := 619) (by decide +kernel), List.mem_of_getElem? (i := 620) (by decide +kernel)⟩
theorem lw_p22 : lw_okq (⟨"PlaneColours$Colouring", "listFiveRound", "(I)V"⟩, 9) := ⟨⟨by decide +kernel, by decide +kernel⟩, List.mem_of_getElem? (i := 154) (by decide +kernel), List.mem_of_getElem? (i := 623) (by decide +kernel), List.mem_of_getElem? (i := 624) (by decide +kernel)⟩
theorem lw_p23 : lw_okq (⟨"PlaneColours$Colouring", "addToChain", "(I)V"⟩, 9) := ⟨⟨by decide +kernel, by decide +kernel⟩, List.mem_of_getElem? (i := 154) (by decide +kernel), List.mem_of_getElem? (i := 631) (by decide +kernel), List.mem_of_getElem? (i := 632) (by decide +kernel)⟩
theorem lw_p24 : lw_okq (⟨"PlaneColours$Colouring", "addNeighboursOf", "(III)V"⟩, 9) := ⟨⟨by decide +kernel, by decide +kernel⟩, List.mem_of_getElem? (i := 154) (by decide +kernel), List.mem_of_getElem? (i := 635) (by decide +kernel), List.mem_of_getElem? (i := 636) (by decide +kernel)⟩
theorem lw_p25 : lw_okq (⟨"PlaneColours$Parting", "unmarkCycle", "()V"⟩, 11) := ⟨⟨by decide +kernel, by decide +kernel⟩, List.mem_of_getElem? (i := 191) (by decide +kernel), List.mem_of_getElem? (i := 683) (by decide +kernel), List.mem_of_getElem? (i := 684) (by decide +kernel)⟩
theorem lw_p26 : lw_okq (⟨"PlaneColours$Parting", "climbFrom", "(I)I"⟩, 11) := ⟨⟨by decide +kernel, by decide +kernel⟩, List.mem_of_getElem? (i := 191) (by decide +kernel), List.mem_of_getElem? (i := 687) (by decide +kernel), List.mem_of_getElem? (i := 688) (by decide +kernel)⟩
theorem lw_p27 : lw_okq (⟨"PlaneColours$Parting", "markFacesInside", "(I)V"⟩, 11) := ⟨⟨by decide +kernel, by decide +kernel⟩, List.mem_of_getElem? (i := 191) (by decide +kernel), List.mem_of_getElem? (i := 703) (by decide +kernel), List.mem_of_getElem? (i := 704) (by decide +kernel)⟩
theorem lw_p28 : lw_okq (⟨"PlaneColours$Parting", "addInside", "(I)V"⟩, 11) := ⟨⟨by decide +kernel, by decide +kernel⟩, List.mem_of_getElem? (i := 191) (by decide +kernel), List.mem_of_getElem? (i := 707) (by decide +kernel), List.mem_of_getElem? (i := 708) (by decide +kernel)⟩
theorem lw_p29 : lw_okq (⟨"PlaneColours$Parting", "addFacesBeside", "(I)V"⟩, 11) := ⟨⟨by decide +kernel, by decide +kernel⟩, List.mem_of_getElem? (i := 191) (by decide +kernel), List.mem_of_getElem? (i := 711) (by decide +kernel), List.mem_of_getElem? (i := 712) (by decide +kernel)⟩
theorem lw_p30 : lw_okq (⟨"PlaneColours$Parting", "countVertices", "(I)V"⟩, 11) := ⟨⟨by decide +kernel, by decide +kernel⟩, List.mem_of_getElem? (i := 191) (by decide +kernel), List.mem_of_getElem? (i := 716) (by decide +kernel), List.mem_of_getElem? (i := 717) (by decide +kernel)⟩
theorem lw_p31 : lw_okq (⟨"PlaneColoursModel", "isVertex", "(I)Z"⟩, 24) := ⟨⟨by decide +kernel, by decide +kernel⟩, List.mem_of_getElem? (i := 730) (by decide +kernel), List.mem_of_getElem? (i := 821) (by decide +kernel), List.mem_of_getElem? (i := 822) (by decide +kernel)⟩
def lw_privs_2 : List (MethodName × Nat) := [(⟨"PlaneColours$Colouring", "takeAll", "()I"⟩, 9), (⟨"PlaneColours$Colouring", "leastToTake", "()I"⟩, 9), (⟨"PlaneColours$Colouring", "neighboursLeft", "(I)I"⟩, 9), (⟨"PlaneColours$Colouring", "bringBack", "(I)V"⟩, 9), (⟨"PlaneColours$Colouring", "leastFreeColour", "(I)I"⟩, 9), (⟨"PlaneColours$Colouring", "colourFreedByChain", "(I)I"⟩, 9), (⟨"PlaneColours$Colouring", "listFiveRound", "(I)V"⟩, 9), (⟨"PlaneColours$Colouring", "addToChain", "(I)V"⟩, 9), (⟨"PlaneColours$Colouring", "addNeighboursOf", "(III)V"⟩, 9), (⟨"PlaneColours$Parting", "unmarkCycle", "()V"⟩, 11), (⟨"PlaneColours$Parting", "climbFrom", "(I)I"⟩, 11), (⟨"PlaneColours$Parting", "markFacesInside", "(I)V"⟩, 11), (⟨"PlaneColours$Parting", "addInside", "(I)V"⟩, 11), (⟨"PlaneColours$Parting", "addFacesBeside", "(I)V"⟩, 11), (⟨"PlaneColours$Parting", "countVertices", "(I)V"⟩, 11), (⟨"PlaneColoursModel", "isVertex", "(I)Z"⟩, 24)]
theorem lw_r2 : ∀ q ∈ lw_privs_2, lw_okq q := List.forall_mem_cons.mpr ⟨lw_p16, List.forall_mem_cons.mpr ⟨lw_p17, List.forall_mem_cons.mpr ⟨lw_p18, List.forall_mem_cons.mpr ⟨lw_p19, List.forall_mem_cons.mpr ⟨lw_p20, List.forall_mem_cons.mpr ⟨lw_p21, List.forall_mem_cons.mpr ⟨lw_p22, List.forall_mem_cons.mpr ⟨lw_p23, List.forall_mem_cons.mpr ⟨lw_p24, List.forall_mem_cons.mpr ⟨lw_p25, List.forall_mem_cons.mpr ⟨lw_p26, List.forall_mem_cons.mpr ⟨lw_p27, List.forall_mem_cons.mpr ⟨lw_p28, List.forall_mem_cons.mpr ⟨lw_p29, List.forall_mem_cons.mpr ⟨lw_p30, List.forall_mem_cons.mpr ⟨lw_p31, fun _ h => absurd h List.not_mem_nil⟩⟩⟩⟩⟩⟩⟩⟩⟩⟩⟩⟩⟩⟩⟩⟩
theorem lw_p32 : lw_okq (⟨"PlaneColoursModel", "isEdge", "(I)Z"⟩, 24) := ⟨⟨by decide +kernel, by decide +kernel⟩, List.mem_of_getElem? (i := 730) (by decide +kernel), List.mem_of_getElem? (i := 825) (by decide +kernel), List.mem_of_getElem? (i := 826) (by decide +kernel)⟩
theorem lw_p33 : lw_okq (⟨"PlaneColoursModel", "between", "(II)I"⟩, 24) := ⟨⟨by decide +kernel, by decide +kernel⟩, List.mem_of_getElem? (i := 730) (by decide +kernel), List.mem_of_getElem? (i := 829) (by decide +kernel), List.mem_of_getElem? (i := 830) (by decide +kernel)⟩
theorem lw_p34 : lw_okq (⟨"PlaneColoursModel", "far", "(II)I"⟩, 24) := ⟨⟨by decide +kernel, by decide +kernel⟩, List.mem_of_getElem? (i := 730) (by decide +kernel), List.mem_of_getElem? (i := 833) (by decide +kernel), List.mem_of_getElem? (i := 834) (by decide +kernel)⟩
theorem lw_p35 : lw_okq (⟨"PlaneColoursModel", "isRound", "(II)Z"⟩, 24) := ⟨⟨by decide +kernel, by decide +kernel⟩, List.mem_of_getElem? (i := 730) (by decide +kernel), List.mem_of_getElem? (i := 837) (by decide +kernel), List.mem_of_getElem? (i := 838) (by decide +kernel)⟩
theorem lw_p36 : lw_okq (⟨"PlaneColoursModel", "placeOf", "(II)I"⟩, 24) := ⟨⟨by decide +kernel, by decide +kernel⟩, List.mem_of_getElem? (i := 730) (by decide +kernel), List.mem_of_getElem? (i := 841) (by decide +kernel), List.mem_of_getElem? (i := 842) (by decide +kernel)⟩
theorem lw_p37 : lw_okq (⟨"PlaneColoursModel", "insert", "(III)V"⟩, 24) := ⟨⟨by decide +kernel, by decide +kernel⟩, List.mem_of_getElem? (i := 730) (by decide +kernel), List.mem_of_getElem? (i := 845) (by decide +kernel), List.mem_of_getElem? (i := 846) (by decide +kernel)⟩
theorem lw_p38 : lw_okq (⟨"PlaneColoursModel", "forget", "()V"⟩, 24) := ⟨⟨by decide +kernel, by decide +kernel⟩, List.mem_of_getElem? (i := 730) (by decide +kernel), List.mem_of_getElem? (i := 849) (by decide +kernel), List.mem_of_getElem? (i := 850) (by decide +kernel)⟩
theorem lw_p39 : lw_okq (⟨"PlaneColoursModel", "take", "(II)V"⟩, 24) := ⟨⟨by decide +kernel, by decide +kernel⟩, List.mem_of_getElem? (i := 730) (by decide +kernel), List.mem_of_getElem? (i := 857) (by decide +kernel), List.mem_of_getElem? (i := 858) (by decide +kernel)⟩
theorem lw_p40 : lw_okq (⟨"PlaneColoursModel", "findFaces", "()V"⟩, 24) := ⟨⟨by decide +kernel, by decide +kernel⟩, List.mem_of_getElem? (i := 730) (by decide +kernel), List.mem_of_getElem? (i := 877) (by decide +kernel), List.mem_of_getElem? (i := 878) (by decide +kernel)⟩
theorem lw_p41 : lw_okq (⟨"PlaneColoursModel", "nextSide", "(I)I"⟩, 24) := ⟨⟨by decide +kernel, by decide +kernel⟩, List.mem_of_getElem? (i := 730) (by decide +kernel), List.mem_of_getElem? (i := 881) (by decide +kernel), List.mem_of_getElem? (i := 882) (by decide +kernel)⟩
theorem lw_p42 : lw_okq (⟨"PlaneColoursModel", "origin", "(I)I"⟩, 24) := ⟨⟨by decide +kernel, by decide +kernel⟩, List.mem_of_getElem? (i := 730) (by decide +kernel), List.mem_of_getElem? (i := 885) (by decide +kernel), List.mem_of_getElem? (i := 886) (by decide +kernel)⟩
theorem lw_p43 : lw_okq (⟨"PlaneColoursModel", "sidesOf", "(I)I"⟩, 24) := ⟨⟨by decide +kernel, by decide +kernel⟩, List.mem_of_getElem? (i := 730) (by decide +kernel), List.mem_of_getElem? (i := 893) (by decide +kernel), List.mem_of_getElem? (i := 894) (by decide +kernel)⟩
theorem lw_p44 : lw_okq (⟨"PlaneColoursModel", "firstSide", "(I)I"⟩, 24) := ⟨⟨by decide +kernel, by decide +kernel⟩, List.mem_of_getElem? (i := 730) (by decide +kernel), List.mem_of_getElem? (i := 901) (by decide +kernel), List.mem_of_getElem? (i := 902) (by decide +kernel)⟩
theorem lw_p45 : lw_okq (⟨"PlaneColoursModel", "findTree", "()V"⟩, 24) := ⟨⟨by decide +kernel, by decide +kernel⟩, List.mem_of_getElem? (i := 730) (by decide +kernel), List.mem_of_getElem? (i := 909) (by decide +kernel), List.mem_of_getElem? (i := 910) (by decide +kernel)⟩
theorem lw_p46 : lw_okq (⟨"PlaneColoursModel", "spread", "(I)V"⟩, 24) := ⟨⟨by decide +kernel, by decide +kernel⟩, List.mem_of_getElem? (i := 730) (by decide +kernel), List.mem_of_getElem? (i := 913) (by decide +kernel), List.mem_of_getElem? (i := 914) (by decide +kernel)⟩
theorem lw_p47 : lw_okq (⟨"PlaneColoursModel", "genusOf", "()I"⟩, 24) := ⟨⟨by decide +kernel, by decide +kernel⟩, List.mem_of_getElem? (i := 730) (by decide +kernel), List.mem_of_getElem? (i := 921) (by decide +kernel), List.mem_of_getElem? (i := 922) (by decide +kernel)⟩
def lw_privs_3 : List (MethodName × Nat) := [(⟨"PlaneColoursModel", "isEdge", "(I)Z"⟩, 24), (⟨"PlaneColoursModel", "between", "(II)I"⟩, 24), (⟨"PlaneColoursModel", "far", "(II)I"⟩, 24), (⟨"PlaneColoursModel", "isRound", "(II)Z"⟩, 24), (⟨"PlaneColoursModel", "placeOf", "(II)I"⟩, 24), (⟨"PlaneColoursModel", "insert", "(III)V"⟩, 24), (⟨"PlaneColoursModel", "forget", "()V"⟩, 24), (⟨"PlaneColoursModel", "take", "(II)V"⟩, 24), (⟨"PlaneColoursModel", "findFaces", "()V"⟩, 24), (⟨"PlaneColoursModel", "nextSide", "(I)I"⟩, 24), (⟨"PlaneColoursModel", "origin", "(I)I"⟩, 24), (⟨"PlaneColoursModel", "sidesOf", "(I)I"⟩, 24), (⟨"PlaneColoursModel", "firstSide", "(I)I"⟩, 24), (⟨"PlaneColoursModel", "findTree", "()V"⟩, 24), (⟨"PlaneColoursModel", "spread", "(I)V"⟩, 24), (⟨"PlaneColoursModel", "genusOf", "()I"⟩, 24)]
theorem lw_r3 : ∀ q ∈ lw_privs_3, lw_okq q := List.forall_mem_cons.mpr ⟨lw_p32, List.forall_mem_cons.mpr ⟨lw_p33, List.forall_mem_cons.mpr ⟨lw_p34, List.forall_mem_cons.mpr ⟨lw_p35, List.forall_mem_cons.mpr ⟨lw_p36, List.forall_mem_cons.mpr ⟨lw_p37, List.forall_mem_cons.mpr ⟨lw_p38, List.forall_mem_cons.mpr ⟨lw_p39, List.forall_mem_cons.mpr ⟨lw_p40, List.forall_mem_cons.mpr ⟨lw_p41, List.forall_mem_cons.mpr ⟨lw_p42, List.forall_mem_cons.mpr ⟨lw_p43, List.forall_mem_cons.mpr ⟨lw_p44, List.forall_mem_cons.mpr ⟨lw_p45, List.forall_mem_cons.mpr ⟨lw_p46, List.forall_mem_cons.mpr ⟨lw_p47, fun _ h => absurd h List.not_mem_nil⟩⟩⟩⟩⟩⟩⟩⟩⟩⟩⟩⟩⟩⟩⟩⟩
theorem lw_p48 : lw_okq (⟨"PlaneColoursModel", "around", "(I)I"⟩, 24) := ⟨⟨by decide +kernel, by decide +kernel⟩, List.mem_of_getElem? (i := 730) (by decide +kernel), List.mem_of_getElem? (i := 933) (by decide +kernel), List.mem_of_getElem? (i := 934) (by decide +kernel)⟩
theorem lw_p49 : lw_okq (⟨"PlaneColoursModel", "freeColour", "(I)I"⟩, 24) := ⟨⟨by decide +kernel, by decide +kernel⟩, List.mem_of_getElem? (i := 730) (by decide +kernel), List.mem_of_getElem? (i := 937) (by decide +kernel), List.mem_of_getElem? (i := 938) (by decide +kernel)⟩
theorem lw_p50 : lw_okq (⟨"PlaneColoursModel", "makeFree", "(I)I"⟩, 24) := ⟨⟨by decide +kernel, by decide +kernel⟩, List.mem_of_getElem? (i := 730) (by decide +kernel), List.mem_of_getElem? (i := 941) (by decide +kernel), List.mem_of_getElem? (i := 942) (by decide +kernel)⟩
theorem lw_p51 : lw_okq (⟨"PlaneColoursModel", "neighbour", "(II)I"⟩, 24) := ⟨⟨by decide +kernel, by decide +kernel⟩, List.mem_of_getElem? (i := 730) (by decide +kernel), List.mem_of_getElem? (i := 945) (by decide +kernel), List.mem_of_getElem? (i := 946) (by decide +kernel)⟩
theorem lw_p52 : lw_okq (⟨"PlaneColoursModel", "findChain", "(III)V"⟩, 24) := ⟨⟨by decide +kernel, by decide +kernel⟩, List.mem_of_getElem? (i := 730) (by decide +kernel), List.mem_of_getElem? (i := 949) (by decide +kernel), List.mem_of_getElem? (i := 950) (by decide +kernel)⟩
theorem lw_p53 : lw_okq (⟨"PlaneColoursModel", "changeChain", "(II)V"⟩, 24) := ⟨⟨by decide +kernel, by decide +kernel⟩, List.mem_of_getElem? (i := 730) (by decide +kernel), List.mem_of_getElem? (i := 953) (by decide +kernel), List.mem_of_getElem? (i := 954) (by decide +kernel)⟩
theorem lw_p54 : lw_okq (⟨"PlaneColoursModel", "colourCount", "()I"⟩, 24) := ⟨⟨by decide +kernel, by decide +kernel⟩, List.mem_of_getElem? (i := 730) (by decide +kernel), List.mem_of_getElem? (i := 957) (by decide +kernel), List.mem_of_getElem? (i := 958) (by decide +kernel)⟩
theorem lw_p55 : lw_okq (⟨"PlaneColoursModel", "isTree", "(I)Z"⟩, 24) := ⟨⟨by decide +kernel, by decide +kernel⟩, List.mem_of_getElem? (i := 730) (by decide +kernel), List.mem_of_getElem? (i := 981) (by decide +kernel), List.mem_of_getElem? (i := 982) (by decide +kernel)⟩
theorem lw_p56 : lw_okq (⟨"PlaneColoursModel", "findCycle", "(I)I"⟩, 24) := ⟨⟨by decide +kernel, by decide +kernel⟩, List.mem_of_getElem? (i := 730) (by decide +kernel), List.mem_of_getElem? (i := 985) (by decide +kernel), List.mem_of_getElem? (i := 986) (by decide +kernel)⟩
theorem lw_p57 : lw_okq (⟨"PlaneColoursModel", "depth", "(I)I"⟩, 24) := ⟨⟨by decide +kernel, by decide +kernel⟩, List.mem_of_getElem? (i := 730) (by decide +kernel), List.mem_of_getElem? (i := 989) (by decide +kernel), List.mem_of_getElem? (i := 990) (by decide +kernel)⟩
theorem lw_p58 : lw_okq (⟨"PlaneColoursModel", "findInside", "(I)V"⟩, 24) := ⟨⟨by decide +kernel, by decide +kernel⟩, List.mem_of_getElem? (i := 730) (by decide +kernel), List.mem_of_getElem? (i := 997) (by decide +kernel), List.mem_of_getElem? (i := 998) (by decide +kernel)⟩
theorem lw_p59 : lw_okq (⟨"PlaneColoursModel", "countSide", "(IZ)I"⟩, 24) := ⟨⟨by decide +kernel, by decide +kernel⟩, List.mem_of_getElem? (i := 730) (by decide +kernel), List.mem_of_getElem? (i := 1001) (by decide +kernel), List.mem_of_getElem? (i := 1002) (by decide +kernel)⟩
def lw_privs_4 : List (MethodName × Nat) := [(⟨"PlaneColoursModel", "around", "(I)I"⟩, 24), (⟨"PlaneColoursModel", "freeColour", "(I)I"⟩, 24), (⟨"PlaneColoursModel", "makeFree", "(I)I"⟩, 24), (⟨"PlaneColoursModel", "neighbour", "(II)I"⟩, 24), (⟨"PlaneColoursModel", "findChain", "(III)V"⟩, 24), (⟨"PlaneColoursModel", "changeChain", "(II)V"⟩, 24), (⟨"PlaneColoursModel", "colourCount", "()I"⟩, 24), (⟨"PlaneColoursModel", "isTree", "(I)Z"⟩, 24), (⟨"PlaneColoursModel", "findCycle", "(I)I"⟩, 24), (⟨"PlaneColoursModel", "depth", "(I)I"⟩, 24), (⟨"PlaneColoursModel", "findInside", "(I)V"⟩, 24), (⟨"PlaneColoursModel", "countSide", "(IZ)I"⟩, 24)]
theorem lw_r4 : ∀ q ∈ lw_privs_4, lw_okq q := List.forall_mem_cons.mpr ⟨lw_p48, List.forall_mem_cons.mpr ⟨lw_p49, List.forall_mem_cons.mpr ⟨lw_p50, List.forall_mem_cons.mpr ⟨lw_p51, List.forall_mem_cons.mpr ⟨lw_p52, List.forall_mem_cons.mpr ⟨lw_p53, List.forall_mem_cons.mpr ⟨lw_p54, List.forall_mem_cons.mpr ⟨lw_p55, List.forall_mem_cons.mpr ⟨lw_p56, List.forall_mem_cons.mpr ⟨lw_p57, List.forall_mem_cons.mpr ⟨lw_p58, List.forall_mem_cons.mpr ⟨lw_p59, fun _ h => absurd h List.not_mem_nil⟩⟩⟩⟩⟩⟩⟩⟩⟩⟩⟩⟩
def lw_privs : List (MethodName × Nat) := lw_privs_1 ++ (lw_privs_2 ++ (lw_privs_3 ++ (lw_privs_4)))
def lw_tbl : List Cond := k2_sels lw_privs ++ tables_1
theorem lw_privs_ok : ∀ q ∈ lw_privs, lw_okq q := by
  show ∀ q ∈ lw_privs_1 ++ (lw_privs_2 ++ (lw_privs_3 ++ (lw_privs_4))), lw_okq q
  exact List.forall_mem_append.mpr ⟨lw_r1, List.forall_mem_append.mpr ⟨lw_r2, List.forall_mem_append.mpr ⟨lw_r3, lw_r4⟩⟩⟩
end
section
/-! ===== BEGIN words of one list among another's, by their places ===== -/
theorem goodIn_r {big : List Cond} (ws : List Cond) (ps : List Nat) (hp : ws = ps.filterMap (fun i => big[i]?)) (h : ws.all goodWord = true) : GoodIn big ws := by
  intro w hw
  have h1 := List.all_eq_true.mp h w hw
  rw [hp] at hw
  obtain ⟨i, -, hi⟩ := List.mem_filterMap.mp hw
  have hm : w ∈ big := by first | exact List.mem_of_getElem? hi | exact List.getElem?_mem hi
  exact ⟨hm, good_of_word h1⟩
theorem goodIn_app {big a b : List Cond} (ha : GoodIn big a) (hb : GoodIn big b) : GoodIn big (a ++ b) := fun w h => (List.mem_append.mp h).elim (ha w) (hb w)
theorem goodIn_ca {big a b : List Cond} {c : Cond} (ha : GoodIn big (c :: a)) (hb : GoodIn big b) : GoodIn big (c :: (a ++ b)) := fun w h => (List.mem_cons.mp h).elim (fun e => ha w (List.mem_cons.mpr (Or.inl e))) (fun h => (List.mem_append.mp h).elim (fun h => ha w (List.mem_cons.mpr (Or.inr h))) (hb w))
theorem goodIn_sub {big ws : List Cond} (hm : ∀ w ∈ ws, w ∈ big) (h : ws.all goodWord = true) : GoodIn big ws := fun w hw => ⟨hm w hw, good_of_word (List.all_eq_true.mp h w hw)⟩
/-! ===== END ===== -/

/-! ===== BEGIN exceptions that leave a method, and their catching by the caller (launches without stack traces) ===== -/
section VXA
/-! The laws vx_back, vx_callV, vx_callS, vx_callSW, vx_throw0, vx_throwS follow proofs of the library, with one case more: JvmDerived/Free/Laws.lean (Back.of_free), Shelf42/LK1.lean (callV, callS), Shelf/KitTraced.lean (throwNew0V, throwNewS). -/
/-- where a method has thrown q: the class by its name, the cell, what was written, the world -/
def vx_T (XC : String → State → State → Prop) (st : State) (q : Addr) (t : State) (mc ms : Nat) (free : Addr → Prop) : Prop :=
  ∃ (E : String) (ce : Cell) (L : List Loc), XC E st t ∧ t.heap[q]? = some ce ∧ ce.vm = .none ∧ st.vm.findClass E = some ce.cls ∧ st.WarmedH t.vm ∧ st.sameButNew ({ t with vm := st.vm } : State) L mc ms ∧ ∀ z ∈ L, free z.base
def vx_Q (Qc : Array Value → State → Outcome → State → Prop) (XC : String → State → State → Prop) (mc ms : Nat) (free : Addr → Prop) : Array Value → State → Outcome → State → Prop := fun a st o t =>
  (Qc a st o t ∧ ∃ L, FrameEnd st o t L mc ms ∧ ∀ q ∈ L, free q.base) ∨ ∃ q, o = .threw q ∧ vx_T XC st q t mc ms free
/-- a callee that returns or throws -/
def vx_Met (l : Launch) (y : MethodName) (ws : List Cond) (rm : Room) (Pc : Array Value → State → Prop) (Qc : Array Value → State → Outcome → State → Prop) (XC : String → State → State → Prop) (mc ms : Nat) (free : Addr → Prop) : Prop :=
  MetFree l y (headSpec ws rm) Pc (fun _ _ _ _ _ => True) (vx_Q Qc XC mc ms free)
def vx_Post (XC : String → State → State → Prop) (mc ms : Nat) (free : Addr → Prop) : Pt → Array Value → Addr → Pt → Prop := fun A a q B =>
  ∃ (g : JFrame) (mk : MethodId) (t : State) (L : List Loc) (E : String) (ce : Cell), B.U.heap = t.heap ∧ B.U.vm = t.vm ∧ XC E (A.U.calling g mk a) t ∧ t.heap[q]? = some ce ∧ ce.vm = .none ∧ A.U.vm.findClass E = some ce.cls ∧ B.locs = A.locs ++ L ∧ (∀ z ∈ L, free z.base) ∧ B.cells = A.cells + mc ∧ B.slots = A.slots + ms
def vx_Back (l : Launch) (R : Room) (p : Program) (e : Env) (below : List Frame) (s : State) (sargs : Array Value) (y : MethodName) (len W9 : Nat)
    (Pre : Pt → Array Value → Prop) (Post : Pt → Array Value → Option Value → Pt → Prop) (PostX : Pt → Array Value → Addr → Pt → Prop) : Prop :=
  ∀ (m : MethodId) (meth : Method) (c : Code) (A : Pt) (g : JFrame) (ig : Instr) (mk : MethodId) (a : Array Value),
    Stand p l e R s m sargs below meth c A.U A.locs A.cells A.slots → g.method = m → g.locals.size = c.maxLocals → decode c.code g.pc = .ok (ig, len) →
    2 * g.monitorRoom + (g.stack.map fun v => v.category).sum ≤ W9 → A.U.methodNamed? y = some mk → Pre A a →
    (∃ (v : Option Value) (B : Pt), Stand p l e R s m sargs below meth c B.U B.locs B.cells B.slots ∧ Post A a v B ∧
      Steps p.tables e below (doInvoke e (A.U.setTop g) [] mk a).1 (B.U.setTop { g with pc := g.pc + len, stack := v.toList ++ g.stack })) ∨
    (∃ (q : Addr) (B : Pt), Stand p l e R s m sargs below meth c B.U B.locs B.cells B.slots ∧ PostX A a q B ∧
      Steps p.tables e below (doInvoke e (A.U.setTop g) [] mk a).1 ((B.U.setTop g).pushFrame (.throwing q)))
section Payer
variable {l : Launch} {R : Room} {p : Program} {e : Env} {below : List Frame} {s : State} {sargs : Array Value} {y : MethodName} {len W9 : Nat}
theorem vx_back {ws : List Cond} {rm : Room} {Pc : Array Value → State → Prop} {Qc : Array Value → State → Outcome → State → Prop} {XC : String → State → State → Prop} {mc ms : Nat} {free : Addr → Prop} {bytes : ByteArray} {maxL : Nat} {ret : Option FieldType}
    (hM : vx_Met l y ws rm Pc Qc XC mc ms free) (hblind : FrameBlind Pc) (hrc : rm.cells = mc) (hrs : rm.slots = ms)
    (hframes : rm.frames + 1 ≤ R.frames) (hlocals : W9 + (maxL + 11) + rm.locals ≤ R.locals)
    (hws : ∀ w ∈ ws, ∀ a' U, s.WarmedH U.vm → w.before a' U = true) (hcode : Cond.code y bytes maxL ret ∈ ws) (hinit : ∀ a' U, s.WarmedH U.vm → (Cond.initialized y.cls).before a' U = true) :
    vx_Back l R p e below s sargs y len W9 (PreOf R mc ms Pc) (PostOf Qc mc ms free) (vx_Post XC mc ms free) := by
  intro m meth c A g ig mk a X hg hsize hdg hW hn hp
  have h1 : (headSpec ws rm).pre.before a A.U = true := atoms_intro fun w hw => hws w hw _ _ X.warmed
  have h2 : (Cond.code y bytes maxL ret).before a A.U = true := hws _ hcode _ _ X.warmed
  have h3 : (Cond.initialized y.cls).before a A.U = true := hinit _ _ X.warmed
  have h4 : A.cells + (headSpec ws rm).room.cells ≤ R.cells := by rw [show (headSpec ws rm).room.cells = mc from hrc]; exact hp.1
  have h5 : A.slots + (headSpec ws rm).room.slots ≤ R.slots := by rw [show (headSpec ws rm).room.slots = ms from hrs]; exact hp.2.1
  have hPc : Pc a (A.U.calling g mk a) := hblind _ _ _ _ hp.2.2
  obtain ⟨U, Ls, c0, s0⟩ := A
  dsimp only [Pt.U, Pt.locs, Pt.cells, Pt.slots] at h1 h2 h3 h4 h5 X hn hPc ⊢
  obtain ⟨methY, cY, hmY, hcY, -, hlY, -, -, -, -⟩ := Cond.code_spec hn h2
  obtain ⟨kY, hkY, -⟩ := className_of_methodNamed hn
  have hinitY : kY.init = .initialized := Cond.initialized_spec (findClass_of_methodNamed hn) hkY h3
  have h : At U g.method c below := by rw [hg]; exact X.here
  have hlocals9 : W9 + (maxL + 11) + (headSpec ws rm).room.locals ≤ R.locals := hlocals
  have happ : (headSpec ws rm).appliesLoose y e.platform (U.calling g mk a) = true :=
    Spec.appliesLoose_calling (g := g) h hdg hn hkY hinitY
      (X.room_calling (g := g) (R' := (headSpec ws rm).room) hsize hmY hcY hframes (by rw [hlY]; omega) h4 h5) h1
  obtain ⟨mid, hmid⟩ := h.above
  have hfr : (U.setTop g).frames = (.java g :: mid) ++ below := by rw [State.frames_setTop' g h.top, hmid]; rfl
  obtain ⟨o, s₂, hsteps, -, hend, hq⟩ := Steps.callFree hM p X.admits X.cas X.clock (acts := []) hfr happ hPc trivial
  have hq' : vx_Q Qc XC mc ms free a (U.calling g mk a) o s₂ := hq
  rw [State.frames_setTop' g h.top] at hend
  obtain ⟨g₀, hg0⟩ := Option.isSome_iff_exists.mp h.top
  obtain ⟨r, hr⟩ := State.topJava?_eq_some.mp hg0
  have hr' : (({ U with heap := s₂.heap, slotsUsed := s₂.slotsUsed } : State).setVm s₂.vm).frames = .java g₀ :: r := hr
  rcases hq' with ⟨hqc, L, hfe, hL⟩ | ⟨q, rfl, E, ce, L, hx, hce, hcv, hcl, hW₂, hsm, hL⟩
  · obtain ⟨⟨v, rfl⟩, hW₂, e2, q2, q3, q4, q5, q6⟩ := id hfe
    have e3 : s₂ = ({ (U.calling g mk a).setFrames s₂.frames with heap := s₂.heap, slotsUsed := s₂.slotsUsed } : State).setVm s₂.vm := by
      have : s₂ = ({ s₂ with vm := (U.calling g mk a).vm } : State).setVm s₂.vm := rfl
      rw [e2] at this
      exact this
    obtain ⟨c₂, i₂, len₂, hc₂, hd₂, hf₂⟩ := hend
    have hW' : U.WarmedH s₂.vm := hW₂
    have hcc : c₂ = c := by
      have h1 : s₂.code? g.method = U.code? g.method := by
        rw [State.code?_eq, State.code?_eq, hW'.alike.method?]
      exact Option.some.inj (hc₂.symm.trans (h1.trans h.code))
    subst hcc
    have hlen : len₂ = len := by rw [hdg] at hd₂; cases hd₂; rfl
    subst hlen
    have hs₂ : s₂ = (({ U with heap := s₂.heap, slotsUsed := s₂.slotsUsed } : State).setVm s₂.vm).setTop { g with pc := g.pc + len₂, stack := v.toList ++ g.stack } := by
      refine e3.trans ?_
      rw [hf₂, State.calling_eq h.top, State.setFrames_setFrames, State.setTop_of_frames _ hr', hr]
      rfl
    have hsame : U.sameButNew ({ U with heap := s₂.heap, slotsUsed := s₂.slotsUsed } : State) L mc ms := by
      refine ⟨?_, q2, q3, q4, q5, q6⟩
      obtain ⟨t, ht, -⟩ := State.frames_cons hr
      show ({ U with heap := s₂.heap, slotsUsed := s₂.slotsUsed } : State) = { U.setFrames U.frames with heap := s₂.heap, slotsUsed := s₂.slotsUsed }
      rw [State.setFrames_self ht]
    subst hg
    refine Or.inl ⟨v, ⟨(({ U with heap := s₂.heap, slotsUsed := s₂.slotsUsed } : State).setVm s₂.vm), Ls ++ L, c0 + mc, s0 + ms⟩,
      ⟨X.admits, X.cas, X.clock, X.frames, X.room, X.hears, X.method, X.code, (X.here.setHeapUsed s₂.heap s₂.slotsUsed).setVm hW'.alike, X.tail, State.WarmedH.trans X.warmed hW', X.limits, X.bytes, X.same.trans (hsame.setVm s.vm)⟩,
      ⟨g, mk, s₂, L, rfl, rfl, hqc, rfl, hL, rfl, rfl⟩, ?_⟩
    show Steps p.tables e below _ ((({ U with heap := s₂.heap, slotsUsed := s₂.slotsUsed } : State).setVm s₂.vm).setTop { g with pc := g.pc + len₂, stack := v.toList ++ g.stack })
    rw [← hs₂]
    exact hsteps
  · obtain ⟨e2, q2, q3, q4, q5, q6⟩ := id hsm
    have e3 : s₂ = ({ (U.calling g mk a).setFrames s₂.frames with heap := s₂.heap, slotsUsed := s₂.slotsUsed } : State).setVm s₂.vm := by
      have : s₂ = ({ s₂ with vm := (U.calling g mk a).vm } : State).setVm s₂.vm := rfl
      rw [e2] at this
      exact this
    have hf₂ : s₂.frames = .throwing q :: .java g :: U.frames.tail := hend
    have hW' : U.WarmedH s₂.vm := hW₂
    have hs₂ : s₂ = ((({ U with heap := s₂.heap, slotsUsed := s₂.slotsUsed } : State).setVm s₂.vm).setTop g).pushFrame (.throwing q) := by
      refine e3.trans ?_
      rw [hf₂, State.calling_eq h.top, State.setFrames_setFrames, State.pushFrame, State.frames_setTop _ hr', State.setTop_of_frames _ hr', State.setFrames_setFrames, hr]
      rfl
    have hsame : U.sameButNew ({ U with heap := s₂.heap, slotsUsed := s₂.slotsUsed } : State) L mc ms := by
      refine ⟨?_, q2, q3, q4, q5, q6⟩
      obtain ⟨t, ht, -⟩ := State.frames_cons hr
      show ({ U with heap := s₂.heap, slotsUsed := s₂.slotsUsed } : State) = { U.setFrames U.frames with heap := s₂.heap, slotsUsed := s₂.slotsUsed }
      rw [State.setFrames_self ht]
    subst hg
    refine Or.inr ⟨q, ⟨(({ U with heap := s₂.heap, slotsUsed := s₂.slotsUsed } : State).setVm s₂.vm), Ls ++ L, c0 + mc, s0 + ms⟩,
      ⟨X.admits, X.cas, X.clock, X.frames, X.room, X.hears, X.method, X.code, (X.here.setHeapUsed s₂.heap s₂.slotsUsed).setVm hW'.alike, X.tail, State.WarmedH.trans X.warmed hW', X.limits, X.bytes, X.same.trans (hsame.setVm s.vm)⟩,
      ⟨g, mk, s₂, L, E, ce, rfl, rfl, hx, hce, hcv, hcl, rfl, hL, rfl, rfl⟩, ?_⟩
    show Steps p.tables e below _ (((({ U with heap := s₂.heap, slotsUsed := s₂.slotsUsed } : State).setVm s₂.vm).setTop g).pushFrame (.throwing q))
    rw [← hs₂]
    exact hsteps
end Payer
section Calls
variable {p : Program} {l : Launch} {e : Env} {R : Room} {s : State} {m : MethodId} {args : Array Value} {below : List Frame} {meth : Method} {c : Code} {T : State} {locs : List Loc} {cells slots : Nat}
theorem vx_callV (X : Stand p l e R s m args below meth c T locs cells slots) (hexec : p.tables.exec = Jvm.exec) {own C : String} {index : Nat} {y : MethodName} {bytes : ByteArray} {maxL : Nat} {ret : Option FieldType}
    (hown : s.vm.findClass own = some m.cls) (hlink : (Cond.methodLink own index y).before args s = true) (hinst : (Cond.instanceMethod y).before args s = true) (hsel : (Cond.selects C y y).before args s = true)
    (hcode : (Cond.code y bytes maxL ret).before args s = true) (hy : y.cls ≠ "java/lang/invoke/MethodHandle" ∧ y.cls ≠ "java/lang/invoke/VarHandle")
    {W9 : Nat} {Pre : Pt → Array Value → Prop} {Post : Pt → Array Value → Option Value → Pt → Prop} {PostX : Pt → Array Value → Addr → Pt → Prop} (hK : vx_Back l R p e below s args y 3 W9 Pre Post PostX)
    {b : Addr} {cellB : Cell} (hcell : T.heap[b]? = some cellB) (hobj : cellB.vm.isStatics = false) (hcls : s.vm.findClass C = some cellB.cls)
    {g : JFrame} (hg : g.method = m) (hsize : g.locals.size = c.maxLocals) {argsL rest : List Value} (hlen : ∀ sig, parseMethodDescriptor y.desc = some sig → argsL.length = sig.parameters.length)
    (hstack : g.stack = argsL.reverse ++ .ref b :: rest) (hW : 2 * g.monitorRoom + (rest.map fun v => v.category).sum ≤ W9) (hdg : decode c.code g.pc = .ok (.invokevirtual index, 3))
    (hpre : ∀ vm₁, s.WarmedH vm₁ → Pre ⟨T.setVm vm₁, locs, cells, slots⟩ (Value.ref b :: argsL).toArray) :
    (∃ (v : Option Value) (vm₁ : Vm) (B : Pt), s.WarmedH vm₁ ∧ Stand p l e R s m args below meth c B.U B.locs B.cells B.slots ∧ Post ⟨T.setVm vm₁, locs, cells, slots⟩ (Value.ref b :: argsL).toArray v B ∧
      ∀ target, Steps p.tables e below (B.U.setTop { g with pc := g.pc + 3, stack := v.toList ++ rest }) target → Steps p.tables e below (T.setTop g) target) ∨
    (∃ (q : Addr) (vm₁ : Vm) (B : Pt), s.WarmedH vm₁ ∧ Stand p l e R s m args below meth c B.U B.locs B.cells B.slots ∧ PostX ⟨T.setVm vm₁, locs, cells, slots⟩ (Value.ref b :: argsL).toArray q B ∧
      Steps p.tables e below (T.setTop g) ((B.U.setTop { g with stack := rest }).pushFrame (.throwing q))) := by
  obtain ⟨mk, methM, hnamed, hmethM, hstM, habM⟩ := Cond.instanceMethod_spec hinst
  obtain ⟨methM', cM, hmethM', -, -, -, -, -, -, hsigM⟩ := Cond.code_spec hnamed hcode
  cases hmethM.symm.trans hmethM'
  obtain ⟨c2, r2, m2, q1, q2, q3, q4, kP, hkP, hkPi⟩ := Cond.selects_spec hsel
  cases hcls.symm.trans q1
  cases (State.methodFound?_of_named hnamed hy).symm.trans q2
  cases hnamed.symm.trans q3
  have hselP : selectMethod e.platform s.vm cellB.cls mk = .method mk := by rw [Launch.admits_selectMethod X.admits]; exact q4
  obtain ⟨vm₁, X₁, hstep₁⟩ := X.invokevirtual hexec hown hlink hnamed hmethM hstM hkP hkPi hy (a := b) (cell := cellB) hcell
    (fun z h => by rw [h] at hobj; cases hobj) hselP hmethM habM hkP hkPi (g := g) hg (argsL := argsL) (rest := rest) (hlen _ hsigM) hstack hdg
  rcases hK m meth c ⟨T.setVm vm₁, locs, cells, slots⟩ { g with stack := rest } (.invokevirtual index) mk (Value.ref b :: argsL).toArray X₁ hg hsize hdg hW (X₁.named hnamed) (hpre vm₁ X₁.warmed) with ⟨v, B, X', hpost, hsteps⟩ | ⟨q, B, X', hpost, hsteps⟩
  · exact Or.inl ⟨v, vm₁, B, X₁.warmed, X', hpost, fun target h => hstep₁ _ fun acts => by rw [doInvoke_state]; exact hsteps.trans h⟩
  · exact Or.inr ⟨q, vm₁, B, X₁.warmed, X', hpost, hstep₁ _ fun acts => by rw [doInvoke_state]; exact hsteps⟩
theorem vx_callS (X : Stand p l e R s m args below meth c T locs cells slots) (hexec : p.tables.exec = Jvm.exec) {own : String} {index : Nat} {y : MethodName} {bytes : ByteArray} {maxL : Nat} {ret : Option FieldType}
    (hown : s.vm.findClass own = some m.cls) (hlink : (Cond.methodLink own index y).before args s = true) (hstat : (Cond.static y).before args s = true) (hinit : (Cond.initialized y.cls).before args s = true)
    (hcode : (Cond.code y bytes maxL ret).before args s = true) (hy : y.cls ≠ "java/lang/invoke/MethodHandle" ∧ y.cls ≠ "java/lang/invoke/VarHandle")
    {W9 : Nat} {Pre : Pt → Array Value → Prop} {Post : Pt → Array Value → Option Value → Pt → Prop} {PostX : Pt → Array Value → Addr → Pt → Prop} (hK : vx_Back l R p e below s args y 3 W9 Pre Post PostX)
    {g : JFrame} (hg : g.method = m) (hsize : g.locals.size = c.maxLocals) {argsL rest : List Value} (hlen : ∀ sig, parseMethodDescriptor y.desc = some sig → argsL.length = sig.parameters.length)
    (hstack : g.stack = argsL.reverse ++ rest) (hW : 2 * g.monitorRoom + (rest.map fun v => v.category).sum ≤ W9) (hdg : decode c.code g.pc = .ok (.invokestatic index, 3))
    (hpre : ∀ vm₁, s.WarmedH vm₁ → Pre ⟨T.setVm vm₁, locs, cells, slots⟩ argsL.toArray) :
    (∃ (v : Option Value) (vm₁ : Vm) (B : Pt), s.WarmedH vm₁ ∧ Stand p l e R s m args below meth c B.U B.locs B.cells B.slots ∧ Post ⟨T.setVm vm₁, locs, cells, slots⟩ argsL.toArray v B ∧
      ∀ target, Steps p.tables e below (B.U.setTop { g with pc := g.pc + 3, stack := v.toList ++ rest }) target → Steps p.tables e below (T.setTop g) target) ∨
    (∃ (q : Addr) (vm₁ : Vm) (B : Pt), s.WarmedH vm₁ ∧ Stand p l e R s m args below meth c B.U B.locs B.cells B.slots ∧ PostX ⟨T.setVm vm₁, locs, cells, slots⟩ argsL.toArray q B ∧
      Steps p.tables e below (T.setTop g) ((B.U.setTop { g with stack := rest }).pushFrame (.throwing q))) := by
  obtain ⟨mk, hnamed⟩ := Cond.code_named hcode
  obtain ⟨methM, cM, hmethM, -, -, -, -, -, -, hsigM⟩ := Cond.code_spec hnamed hcode
  have hstatic : methM.isStatic = true := Cond.static_spec hnamed hmethM hstat
  obtain ⟨kP, hkP, -⟩ := className_of_methodNamed hnamed
  have hinitP : kP.init = .initialized := Cond.initialized_spec (findClass_of_methodNamed hnamed) hkP hinit
  obtain ⟨vm₁, X₁, hstep₁⟩ := X.invokestatic hexec hown hlink hnamed hmethM hstatic hkP hinitP hy (g := g) hg (argsL := argsL) (rest := rest) (hlen _ hsigM) hstack hdg
  rcases hK m meth c ⟨T.setVm vm₁, locs, cells, slots⟩ { g with stack := rest } (.invokestatic index) mk argsL.toArray X₁ hg hsize hdg hW (X₁.named hnamed) (hpre vm₁ X₁.warmed) with ⟨v, B, X', hpost, hsteps⟩ | ⟨q, B, X', hpost, hsteps⟩
  · exact Or.inl ⟨v, vm₁, B, X₁.warmed, X', hpost, fun target h => hstep₁ _ fun acts => by rw [doInvoke_state]; exact hsteps.trans h⟩
  · exact Or.inr ⟨q, vm₁, B, X₁.warmed, X', hpost, hstep₁ _ fun acts => by rw [doInvoke_state]; exact hsteps⟩
end Calls
theorem vx_cls {s : State} {T : State} {vm₁ : Vm} {E : String} {k : ClassId} (hW : s.WarmedH vm₁) (h : (T.setVm vm₁).vm.findClass E = some k) : s.vm.findClass E = some k := by
  have h1 : vm₁.findClass E = some k := h
  rw [hW.alike.findClass] at h1
  exact h1
/-- the method's frame g, with q thrown over it -/
def vx_W (p : Program) (l : Launch) (e : Env) (R : Room) (s : State) (m : MethodId) (args : Array Value) (below : List Frame) (meth : Method) (c : Code) (H : Heap) (locs : List Loc) (cells slots : Nat) (Q : State → Prop) (g : JFrame) (q : Addr) : Prop :=
  ∀ T : State, T.heap = H → Stand p l e R s m args below meth c T locs cells slots → ∃ t, Steps p.tables e below ((T.setTop g).pushFrame (.throwing q)) t ∧ Q t
def vx_Run (p : Program) (l : Launch) (e : Env) (R : Room) (s : State) (m : MethodId) (args : Array Value) (below : List Frame) (meth : Method) (c : Code) (H : Heap) (locs : List Loc) (cells slots mc ms : Nat) (g : JFrame) (rest : List Value) (Qa : State → Outcome → State → Prop) (XC : String → State → State → Prop) (free : Addr → Prop) : Prop :=
  ∀ T : State, T.heap = H → Stand p l e R s m args below meth c T locs cells slots →
    (∃ (v : Option Value) (st₀ t T' : State) (L : List Loc), st₀.heap = H ∧ Stand p l e R s m args below meth c T' (locs ++ L) (cells + mc) (slots + ms) ∧ (∀ q ∈ L, free q.base) ∧ T'.heap = t.heap ∧ T'.vm = t.vm ∧ Qa st₀ (.returned v) t ∧
      Goes p e below T g T' { g with pc := g.pc + 3, stack := v.toList ++ rest }) ∨
    (∃ (q : Addr) (st₀ t T' : State) (L : List Loc) (E : String) (ce : Cell), st₀.heap = H ∧ Stand p l e R s m args below meth c T' (locs ++ L) (cells + mc) (slots + ms) ∧ (∀ z ∈ L, free z.base) ∧ T'.heap = t.heap ∧ T'.vm = t.vm ∧ XC E st₀ t ∧ t.heap[q]? = some ce ∧ ce.vm = .none ∧ s.vm.findClass E = some ce.cls ∧
      Steps p.tables e below (T.setTop g) ((T'.setTop { g with stack := rest }).pushFrame (.throwing q)))
def vx_X {S : Type} (px : S → Prop) (B : String → S → State → Prop) (A : Nat → Prop) : String → State → State → Prop := fun E st t => ∃ u : S, px u ∧ B E u t ∧ va_F A st t
section Runs
variable {p : Program} {l : Launch} {e : Env} {R : Room} {s : State} {m : MethodId} {args : Array Value} {below : List Frame} {meth : Method} {c : Code} {H : Heap} {locs : List Loc} {cells slots : Nat}
variable {y : MethodName} {bytes cc : ByteArray} {maxL nL mc ms n index : Nat} {ret : Option FieldType} {ws : List Cond} {rm : Room} {Pc : Array Value → State → Prop} {Qc : Array Value → State → Outcome → State → Prop} {XC : String → State → State → Prop} {free : Addr → Prop} {Ts : List Cond} {own C : String} {b : Addr} {As rest : List Value} {g : JFrame}
theorem vx_callBack (cb : CallB R s args own index y bytes maxL ret ws rm mc ms n) (hM : vx_Met l y ws rm Pc Qc XC mc ms free) (hbl : FrameBlind Pc) : vx_Back l R p e below s args y 3 8 (PreOf R mc ms Pc) (PostOf Qc mc ms free) (vx_Post XC mc ms free) := by
  obtain ⟨hrc, hrs, hfr, hlo, hws, hcw, -, hini, -⟩ := cb
  exact vx_back (bytes := bytes) (maxL := maxL) (ret := ret) hM hbl hrc hrs hfr hlo hws hcw (fun a' U hW => word_at hW (Or.inl (by first | rfl | simp [Cond.onTables, Cond.keeps, Cond.steady])) hini)
theorem vx_runV (S : CallFix p m c cc nL s args Ts own) (hM : vx_Met l y ws rm Pc Qc XC mc ms free) (cw : CallW R s args own C index y bytes maxL ret ws rm mc ms n) (hp : PreV s H C b Pc As)
    (hg : g.method = m) (hn : As.length = n) (hsize : g.locals.size = nL) (hstack : g.stack = As.reverse ++ .ref b :: rest) (hW : 2 * g.monitorRoom + (rest.map fun v => v.category).sum ≤ 8) (hdg : decode cc g.pc = .ok (.invokevirtual index, 3)) (hf : cells + mc ≤ R.cells ∧ slots + ms ≤ R.slots) :
    vx_Run p l e R s m args below meth c H locs cells slots mc ms g rest (Qc (Value.ref b :: As).toArray) XC free := by
  have hK : vx_Back l R p e below s args y 3 8 (PreOf R mc ms Pc) (PostOf Qc mc ms free) (vx_Post XC mc ms free) := vx_callBack cw.1 hM hp.1
  obtain ⟨⟨-, -, -, -, -, -, hcode, -, hy, hlen, hl⟩, hin, hse⟩ := cw
  obtain ⟨hx, hb, hml, ho, -⟩ := S
  obtain ⟨-, ⟨cellB, hcB, hoB, hclB⟩, hPc⟩ := hp
  intro T hT X
  rcases vx_callV X hx (C := C) (bytes := bytes) (maxL := maxL) (ret := ret) ho hl hin hse hcode hy hK (by rw [hT]; exact hcB) hoB hclB hg (hsize.trans hml.symm) (argsL := As) (rest := rest) (fun sig h => hn.trans (hlen sig h)) hstack hW (by rw [hb]; exact hdg)
    (fun vm₁ hW₁ => ⟨hf.1, hf.2, hPc (T.setVm vm₁) hT hW₁⟩) with ⟨v, vm₁, ⟨U', l2, c2, s2⟩, hW₁, X', ⟨g', mk, t, L, e1, e2, hq, h1, hL, h2, h3⟩, st⟩ | ⟨q, vm₁, ⟨U', l2, c2, s2⟩, hW₁, X', ⟨g', mk, t, L, E, ce, e1, e2, hq, hce, hcv, hcl, h1, hL, h2, h3⟩, st⟩
  · dsimp only [Pt.U, Pt.locs, Pt.cells, Pt.slots] at X' e1 e2 h1 h2 h3 st
    subst h1; subst h2; subst h3
    exact Or.inl ⟨v, (T.setVm vm₁).calling g' mk (Value.ref b :: As).toArray, t, U', L, hT, X', hL, e1, e2, hq, st⟩
  · dsimp only [Pt.U, Pt.locs, Pt.cells, Pt.slots] at X' e1 e2 h1 h2 h3 st hcl
    subst h1; subst h2; subst h3
    exact Or.inr ⟨q, (T.setVm vm₁).calling g' mk (Value.ref b :: As).toArray, t, U', L, E, ce, hT, X', hL, e1, e2, hq, hce, hcv, vx_cls hW₁ hcl, st⟩
theorem vx_runS (S : CallFix p m c cc nL s args Ts own) (hM : vx_Met l y ws rm Pc Qc XC mc ms free) (cw : CallB R s args own index y bytes maxL ret ws rm mc ms n ∧ (Cond.static y).before args s = true) (hp : PreS s H Pc As)
    (hg : g.method = m) (hn : As.length = n) (hsize : g.locals.size = nL) (hstack : g.stack = As.reverse ++ rest) (hW : 2 * g.monitorRoom + (rest.map fun v => v.category).sum ≤ 8) (hdg : decode cc g.pc = .ok (.invokestatic index, 3)) (hf : cells + mc ≤ R.cells ∧ slots + ms ≤ R.slots) :
    vx_Run p l e R s m args below meth c H locs cells slots mc ms g rest (Qc As.toArray) XC free := by
  have hK : vx_Back l R p e below s args y 3 8 (PreOf R mc ms Pc) (PostOf Qc mc ms free) (vx_Post XC mc ms free) := vx_callBack cw.1 hM hp.1
  obtain ⟨⟨-, -, -, -, -, -, hcode, hini, hy, hlen, hl⟩, hstt⟩ := cw
  obtain ⟨hx, hb, hml, ho, -⟩ := S
  intro T hT X
  rcases vx_callS X hx (bytes := bytes) (maxL := maxL) (ret := ret) ho hl hstt hini hcode hy hK hg (hsize.trans hml.symm) (argsL := As) (rest := rest) (fun sig h => hn.trans (hlen sig h)) hstack hW (by rw [hb]; exact hdg)
    (fun vm₁ hW₁ => ⟨hf.1, hf.2, hp.2 (T.setVm vm₁) hT hW₁⟩) with ⟨v, vm₁, ⟨U', l2, c2, s2⟩, hW₁, X', ⟨g', mk, t, L, e1, e2, hq, h1, hL, h2, h3⟩, st⟩ | ⟨q, vm₁, ⟨U', l2, c2, s2⟩, hW₁, X', ⟨g', mk, t, L, E, ce, e1, e2, hq, hce, hcv, hcl, h1, hL, h2, h3⟩, st⟩
  · dsimp only [Pt.U, Pt.locs, Pt.cells, Pt.slots] at X' e1 e2 h1 h2 h3 st
    subst h1; subst h2; subst h3
    exact Or.inl ⟨v, (T.setVm vm₁).calling g' mk As.toArray, t, U', L, hT, X', hL, e1, e2, hq, st⟩
  · dsimp only [Pt.U, Pt.locs, Pt.cells, Pt.slots] at X' e1 e2 h1 h2 h3 st hcl
    subst h1; subst h2; subst h3
    exact Or.inr ⟨q, (T.setVm vm₁).calling g' mk As.toArray, t, U', L, E, ce, hT, X', hL, e1, e2, hq, hce, hcv, vx_cls hW₁ hcl, st⟩
end Runs
section Rows
variable {p : Program} {l : Launch} {e : Env} {R : Room} {s : State} {m : MethodId} {args : Array Value} {below : List Frame} {meth : Method} {c : Code} {H : Heap} {locs : List Loc} {cells slots : Nat} {Q : State → Prop}
variable {mc ms : Nat} {free : Addr → Prop} {A0 A1 : Nat → Prop} {H0 : Heap} {a : Array Value} {pc : Nat} {ls : Array Slot} {st0 rest : List Value}
theorem vx_keep {st₀ t T' : State} {L : List Loc} (h0 : st₀.heap = H) (e1 : T'.heap = t.heap) (hS : va_S A0 H0 H locs) (hA : ∀ q, q < H.size → A1 q → A0 q) (hf : ∀ q, free q → A0 q) (hL : ∀ q ∈ L, free q.base) (hF : va_F A1 st₀ t) :
    H.size ≤ T'.heap.size ∧ (∀ q : Nat, q < H.size → ¬ A1 q → T'.heap[q]? = H[q]?) ∧ va_S A0 H0 T'.heap (locs ++ L) := by
  obtain ⟨hz, hk⟩ := hF
  rw [h0] at hz hk
  exact ⟨by rw [e1]; exact hz, fun q h1 h2 => by rw [e1]; exact hk q h1 h2,
    ⟨Nat.le_trans hS.1 (by rw [e1]; exact hz), fun q h1 h2 => by rw [e1, hk q (Nat.lt_of_lt_of_le h1 hS.1) (fun z => h2 (hA q (Nat.lt_of_lt_of_le h1 hS.1) z))]; exact hS.2.1 q h1 h2, fun q hq => by
      rcases List.mem_append.mp hq with h | h
      · exact hS.2.2 q h
      · exact hf _ (hL q h)⟩⟩
theorem vx_calli {S SX : Type} {post : Int32 → S → Prop} {px : SX → Prop} {B : S → State → Prop} {BX : String → SX → State → Prop} {AX : Nat → Prop} (hr : vx_Run p l e R s m args below meth c H locs cells slots mc ms (F0 m pc ls st0) rest (va_Qi post B A1 a) (vx_X px BX AX) free) (hS : va_S A0 H0 H locs) (hA : ∀ q, q < H.size → A1 q → A0 q) (hf : ∀ q, free q → A0 q) (hAX : ∀ q, q < H.size → AX q → A0 q)
    (kx : ∀ (E : String) (ce : Cell) (q9 : Addr) (u : SX) (t : State) (H1 : Heap) (locs1 : List Loc), t.heap = H1 → s.vm.Alike t.vm → px u → BX E u t → H.size ≤ H1.size → (∀ q : Nat, q < H.size → ¬ AX q → H1[q]? = H[q]?) → va_S A0 H0 H1 locs1 → H1[q9]? = some ce → ce.vm = .none → s.vm.findClass E = some ce.cls → vx_W p l e R s m args below meth c H1 locs1 (cells + mc) (slots + ms) Q (F0 m pc ls rest) q9)
    (kk : ∀ (r : Int32) (u : S) (t : State) (H1 : Heap) (locs1 : List Loc), t.heap = H1 → s.vm.Alike t.vm → post r u → B u t → H.size ≤ H1.size → (∀ q : Nat, q < H.size → ¬ A1 q → H1[q]? = H[q]?) → va_S A0 H0 H1 locs1 → W p l e R s m args below meth c H1 locs1 (cells + mc) (slots + ms) Q (F0 m (pc + 3) ls (.int r :: rest))) : W p l e R s m args below meth c H locs cells slots Q (F0 m pc ls st0) := by
  intro T hT X
  rcases hr T hT X with ⟨v, st₀, t, T', L, h0, X', hL, e1, e2, ⟨⟨r, u, hv, hp, hb⟩, hF⟩, st⟩ | ⟨q, st₀, t, T', L, E, ce, h0, X', hL, e1, e2, ⟨u, hp, hb, hF⟩, hce, hcv, hcl, st⟩
  · cases hv
    obtain ⟨k1, k2, k3⟩ := vx_keep h0 e1 hS hA hf hL hF
    obtain ⟨t2, a1, b1⟩ := kk r u t T'.heap (locs ++ L) e1.symm (by rw [← e2]; exact X'.warmed.alike) hp hb k1 k2 k3 T' rfl X'
    exact ⟨t2, st t2 a1, b1⟩
  · obtain ⟨k1, k2, k3⟩ := vx_keep h0 e1 hS hAX hf hL hF
    obtain ⟨t2, a1, b1⟩ := kx E ce q u t T'.heap (locs ++ L) e1.symm (by rw [← e2]; exact X'.warmed.alike) hp hb k1 k2 k3 (by rw [e1]; exact hce) hcv hcl T' rfl X'
    exact ⟨t2, st.trans a1, b1⟩
theorem vx_calll {S SX : Type} {post : Int64 → S → Prop} {px : SX → Prop} {B : S → State → Prop} {BX : String → SX → State → Prop} {AX : Nat → Prop} (hr : vx_Run p l e R s m args below meth c H locs cells slots mc ms (F0 m pc ls st0) rest (va_Ql post B A1 a) (vx_X px BX AX) free) (hS : va_S A0 H0 H locs) (hA : ∀ q, q < H.size → A1 q → A0 q) (hf : ∀ q, free q → A0 q) (hAX : ∀ q, q < H.size → AX q → A0 q)
    (kx : ∀ (E : String) (ce : Cell) (q9 : Addr) (u : SX) (t : State) (H1 : Heap) (locs1 : List Loc), t.heap = H1 → s.vm.Alike t.vm → px u → BX E u t → H.size ≤ H1.size → (∀ q : Nat, q < H.size → ¬ AX q → H1[q]? = H[q]?) → va_S A0 H0 H1 locs1 → H1[q9]? = some ce → ce.vm = .none → s.vm.findClass E = some ce.cls → vx_W p l e R s m args below meth c H1 locs1 (cells + mc) (slots + ms) Q (F0 m pc ls rest) q9)
    (kk : ∀ (r : Int64) (u : S) (t : State) (H1 : Heap) (locs1 : List Loc), t.heap = H1 → s.vm.Alike t.vm → post r u → B u t → H.size ≤ H1.size → (∀ q : Nat, q < H.size → ¬ A1 q → H1[q]? = H[q]?) → va_S A0 H0 H1 locs1 → W p l e R s m args below meth c H1 locs1 (cells + mc) (slots + ms) Q (F0 m (pc + 3) ls (.long r :: rest))) : W p l e R s m args below meth c H locs cells slots Q (F0 m pc ls st0) := by
  intro T hT X
  rcases hr T hT X with ⟨v, st₀, t, T', L, h0, X', hL, e1, e2, ⟨⟨r, u, hv, hp, hb⟩, hF⟩, st⟩ | ⟨q, st₀, t, T', L, E, ce, h0, X', hL, e1, e2, ⟨u, hp, hb, hF⟩, hce, hcv, hcl, st⟩
  · cases hv
    obtain ⟨k1, k2, k3⟩ := vx_keep h0 e1 hS hA hf hL hF
    obtain ⟨t2, a1, b1⟩ := kk r u t T'.heap (locs ++ L) e1.symm (by rw [← e2]; exact X'.warmed.alike) hp hb k1 k2 k3 T' rfl X'
    exact ⟨t2, st t2 a1, b1⟩
  · obtain ⟨k1, k2, k3⟩ := vx_keep h0 e1 hS hAX hf hL hF
    obtain ⟨t2, a1, b1⟩ := kx E ce q u t T'.heap (locs ++ L) e1.symm (by rw [← e2]; exact X'.warmed.alike) hp hb k1 k2 k3 (by rw [e1]; exact hce) hcv hcl T' rfl X'
    exact ⟨t2, st.trans a1, b1⟩
theorem vx_callf {S SX : Type} {post : UInt32 → S → Prop} {px : SX → Prop} {B : S → State → Prop} {BX : String → SX → State → Prop} {AX : Nat → Prop} (hr : vx_Run p l e R s m args below meth c H locs cells slots mc ms (F0 m pc ls st0) rest (va_Qf post B A1 a) (vx_X px BX AX) free) (hS : va_S A0 H0 H locs) (hA : ∀ q, q < H.size → A1 q → A0 q) (hf : ∀ q, free q → A0 q) (hAX : ∀ q, q < H.size → AX q → A0 q)
    (kx : ∀ (E : String) (ce : Cell) (q9 : Addr) (u : SX) (t : State) (H1 : Heap) (locs1 : List Loc), t.heap = H1 → s.vm.Alike t.vm → px u → BX E u t → H.size ≤ H1.size → (∀ q : Nat, q < H.size → ¬ AX q → H1[q]? = H[q]?) → va_S A0 H0 H1 locs1 → H1[q9]? = some ce → ce.vm = .none → s.vm.findClass E = some ce.cls → vx_W p l e R s m args below meth c H1 locs1 (cells + mc) (slots + ms) Q (F0 m pc ls rest) q9)
    (kk : ∀ (r : UInt32) (u : S) (t : State) (H1 : Heap) (locs1 : List Loc), t.heap = H1 → s.vm.Alike t.vm → post r u → B u t → H.size ≤ H1.size → (∀ q : Nat, q < H.size → ¬ A1 q → H1[q]? = H[q]?) → va_S A0 H0 H1 locs1 → W p l e R s m args below meth c H1 locs1 (cells + mc) (slots + ms) Q (F0 m (pc + 3) ls (.float r :: rest))) : W p l e R s m args below meth c H locs cells slots Q (F0 m pc ls st0) := by
  intro T hT X
  rcases hr T hT X with ⟨v, st₀, t, T', L, h0, X', hL, e1, e2, ⟨⟨r, u, hv, hp, hb⟩, hF⟩, st⟩ | ⟨q, st₀, t, T', L, E, ce, h0, X', hL, e1, e2, ⟨u, hp, hb, hF⟩, hce, hcv, hcl, st⟩
  · cases hv
    obtain ⟨k1, k2, k3⟩ := vx_keep h0 e1 hS hA hf hL hF
    obtain ⟨t2, a1, b1⟩ := kk r u t T'.heap (locs ++ L) e1.symm (by rw [← e2]; exact X'.warmed.alike) hp hb k1 k2 k3 T' rfl X'
    exact ⟨t2, st t2 a1, b1⟩
  · obtain ⟨k1, k2, k3⟩ := vx_keep h0 e1 hS hAX hf hL hF
    obtain ⟨t2, a1, b1⟩ := kx E ce q u t T'.heap (locs ++ L) e1.symm (by rw [← e2]; exact X'.warmed.alike) hp hb k1 k2 k3 (by rw [e1]; exact hce) hcv hcl T' rfl X'
    exact ⟨t2, st.trans a1, b1⟩
theorem vx_calld {S SX : Type} {post : UInt64 → S → Prop} {px : SX → Prop} {B : S → State → Prop} {BX : String → SX → State → Prop} {AX : Nat → Prop} (hr : vx_Run p l e R s m args below meth c H locs cells slots mc ms (F0 m pc ls st0) rest (va_Qd post B A1 a) (vx_X px BX AX) free) (hS : va_S A0 H0 H locs) (hA : ∀ q, q < H.size → A1 q → A0 q) (hf : ∀ q, free q → A0 q) (hAX : ∀ q, q < H.size → AX q → A0 q)
    (kx : ∀ (E : String) (ce : Cell) (q9 : Addr) (u : SX) (t : State) (H1 : Heap) (locs1 : List Loc), t.heap = H1 → s.vm.Alike t.vm → px u → BX E u t → H.size ≤ H1.size → (∀ q : Nat, q < H.size → ¬ AX q → H1[q]? = H[q]?) → va_S A0 H0 H1 locs1 → H1[q9]? = some ce → ce.vm = .none → s.vm.findClass E = some ce.cls → vx_W p l e R s m args below meth c H1 locs1 (cells + mc) (slots + ms) Q (F0 m pc ls rest) q9)
    (kk : ∀ (r : UInt64) (u : S) (t : State) (H1 : Heap) (locs1 : List Loc), t.heap = H1 → s.vm.Alike t.vm → post r u → B u t → H.size ≤ H1.size → (∀ q : Nat, q < H.size → ¬ A1 q → H1[q]? = H[q]?) → va_S A0 H0 H1 locs1 → W p l e R s m args below meth c H1 locs1 (cells + mc) (slots + ms) Q (F0 m (pc + 3) ls (.double r :: rest))) : W p l e R s m args below meth c H locs cells slots Q (F0 m pc ls st0) := by
  intro T hT X
  rcases hr T hT X with ⟨v, st₀, t, T', L, h0, X', hL, e1, e2, ⟨⟨r, u, hv, hp, hb⟩, hF⟩, st⟩ | ⟨q, st₀, t, T', L, E, ce, h0, X', hL, e1, e2, ⟨u, hp, hb, hF⟩, hce, hcv, hcl, st⟩
  · cases hv
    obtain ⟨k1, k2, k3⟩ := vx_keep h0 e1 hS hA hf hL hF
    obtain ⟨t2, a1, b1⟩ := kk r u t T'.heap (locs ++ L) e1.symm (by rw [← e2]; exact X'.warmed.alike) hp hb k1 k2 k3 T' rfl X'
    exact ⟨t2, st t2 a1, b1⟩
  · obtain ⟨k1, k2, k3⟩ := vx_keep h0 e1 hS hAX hf hL hF
    obtain ⟨t2, a1, b1⟩ := kx E ce q u t T'.heap (locs ++ L) e1.symm (by rw [← e2]; exact X'.warmed.alike) hp hb k1 k2 k3 (by rw [e1]; exact hce) hcv hcl T' rfl X'
    exact ⟨t2, st.trans a1, b1⟩
theorem vx_callv {S SX : Type} {post : S → Prop} {px : SX → Prop} {B : S → State → Prop} {BX : String → SX → State → Prop} {AX : Nat → Prop} (hr : vx_Run p l e R s m args below meth c H locs cells slots mc ms (F0 m pc ls st0) rest (va_Qv post B A1 a) (vx_X px BX AX) free) (hS : va_S A0 H0 H locs) (hA : ∀ q, q < H.size → A1 q → A0 q) (hf : ∀ q, free q → A0 q) (hAX : ∀ q, q < H.size → AX q → A0 q)
    (kx : ∀ (E : String) (ce : Cell) (q9 : Addr) (u : SX) (t : State) (H1 : Heap) (locs1 : List Loc), t.heap = H1 → s.vm.Alike t.vm → px u → BX E u t → H.size ≤ H1.size → (∀ q : Nat, q < H.size → ¬ AX q → H1[q]? = H[q]?) → va_S A0 H0 H1 locs1 → H1[q9]? = some ce → ce.vm = .none → s.vm.findClass E = some ce.cls → vx_W p l e R s m args below meth c H1 locs1 (cells + mc) (slots + ms) Q (F0 m pc ls rest) q9)
    (kk : ∀ (u : S) (t : State) (H1 : Heap) (locs1 : List Loc), t.heap = H1 → s.vm.Alike t.vm → post u → B u t → H.size ≤ H1.size → (∀ q : Nat, q < H.size → ¬ A1 q → H1[q]? = H[q]?) → va_S A0 H0 H1 locs1 → W p l e R s m args below meth c H1 locs1 (cells + mc) (slots + ms) Q (F0 m (pc + 3) ls (rest))) : W p l e R s m args below meth c H locs cells slots Q (F0 m pc ls st0) := by
  intro T hT X
  rcases hr T hT X with ⟨v, st₀, t, T', L, h0, X', hL, e1, e2, ⟨⟨u, hv, hp, hb⟩, hF⟩, st⟩ | ⟨q, st₀, t, T', L, E, ce, h0, X', hL, e1, e2, ⟨u, hp, hb, hF⟩, hce, hcv, hcl, st⟩
  · cases hv
    obtain ⟨k1, k2, k3⟩ := vx_keep h0 e1 hS hA hf hL hF
    obtain ⟨t2, a1, b1⟩ := kk u t T'.heap (locs ++ L) e1.symm (by rw [← e2]; exact X'.warmed.alike) hp hb k1 k2 k3 T' rfl X'
    exact ⟨t2, st t2 a1, b1⟩
  · obtain ⟨k1, k2, k3⟩ := vx_keep h0 e1 hS hAX hf hL hF
    obtain ⟨t2, a1, b1⟩ := kx E ce q u t T'.heap (locs ++ L) e1.symm (by rw [← e2]; exact X'.warmed.alike) hp hb k1 k2 k3 (by rw [e1]; exact hce) hcv hcl T' rfl X'
    exact ⟨t2, st.trans a1, b1⟩
end Rows
section Ends
variable {p : Program} {l : Launch} {e : Env} {R : Room} {s : State} {m : MethodId} {args : Array Value} {below : List Frame} {meth : Method} {c : Code} {H : Heap} {locs : List Loc} {cells slots : Nat} {Q : State → Prop}
variable {mc ms : Nat} {free : Addr → Prop} {A0 A1 : Nat → Prop} {H0 : Heap} {a : Array Value} {ls : Array Slot} {st0 rest : List Value}
variable {Qc : Array Value → State → Outcome → State → Prop} {XC : String → State → State → Prop}
/-- what a body that may throw owes at its end -/
def vx_MQ (below : List Frame) (Qc : Array Value → State → Outcome → State → Prop) (XC : String → State → State → Prop) (a : Array Value) (s : State) (mc ms : Nat) (free : Addr → Prop) : State → Prop := fun t =>
  ∃ o, t.status = .running ∧ Ended t below o ∧ vx_Q Qc XC mc ms free a s o t
theorem vx_ret {g : JFrame} {mc ms : Nat} (k : W p l e R s m args below meth c H locs cells slots (MQ below Qc args s mc ms free) g) : W p l e R s m args below meth c H locs cells slots (vx_MQ below Qc XC args s mc ms free) g := by
  intro T hT X
  obtain ⟨t, a1, o, b1, b2, b3, b4⟩ := k T hT X
  exact ⟨t, a1, o, b1, b2, Or.inl ⟨b3, b4⟩⟩
/-- not caught here: it goes on to the caller -/
theorem vx_widen {g : JFrame} {q : Addr} {k n : Nat} (h1 : cells ≤ k) (h2 : slots ≤ n) (kk : vx_W p l e R s m args below meth c H locs k n Q g q) : vx_W p l e R s m args below meth c H locs cells slots Q g q := fun T hT X => kk T hT (stand_widen X h1 h2)
theorem vx_out {pc : Nat} {E : String} {ce : Cell} {q : Addr} {mc ms : Nat} (hout : ∀ x ∈ c.exceptionTable.toList, covers x pc = false) (hlocks : meth.locks = false) (hcell : H[q]? = some ce) (hv : ce.vm = .none) (hcl : s.vm.findClass E = some ce.cls)
    (hx : ∀ t : State, t.heap = H → s.vm.Alike t.vm → XC E s t) (hf : ∀ z ∈ locs, free z.base) (hc : cells ≤ mc) (hs : slots ≤ ms) :
    vx_W p l e R s m args below meth c H locs cells slots (vx_MQ below Qc XC args s mc ms free) (F0 m pc ls rest) q := by
  intro T hT X
  obtain ⟨st1, hrun, hend, hW, hsm⟩ := X.leaveThrown q (g := F0 m pc ls rest) rfl rfl rfl hout hlocks
  have hcell9 : (T.setFrames (.throwing q :: below)).heap[q]? = some ce := by
    show T.heap[q]? = some ce
    rw [hT]; exact hcell
  exact ⟨_, st1, .threw q, hrun, hend, Or.inr ⟨q, rfl, E, ce, locs, hx _ hT hW.alike, hcell9, hv, hcl, hW, hsm.mono hc hs, hf⟩⟩
theorem vx_frame {U : State} {k n : Nat} (h : s.sameButNew ({ U with vm := s.vm } : State) locs k n) : s.heap.size ≤ U.heap.size ∧ ∀ q : Nat, q < s.heap.size → (∀ z ∈ locs, z.base ≠ q) → U.heap[q]? = s.heap[q]? := by
  obtain ⟨-, h2, -, -, -, h6⟩ := h
  refine ⟨h2, fun q hq hz => ?_⟩
  obtain ⟨c9, e1, e2, e3, e4⟩ := h6 q _ (Array.getElem?_eq_getElem hq)
  have hs : c9.slots = (s.heap[q]).slots := Array.ext_getElem? fun i => e4 i fun hm => hz _ hm rfl
  have h9 : c9 = s.heap[q] := by
    rw [hs] at e2
    exact e2
  have e5 : U.heap[q]? = some c9 := e1
  rw [e5, h9, Array.getElem?_eq_getElem hq]
/-- the words of a throw but the four that speak of the heap -/
def vx_no (w : Cond) : Bool := decide (w ≠ .isRef (.static Bundle.tN "UNASSIGNED_STACK" Bundle.steD)) && decide (w ≠ .isRef (.static Bundle.tN "SUPPRESSED_SENTINEL" Bundle.listD)) && decide (w ≠ .laysStatic Bundle.tN "UNASSIGNED_STACK" Bundle.steD) && decide (w ≠ .laysStatic Bundle.tN "SUPPRESSED_SENTINEL" Bundle.listD)
def vx_at0 (own : String) (ic : Nat) (X : String) (names : List String) : List Cond := (Bundle.ownAtoms0 own ic X names).filter vx_no
def vx_atS (own : String) (ic : Nat) (X : String) (names : List String) : List Cond := (Bundle.ownAtoms own ic X names).filter vx_no
/-- a word that the tables alone decide, or a good one -/
def vx_ot (w : Cond) : Bool := w.onTables || goodWord w
theorem vx_ot_at {args a' : Array Value} {s U : State} {w : Cond} (hW : s.WarmedH U.vm) (hvm : s.vm = U.vm) (hg : vx_ot w = true) (h : w.before args s = true) : w.before a' U = true := by
  simp only [vx_ot, Bool.or_eq_true] at hg
  rcases hg with hg | hg
  · exact va_tabs hg hvm h
  · exact word_at hW (good_of_word hg) h
/-- a list's words: the good ones out of the method's own list, the others by premises of their own -/
theorem vx_hat {args : Array Value} {s : State} {L B : List Cond} (h1 : ∀ w ∈ L.filter goodWord, w.before args s = true) (h2 : ∀ w ∈ L.filter (fun w => !goodWord w), w ∈ B) (h3 : ∀ w ∈ B, w.before args s = true) : ∀ w ∈ L, w.before args s = true := by
  intro w hw
  by_cases g : goodWord w = true
  · exact h1 w (List.mem_filter.mpr ⟨hw, g⟩)
  · refine h3 w (h2 w (List.mem_filter.mpr ⟨hw, ?_⟩))
    show (!goodWord w) = true
    cases hgw : goodWord w
    · rfl
    · exact absurd hgw g
theorem vx_c {args : Array Value} {s : State} {w : Cond} {B : List Cond} (h : w.before args s = true) (t : ∀ w ∈ B, w.before args s = true) : ∀ w' ∈ w :: B, w'.before args s = true := fun w' h' => (List.mem_cons.mp h').elim (fun e => by rw [e]; exact h) (t w')
theorem vx_n {args : Array Value} {s : State} : ∀ w ∈ ([] : List Cond), w.before args s = true := fun _ h => nomatch h
theorem vx_own {args : Array Value} {s : State} {L : List Cond} (h1 : ∀ w ∈ L.filter vx_no, w.before args s = true)
    (hU : (Cond.isRef (.static Bundle.tN "UNASSIGNED_STACK" Bundle.steD)).before args s = true) (hN : (Cond.isRef (.static Bundle.tN "SUPPRESSED_SENTINEL" Bundle.listD)).before args s = true)
    (lU : (Cond.laysStatic Bundle.tN "UNASSIGNED_STACK" Bundle.steD).before args s = true) (lN : (Cond.laysStatic Bundle.tN "SUPPRESSED_SENTINEL" Bundle.listD).before args s = true) : ∀ w ∈ L, w.before args s = true := by
  intro w hw
  by_cases e1 : w = .isRef (.static Bundle.tN "UNASSIGNED_STACK" Bundle.steD)
  · rw [e1]; exact hU
  · by_cases e2 : w = .isRef (.static Bundle.tN "SUPPRESSED_SENTINEL" Bundle.listD)
    · rw [e2]; exact hN
    · by_cases e3 : w = .laysStatic Bundle.tN "UNASSIGNED_STACK" Bundle.steD
      · rw [e3]; exact lU
      · by_cases e4 : w = .laysStatic Bundle.tN "SUPPRESSED_SENTINEL" Bundle.listD
        · rw [e4]; exact lN
        · exact h1 w (List.mem_filter.mpr ⟨hw, by unfold vx_no; rw [decide_eq_true e1, decide_eq_true e2, decide_eq_true e3, decide_eq_true e4]; rfl⟩)
/-- where a static field lies, its class's statics cell in H -/
def vx_L (C n d : String) (A : Nat → Prop) (U : State) (H : Heap) : Prop := ∃ (c : ClassId) (k : Class) (i : Nat) (f : Field) (a : Nat) (cell : Cell), U.vm.findClass C = some c ∧ U.fieldFound? C n d = some (c, k, i, f) ∧ f.isStatic = true ∧ k.statics = some a ∧ H[a]? = some cell ∧ cell.vm.isStatics = true ∧ cell.cls = c ∧ f.slot < cell.slots.size ∧ k.staticTypes[f.slot]? = some f.type ∧ ¬ A a
theorem vx_L.moved {C n d : String} {A : Nat → Prop} {u U : State} {H : Heap} (hvm : u.vm.Alike U.vm) (h : vx_L C n d A u H) : vx_L C n d A U H := by
  obtain ⟨c, k, i, f, a, cell, h1, h2, h3, h4, h5, h6, h7, h8, h9, h10⟩ := h
  obtain ⟨k', hi', he⟩ := State.fieldFound?_setVm hvm h2
  exact ⟨c, k', i, f, a, cell, by rw [hvm.findClass]; exact h1, hi', h3, by rw [he]; exact h4, h5, h6, h7, h8, by rw [he]; exact h9, h10⟩
theorem vx_L.kept {C n d : String} {A : Nat → Prop} {U : State} {H H1 : Heap} (h : vx_L C n d A U H) (hq : ∀ a : Nat, a < H.size → ¬ A a → H1[a]? = H[a]?) : vx_L C n d A U H1 := by
  obtain ⟨c, k, i, f, a, cell, h1, h2, h3, h4, h5, h6, h7, h8, h9, h10⟩ := h
  exact ⟨c, k, i, f, a, cell, h1, h2, h3, h4, by rw [hq a (Array.getElem?_eq_some_iff.mp h5).1 h10]; exact h5, h6, h7, h8, h9, h10⟩
theorem vx_L.narrow {C n d : String} {A B : Nat → Prop} {U : State} {H : Heap} (h : vx_L C n d A U H) (hAB : ∀ q, B q → A q) : vx_L C n d B U H := by
  obtain ⟨c, k, i, f, a, cell, h1, h2, h3, h4, h5, h6, h7, h8, h9, h10⟩ := h
  exact ⟨c, k, i, f, a, cell, h1, h2, h3, h4, h5, h6, h7, h8, h9, fun z => h10 (hAB _ z)⟩
theorem vx_L.word {C n d : String} {A : Nat → Prop} {s : State} {args : Array Value} (h : vx_L C n d A s s.heap) : (Cond.laysStatic C n d).before args s = true := by
  obtain ⟨c, k, i, f, a, cell, h1, h2, h3, h4, h5, h6, h7, h8, h9, -⟩ := h
  show (Cond.laysStatic C n d).holds args s none s [] = true
  exact Cond.laysStatic_of h1 h2 h3 h4 h5 h6 h7 h8 h9
/-- .. and what it holds: null or some reference -/
def vx_Zq (C n d : String) (A : Nat → Prop) (U : State) (H : Heap) : Prop := va_Zq C n d A U H ∧ vx_L C n d A U H
theorem vx_Zq.moved {C n d : String} {A : Nat → Prop} {u U : State} {H : Heap} (hvm : u.vm.Alike U.vm) (h : vx_Zq C n d A u H) : vx_Zq C n d A U H := ⟨va_Zq.moved hvm h.1, vx_L.moved hvm h.2⟩
theorem vx_Zq.kept {C n d : String} {A : Nat → Prop} {U : State} {H H1 : Heap} (h : vx_Zq C n d A U H) (hq : ∀ a : Nat, a < H.size → ¬ A a → H1[a]? = H[a]?) : vx_Zq C n d A U H1 := ⟨va_Zq.kept h.1 hq, vx_L.kept h.2 hq⟩
theorem vx_Zq.narrow {C n d : String} {A B : Nat → Prop} {U : State} {H : Heap} (h : vx_Zq C n d A U H) (hAB : ∀ q, B q → A q) : vx_Zq C n d B U H := ⟨va_Zq.narrow h.1 hAB, vx_L.narrow h.2 hAB⟩
theorem vx_Zqof {args : Array Value} {s : State} {C n d : String} {A : Nat → Prop} (hl : (Cond.laysStatic C n d).before args s = true) (hini : (Cond.initialized C).before args s = true) (h : (Cond.isRef (.static C n d)).before args s = true) (hA : ∀ a : Nat, a < s.heap.size → ¬ A a) : vx_Zq C n d A s s.heap := by
  refine ⟨va_Zqof hl hini h hA, ?_⟩
  obtain ⟨c, k, i, f, a, cell, h1, h2, h3, h4, h5, h6, h7, h8, h9⟩ := Cond.laysStatic_spec hl
  exact ⟨c, k, i, f, a, cell, h1, h2, h3, h4, h5, h6, h7, h8, h9, hA a (Array.getElem?_eq_some_iff.mp h5).1⟩
theorem vx_isRef {C n d : String} {v : Value} {A : Nat → Prop} {s : State} {args : Array Value} (h : va_Z C n d v A s s.heap) (hv : v.isRef = true) : (Cond.isRef (.static C n d)).before args s = true := by
  obtain ⟨cf, kf, fi, f, a, cell, h1, h2, h3, h4, h5, h6, h7, -⟩ := h
  have he : (Term.static C n d).eval args s none [] s = some v := by
    simp [Term.eval, State.fieldNamed?, h1, h2, h4, h5, h6, h7]
  simp only [Cond.before, Cond.holds, Cond.value, he]
  cases v <;> simp_all [Value.isRef]
theorem vx_isRefq {C n d : String} {A : Nat → Prop} {s : State} {args : Array Value} (h : va_Zq C n d A s s.heap) : (Cond.isRef (.static C n d)).before args s = true := by
  rcases h with h | ⟨t, h⟩
  · exact vx_isRef h rfl
  · exact vx_isRef h rfl
/-- the same frame, seen from here: as if the method were called anew in this heap -/
theorem vx_rebase {T : State} (X : Stand p l e R s m args below meth c T locs cells slots) {R' : Room} (hf : R'.frames ≤ R.frames) (hl : R'.locals ≤ R.locals) (hc : cells + R'.cells ≤ R.cells) (hs : slots + R'.slots ≤ R.slots) :
    Stand p l e R' ((T.setVm s.vm).setFrames (.invoking m args :: below)) m args below meth c T [] 0 0 := by
  have htop : (T.setVm s.vm).topJava?.isSome := X.here.top
  have hF : ((T.setVm s.vm).setFrames (.invoking m args :: below)).frames = .invoking m args :: below := State.frames_setFrames _ (State.cur_lt_of_top htop)
  obtain ⟨g₀, hg0⟩ := Option.isSome_iff_exists.mp htop
  obtain ⟨r, hr⟩ := State.topJava?_eq_some.mp hg0
  have hl9 : e.platform.stackLimits (T.setVm s.vm).me = e.platform.stackLimits s.me := X.limits
  have hb9 : (T.setVm s.vm).me.stackBytes = s.me.stackBytes := X.bytes
  refine ⟨X.admits, X.cas, X.clock, hF, ?_, X.hears, X.method, X.code, X.here, X.tail, X.warmed, ?_, ?_, ?_⟩
  · have h := X.room
    have hU : ((T.setVm s.vm).setFrames (.invoking m args :: below)).localsInUse = s.localsInUse := by
      rw [State.localsInUse_invoking hF (meth := meth) (c := c) X.method X.code, State.localsInUse_invoking X.frames X.method X.code]
    simp only [State.hasRoom, Bool.and_eq_true, decide_eq_true_eq] at h ⊢
    obtain ⟨⟨⟨⟨h1, h2, h3, h4, h5, h6⟩, h7⟩, h8⟩, h9⟩ := h
    rw [X.frames, List.length_cons] at h2 h3
    have q1 := X.heapSize
    have q2 := X.used
    simp only [hF, hU, List.length_cons, State.stackLimits_setFrames, State.stackBytes_setFrames, hl9, hb9]
    refine ⟨⟨⟨⟨by omega, by omega, by omega, by omega, by omega, h6⟩, ?_⟩, ?_⟩, X.book⟩
    · show T.heap.size + R'.cells ≤ e.platform.maxCells
      omega
    · show T.slotsUsed + R'.slots ≤ e.platform.maxSlots
      omega
  · rw [State.stackLimits_setFrames]; rfl
  · rw [State.stackBytes_setFrames]; rfl
  · refine ⟨?_, Nat.le_refl _, Nat.le_refl _, ?_, ?_, fun a c9 h9 => ⟨c9, h9, rfl, rfl, fun _ _ => rfl⟩⟩
    · obtain ⟨t, ht, -⟩ := State.frames_cons hr
      show T.setVm s.vm = { ((T.setVm s.vm).setFrames (.invoking m args :: below)).setFrames (T.setVm s.vm).frames with heap := T.heap, slotsUsed := T.slotsUsed }
      rw [State.setFrames_setFrames, State.setFrames_self ht]
      rfl
    · show T.slotsUsed = T.slotsUsed + ((T.heap.toList.drop T.heap.size).map (·.slots.size)).sum
      rw [List.drop_eq_nil_of_le (Nat.le_of_eq Array.length_toList)]
      rfl
    · show ((T.heap.toList.drop T.heap.size).map (·.slots.size)).sum ≤ 0
      rw [List.drop_eq_nil_of_le (Nat.le_of_eq Array.length_toList)]
      exact Nat.le_refl _
/-- 'throw new E()': new; dup; invokespecial; athrow -/
theorem vx_throw0 {cc : ByteArray} {pc : Nat} (hexec : p.tables.exec = Jvm.exec) (hb : c.code = cc) (hl : l.stackTraces = false) {own cls : String} {names : List String} {ik ic mc ms : Nat} {A : Nat → Prop}
    (hown : s.vm.findClass own = some m.cls) (hcls : Bundle.fit cls = true) (hnames : ∀ n ∈ names, Bundle.fit n = true)
    (hk : (Cond.classLink own ik cls).before args s = true) (hini : (Cond.initialized cls).before args s = true) (hat : ∀ w ∈ vx_at0 own ic cls names, w.before args s = true)
    (hgood : ∀ w ∈ Cond.classLink own ik cls :: Cond.initialized cls :: vx_at0 own ic cls names, vx_ot w = true)
    (hU : vx_Zq Bundle.tN "UNASSIGNED_STACK" Bundle.steD A s s.heap) (hN : vx_Zq Bundle.tN "SUPPRESSED_SENTINEL" Bundle.listD A s s.heap) (hS : va_S A s.heap H locs) (hsize : ls.size = c.maxLocals)
    (d0 : decode cc pc = .ok (.new ik, 3)) (d3 : decode cc (pc + 3) = .ok (.dup, 1)) (d4 : decode cc (pc + 4) = .ok (.invokespecial ic, 3)) (d7 : decode cc (pc + 7) = .ok (.athrow, 1))
    (hout : ∀ x ∈ c.exceptionTable.toList, covers x (pc + 7) = false)
    (hRframes : names.length + 3 < R.frames) (hRlocals : (rest.map fun v => v.category).sum + (13 * (names.length + 1) + 42) ≤ R.locals) (hRcells : cells + 1 ≤ R.cells) (hRslots : slots + 6 ≤ R.slots) (hlocks : meth.locks = false)
    (hx : ∀ t : State, s.vm.Alike t.vm → H.size ≤ t.heap.size → (∀ q : Nat, q < H.size → t.heap[q]? = H[q]?) → XC cls s t)
    (hf : ∀ z ∈ locs, free z.base) (hc : cells + 1 ≤ mc) (hs : slots + 6 ≤ ms) :
    W p l e R s m args below meth c H locs cells slots (vx_MQ below Qc XC args s mc ms free) (F0 m pc ls rest) := by
  intro T hT X
  have htr : e.platform.stackTraces = false := (show e.platform.stackTraces = l.stackTraces by rw [X.admits.platform]).trans hl
  have Y := vx_rebase X (R' := { frames := R.frames, locals := R.locals, cells := 1, slots := 6 }) (Nat.le_refl _) (Nat.le_refl _) hRcells hRslots
  obtain ⟨s', hA⟩ : ∃ z, z = (T.setVm s.vm).setFrames (.invoking m args :: below) := ⟨_, rfl⟩
  rw [← hA] at Y
  have hvm : s'.vm = s.vm := by rw [hA]; rfl
  have hhp : s'.heap = H := by rw [hA]; exact hT
  have hW0 : s.WarmedH s'.vm := by rw [hvm]; exact State.WarmedH.refl s
  have hat' : ∀ w ∈ vx_at0 own ic cls names, w.before args s' = true := fun w hw => vx_ot_at hW0 hvm.symm (hgood w (List.mem_cons_of_mem _ (List.mem_cons_of_mem _ hw))) (hat w hw)
  have hk' : (Cond.classLink own ik cls).before args s' = true := vx_ot_at hW0 hvm.symm (hgood _ List.mem_cons_self) hk
  have hini' : (Cond.initialized cls).before args s' = true := vx_ot_at hW0 hvm.symm (hgood _ (List.mem_cons_of_mem _ List.mem_cons_self)) hini
  have hU' : vx_Zq Bundle.tN "UNASSIGNED_STACK" Bundle.steD A s' s'.heap := by rw [hhp]; exact vx_Zq.moved hW0.alike (hU.kept hS.2.1)
  have hN' : vx_Zq Bundle.tN "SUPPRESSED_SENTINEL" Bundle.listD A s' s'.heap := by rw [hhp]; exact vx_Zq.moved hW0.alike (hN.kept hS.2.1)
  have h : ∀ w ∈ Bundle.ownAtoms0 own ic cls names, w.before args s' = true := vx_own hat' (vx_isRefq hU'.1) (vx_isRefq hN'.1) hU'.2.word hN'.2.word
  have hown' : s'.vm.findClass own = some m.cls := by rw [hvm]; exact hown
  have hins : (Cond.instantiable cls 6).before args s' = true := h _ (by simp [Bundle.ownAtoms0])
  obtain ⟨vm₁, cX, kX, hfX, hkX, -, -, X₁, st1⟩ := Y.newCold hexec (own := own) (C := cls) (index := ik) (n := 6) hown' hk' hins hini'
    (g := F0 m pc ls rest) rfl (by rw [hb]; exact d0) (Nat.le_refl _) (Nat.le_refl _)
  generalize hT1 : (T.setVm vm₁).pushCell { cls := cX, slots := kX.instanceTypes.map defaultValue, vm := .none } = T1 at X₁ st1
  have hcat : (Value.ref T.heap.size).category = 1 := rfl
  have hcellA : T1.heap[T.heap.size]? = some (freshCell cX kX) := by rw [← hT1]; exact State.heap_pushCell_size _ _
  have d3' : decode c.code (pc + 3) = .ok (.dup, 1) := by rw [hb]; exact d3
  obtain ⟨U, hsteps, hrun, hend, hW, hsame, ce, hce, hO⟩ := X₁.ctorThrow0 hexec htr (own := own) (cls := cls) (names := names) (ic := ic) hown' hcls hnames h (fun x hx => nomatch hx) hfX hkX hcellA (by rw [hhp, hT]; exact Nat.le_refl _)
    (g := { method := m, pc := pc + 4, locals := ls, stack := .ref T.heap.size :: .ref T.heap.size :: rest, locked := none }) rfl hsize rfl rfl (rest := rest) rfl
    (by rw [hb]; exact d4) (by rw [hb]; exact d7) hout hRframes (by simp only [List.map_cons, List.sum_cons, hcat]; omega) hlocks
  obtain ⟨f1, f2⟩ := vx_frame hsame
  rw [hhp] at f1 f2
  have hWs : s.WarmedH U.vm := State.WarmedH.trans hW0 hW
  have hcl : s.vm.findClass cls = some ce.cls := by
    have h9 := hO.cls
    rw [hvm] at h9
    exact h9
  have hall : s.sameButNew ({ U with vm := s.vm } : State) locs mc ms := by
    subst hA
    obtain ⟨e1, e2⟩ := hsame
    rw [State.setFrames_setFrames] at e1
    have h2 : (T.setVm s.vm).sameButNew ({ U with vm := s.vm } : State) [] (0 + 1) (0 + 6) := ⟨e1, e2⟩
    have h3 := X.same.trans h2
    rw [List.append_nil] at h3
    exact h3.mono hc hs
  refine ⟨U, ?_, .threw T.heap.size, hrun, hend, Or.inr ⟨T.heap.size, rfl, cls, ce, locs, hx U hWs.alike f1 (fun q hq => f2 q hq (fun z hz => nomatch hz)), hce, hO.vm, hcl, hWs, hall, hf⟩⟩
  refine st1 _ ?_
  show Steps p.tables e below (T1.setTop { method := m, pc := pc + 3, locals := ls, stack := .ref T.heap.size :: rest, locked := none }) _
  jvm_step X₁.here [X₁.here.top, hexec, d3', Value.category]
  exact hsteps
/-- 'throw new E("text")': new; dup; ldc; invokespecial; athrow -/
theorem vx_throwS {cc : ByteArray} {pc : Nat} (hexec : p.tables.exec = Jvm.exec) (hb : c.code = cc) (hl : l.stackTraces = false) {own cls text : String} {names : List String} {ik is ic mc ms sa : Nat} {A : Nat → Prop}
    (hown : s.vm.findClass own = some m.cls) (hcls : Bundle.fit cls = true) (hnames : ∀ n ∈ names, Bundle.fit n = true)
    (hk : (Cond.classLink own ik cls).before args s = true) (hini : (Cond.initialized cls).before args s = true) (hstr : vk_R own is text sa s) (hat : ∀ w ∈ vx_atS own ic cls names, w.before args s = true)
    (hgood : ∀ w ∈ Cond.classLink own ik cls :: Cond.initialized cls :: vx_atS own ic cls names, vx_ot w = true)
    (hU : vx_Zq Bundle.tN "UNASSIGNED_STACK" Bundle.steD A s s.heap) (hN : vx_Zq Bundle.tN "SUPPRESSED_SENTINEL" Bundle.listD A s s.heap) (hS : va_S A s.heap H locs) (hsize : ls.size = c.maxLocals)
    (d0 : decode cc pc = .ok (.new ik, 3)) (d3 : decode cc (pc + 3) = .ok (.dup, 1)) (d4 : decode cc (pc + 4) = .ok (.ldc is, 2)) (d6 : decode cc (pc + 6) = .ok (.invokespecial ic, 3)) (d9 : decode cc (pc + 9) = .ok (.athrow, 1))
    (hout : ∀ x ∈ c.exceptionTable.toList, covers x (pc + 9) = false)
    (hRframes : names.length + 3 < R.frames) (hRlocals : (rest.map fun v => v.category).sum + (13 * (names.length + 1) + 43) ≤ R.locals) (hRcells : cells + 1 ≤ R.cells) (hRslots : slots + 6 ≤ R.slots) (hlocks : meth.locks = false)
    (hx : ∀ t : State, s.vm.Alike t.vm → H.size ≤ t.heap.size → (∀ q : Nat, q < H.size → t.heap[q]? = H[q]?) → XC cls s t)
    (hf : ∀ z ∈ locs, free z.base) (hc : cells + 1 ≤ mc) (hs : slots + 6 ≤ ms) :
    W p l e R s m args below meth c H locs cells slots (vx_MQ below Qc XC args s mc ms free) (F0 m pc ls rest) := by
  intro T hT X
  have htr : e.platform.stackTraces = false := (show e.platform.stackTraces = l.stackTraces by rw [X.admits.platform]).trans hl
  have Y := vx_rebase X (R' := { frames := R.frames, locals := R.locals, cells := 1, slots := 6 }) (Nat.le_refl _) (Nat.le_refl _) hRcells hRslots
  obtain ⟨s', hA⟩ : ∃ z, z = (T.setVm s.vm).setFrames (.invoking m args :: below) := ⟨_, rfl⟩
  rw [← hA] at Y
  have hvm : s'.vm = s.vm := by rw [hA]; rfl
  have hhp : s'.heap = H := by rw [hA]; exact hT
  have hW0 : s.WarmedH s'.vm := by rw [hvm]; exact State.WarmedH.refl s
  have hat' : ∀ w ∈ vx_atS own ic cls names, w.before args s' = true := fun w hw => vx_ot_at hW0 hvm.symm (hgood w (List.mem_cons_of_mem _ (List.mem_cons_of_mem _ hw))) (hat w hw)
  have hk' : (Cond.classLink own ik cls).before args s' = true := vx_ot_at hW0 hvm.symm (hgood _ List.mem_cons_self) hk
  have hini' : (Cond.initialized cls).before args s' = true := vx_ot_at hW0 hvm.symm (hgood _ (List.mem_cons_of_mem _ List.mem_cons_self)) hini
  have hU' : vx_Zq Bundle.tN "UNASSIGNED_STACK" Bundle.steD A s' s'.heap := by rw [hhp]; exact vx_Zq.moved hW0.alike (hU.kept hS.2.1)
  have hN' : vx_Zq Bundle.tN "SUPPRESSED_SENTINEL" Bundle.listD A s' s'.heap := by rw [hhp]; exact vx_Zq.moved hW0.alike (hN.kept hS.2.1)
  have h : ∀ w ∈ Bundle.ownAtoms own ic cls names, w.before args s' = true := vx_own hat' (vx_isRefq hU'.1) (vx_isRefq hN'.1) hU'.2.word hN'.2.word
  have hown' : s'.vm.findClass own = some m.cls := by rw [hvm]; exact hown
  have hins : (Cond.instantiable cls 6).before args s' = true := h _ (by simp [Bundle.ownAtoms])
  obtain ⟨vm₁, cX, kX, hfX, hkX, -, -, X₁, st1⟩ := Y.newCold hexec (own := own) (C := cls) (index := ik) (n := 6) hown' hk' hins hini'
    (g := F0 m pc ls rest) rfl (by rw [hb]; exact d0) (Nat.le_refl _) (Nat.le_refl _)
  generalize hT1 : (T.setVm vm₁).pushCell { cls := cX, slots := kX.instanceTypes.map defaultValue, vm := .none } = T1 at X₁ st1
  have hcat : (Value.ref T.heap.size).category = 1 := rfl
  have hcellA : T1.heap[T.heap.size]? = some (freshCell cX kX) := by rw [← hT1]; exact State.heap_pushCell_size _ _
  have d3' : decode c.code (pc + 3) = .ok (.dup, 1) := by rw [hb]; exact d3
  have d4' : decode c.code (pc + 4) = .ok (.ldc is, 2) := by rw [hb]; exact d4
  have hstr' : vk_R own is text sa s' := vk_R.warm hW0 hstr
  obtain ⟨U, hsteps, hrun, hend, hW, hsame, ce, hce, hO⟩ := X₁.ctorThrowS hexec htr (own := own) (cls := cls) (names := names) (ic := ic) hown' hcls hnames h (fun x hx => nomatch hx) hfX hkX hcellA (by rw [hhp, hT]; exact Nat.le_refl _) (msg := .ref sa) rfl
    (g := { method := m, pc := pc + 6, locals := ls, stack := .ref sa :: .ref T.heap.size :: .ref T.heap.size :: rest, locked := none }) rfl hsize rfl rfl (rest := rest) rfl
    (by rw [hb]; exact d6) (by rw [hb]; exact d9) hout hRframes (by simp only [List.map_cons, List.sum_cons, hcat]; omega) hlocks
  obtain ⟨f1, f2⟩ := vx_frame hsame
  rw [hhp] at f1 f2
  have hWs : s.WarmedH U.vm := State.WarmedH.trans hW0 hW
  have hcl : s.vm.findClass cls = some ce.cls := by
    have h9 := hO.cls
    rw [hvm] at h9
    exact h9
  have hall : s.sameButNew ({ U with vm := s.vm } : State) locs mc ms := by
    subst hA
    obtain ⟨e1, e2⟩ := hsame
    rw [State.setFrames_setFrames] at e1
    have h2 : (T.setVm s.vm).sameButNew ({ U with vm := s.vm } : State) [] (0 + 1) (0 + 6) := ⟨e1, e2⟩
    have h3 := X.same.trans h2
    rw [List.append_nil] at h3
    exact h3.mono hc hs
  refine ⟨U, ?_, .threw T.heap.size, hrun, hend, Or.inr ⟨T.heap.size, rfl, cls, ce, locs, hx U hWs.alike f1 (fun q hq => f2 q hq (fun z hz => nomatch hz)), hce, hO.vm, hcl, hWs, hall, hf⟩⟩
  refine st1 _ ?_
  show Steps p.tables e below (T1.setTop { method := m, pc := pc + 3, locals := ls, stack := .ref T.heap.size :: rest, locked := none }) _
  jvm_step X₁.here [X₁.here.top, hexec, d3', Value.category]
  exact X₁.ldcString hexec (own := own) (text := text) (index := is) (a := sa) hown' hstr'.1 hstr'.2
    (g := { method := m, pc := pc + 4, locals := ls, stack := .ref T.heap.size :: .ref T.heap.size :: rest, locked := none }) rfl d4' _ hsteps
/-- 'throw new E("text")', the text by a wide index -/
theorem vx_throwSW {cc : ByteArray} {pc : Nat} (hexec : p.tables.exec = Jvm.exec) (hb : c.code = cc) (hl : l.stackTraces = false) {own cls text : String} {names : List String} {ik is ic mc ms sa : Nat} {A : Nat → Prop}
    (hown : s.vm.findClass own = some m.cls) (hcls : Bundle.fit cls = true) (hnames : ∀ n ∈ names, Bundle.fit n = true)
    (hk : (Cond.classLink own ik cls).before args s = true) (hini : (Cond.initialized cls).before args s = true) (hstr : vk_R own is text sa s) (hat : ∀ w ∈ vx_atS own ic cls names, w.before args s = true)
    (hgood : ∀ w ∈ Cond.classLink own ik cls :: Cond.initialized cls :: vx_atS own ic cls names, vx_ot w = true)
    (hU : vx_Zq Bundle.tN "UNASSIGNED_STACK" Bundle.steD A s s.heap) (hN : vx_Zq Bundle.tN "SUPPRESSED_SENTINEL" Bundle.listD A s s.heap) (hS : va_S A s.heap H locs) (hsize : ls.size = c.maxLocals)
    (d0 : decode cc pc = .ok (.new ik, 3)) (d3 : decode cc (pc + 3) = .ok (.dup, 1)) (d4 : decode cc (pc + 4) = .ok (.ldc_w is, 3)) (d7 : decode cc (pc + 7) = .ok (.invokespecial ic, 3)) (d10 : decode cc (pc + 10) = .ok (.athrow, 1))
    (hout : ∀ x ∈ c.exceptionTable.toList, covers x (pc + 10) = false)
    (hRframes : names.length + 3 < R.frames) (hRlocals : (rest.map fun v => v.category).sum + (13 * (names.length + 1) + 43) ≤ R.locals) (hRcells : cells + 1 ≤ R.cells) (hRslots : slots + 6 ≤ R.slots) (hlocks : meth.locks = false)
    (hx : ∀ t : State, s.vm.Alike t.vm → H.size ≤ t.heap.size → (∀ q : Nat, q < H.size → t.heap[q]? = H[q]?) → XC cls s t)
    (hf : ∀ z ∈ locs, free z.base) (hc : cells + 1 ≤ mc) (hs : slots + 6 ≤ ms) :
    W p l e R s m args below meth c H locs cells slots (vx_MQ below Qc XC args s mc ms free) (F0 m pc ls rest) := by
  intro T hT X
  have htr : e.platform.stackTraces = false := (show e.platform.stackTraces = l.stackTraces by rw [X.admits.platform]).trans hl
  have Y := vx_rebase X (R' := { frames := R.frames, locals := R.locals, cells := 1, slots := 6 }) (Nat.le_refl _) (Nat.le_refl _) hRcells hRslots
  obtain ⟨s', hA⟩ : ∃ z, z = (T.setVm s.vm).setFrames (.invoking m args :: below) := ⟨_, rfl⟩
  rw [← hA] at Y
  have hvm : s'.vm = s.vm := by rw [hA]; rfl
  have hhp : s'.heap = H := by rw [hA]; exact hT
  have hW0 : s.WarmedH s'.vm := by rw [hvm]; exact State.WarmedH.refl s
  have hat' : ∀ w ∈ vx_atS own ic cls names, w.before args s' = true := fun w hw => vx_ot_at hW0 hvm.symm (hgood w (List.mem_cons_of_mem _ (List.mem_cons_of_mem _ hw))) (hat w hw)
  have hk' : (Cond.classLink own ik cls).before args s' = true := vx_ot_at hW0 hvm.symm (hgood _ List.mem_cons_self) hk
  have hini' : (Cond.initialized cls).before args s' = true := vx_ot_at hW0 hvm.symm (hgood _ (List.mem_cons_of_mem _ List.mem_cons_self)) hini
  have hU' : vx_Zq Bundle.tN "UNASSIGNED_STACK" Bundle.steD A s' s'.heap := by rw [hhp]; exact vx_Zq.moved hW0.alike (hU.kept hS.2.1)
  have hN' : vx_Zq Bundle.tN "SUPPRESSED_SENTINEL" Bundle.listD A s' s'.heap := by rw [hhp]; exact vx_Zq.moved hW0.alike (hN.kept hS.2.1)
  have h : ∀ w ∈ Bundle.ownAtoms own ic cls names, w.before args s' = true := vx_own hat' (vx_isRefq hU'.1) (vx_isRefq hN'.1) hU'.2.word hN'.2.word
  have hown' : s'.vm.findClass own = some m.cls := by rw [hvm]; exact hown
  have hins : (Cond.instantiable cls 6).before args s' = true := h _ (by simp [Bundle.ownAtoms])
  obtain ⟨vm₁, cX, kX, hfX, hkX, -, -, X₁, st1⟩ := Y.newCold hexec (own := own) (C := cls) (index := ik) (n := 6) hown' hk' hins hini'
    (g := F0 m pc ls rest) rfl (by rw [hb]; exact d0) (Nat.le_refl _) (Nat.le_refl _)
  generalize hT1 : (T.setVm vm₁).pushCell { cls := cX, slots := kX.instanceTypes.map defaultValue, vm := .none } = T1 at X₁ st1
  have hcat : (Value.ref T.heap.size).category = 1 := rfl
  have hcellA : T1.heap[T.heap.size]? = some (freshCell cX kX) := by rw [← hT1]; exact State.heap_pushCell_size _ _
  have d3' : decode c.code (pc + 3) = .ok (.dup, 1) := by rw [hb]; exact d3
  have d4' : decode c.code (pc + 4) = .ok (.ldc_w is, 3) := by rw [hb]; exact d4
  have hstr' : vk_R own is text sa s' := vk_R.warm hW0 hstr
  obtain ⟨U, hsteps, hrun, hend, hW, hsame, ce, hce, hO⟩ := X₁.ctorThrowS hexec htr (own := own) (cls := cls) (names := names) (ic := ic) hown' hcls hnames h (fun x hx => nomatch hx) hfX hkX hcellA (by rw [hhp, hT]; exact Nat.le_refl _) (msg := .ref sa) rfl
    (g := { method := m, pc := pc + 7, locals := ls, stack := .ref sa :: .ref T.heap.size :: .ref T.heap.size :: rest, locked := none }) rfl hsize rfl rfl (rest := rest) rfl
    (by rw [hb]; exact d7) (by rw [hb]; exact d10) hout hRframes (by simp only [List.map_cons, List.sum_cons, hcat]; omega) hlocks
  obtain ⟨f1, f2⟩ := vx_frame hsame
  rw [hhp] at f1 f2
  have hWs : s.WarmedH U.vm := State.WarmedH.trans hW0 hW
  have hcl : s.vm.findClass cls = some ce.cls := by
    have h9 := hO.cls
    rw [hvm] at h9
    exact h9
  have hall : s.sameButNew ({ U with vm := s.vm } : State) locs mc ms := by
    subst hA
    obtain ⟨e1, e2⟩ := hsame
    rw [State.setFrames_setFrames] at e1
    have h2 : (T.setVm s.vm).sameButNew ({ U with vm := s.vm } : State) [] (0 + 1) (0 + 6) := ⟨e1, e2⟩
    have h3 := X.same.trans h2
    rw [List.append_nil] at h3
    exact h3.mono hc hs
  refine ⟨U, ?_, .threw T.heap.size, hrun, hend, Or.inr ⟨T.heap.size, rfl, cls, ce, locs, hx U hWs.alike f1 (fun q hq => f2 q hq (fun z hz => nomatch hz)), hce, hO.vm, hcl, hWs, hall, hf⟩⟩
  refine st1 _ ?_
  show Steps p.tables e below (T1.setTop { method := m, pc := pc + 3, locals := ls, stack := .ref T.heap.size :: rest, locked := none }) _
  jvm_step X₁.here [X₁.here.top, hexec, d3', Value.category]
  exact X₁.ldcStringW hexec (own := own) (text := text) (index := is) (a := sa) hown' hstr'.1 hstr'.2
    (g := { method := m, pc := pc + 4, locals := ls, stack := .ref T.heap.size :: .ref T.heap.size :: rest, locked := none }) rfl d4' _ hsteps
end Ends
section Bodies
variable {l : Launch}
theorem vx_ofW {y : MethodName} {ws ws' : List Cond} {rm : Room} {Pc : Array Value → State → Prop} {Qc : Array Value → State → Outcome → State → Prop} {XC : String → State → State → Prop} {mc ms : Nat} {free : Addr → Prop} {cc : ByteArray} {maxL : Nat} {ret : Option FieldType}
    (hy : plainName y.cls = true) (hw : ws = Cond.code y cc maxL ret :: ws')
    (body : ∀ p e s m args below meth c s₁, BodyLoose p l y (headSpec ws rm) cc maxL ret e s m args below meth c s₁ → c.maxLocals = maxL → (∀ x ∈ c.exceptionTable.toList, False) → Pc args s →
      W p l e (headSpec ws rm).room s m args below meth c s.heap [] 0 0 (vx_MQ below Qc XC args s mc ms free) (entryFrame m args maxL)) : vx_Met l y ws rm Pc Qc XC mc ms free := by
  refine MetFree.of_bodyS (code := cc) (maxLocals := maxL) (ret := ret) hy ?_ ?_
  · intro args s m h hn
    obtain ⟨meth, c, h1, h2, h3, h4, h5, h6, -, -⟩ := Cond.code_spec hn (atoms_spec (ws := ws) h _ (by rw [hw]; exact List.mem_cons_self))
    exact ⟨meth, c, h1, h2, h3, h4, h5, h6⟩
  · intro p e s m args below meth c s₁ B hml hP _
    have hh0 : s₁.heap = s.heap := by rw [B.state]; rfl
    have ht : ∀ x ∈ c.exceptionTable.toList, False := by
      obtain ⟨meth9, c9, h1, h2, -, -, -, -, h7, -⟩ := Cond.code_spec B.named (atoms_spec (ws := ws) B.pre _ (by rw [hw]; exact List.mem_cons_self))
      cases Option.some.inj (h1.symm.trans B.method)
      cases Option.some.inj (h2.symm.trans (Stand.of_body B).code)
      intro x hx
      rw [Array.isEmpty_iff.mp h7] at hx
      cases hx
    obtain ⟨t, a1, o, b1, b2, b3⟩ := body p e s m args below meth c s₁ B hml ht hP s₁ hh0 (Stand.of_body B)
    exact ⟨t, o, a1, b1, b2, b3⟩
/-- the table of a body with handlers -/
theorem vx_table {p : Program} {x y : MethodName} {S : Spec} {cc bytes : ByteArray} {maxL maxL' : Nat} {ret ret' : Option FieldType} {e : Env} {s s₁ : State} {m : MethodId} {args : Array Value} {below : List Frame} {meth : Method} {c : Code} {hh : List (Nat × Nat × Nat × Nat)}
    (B : BodyLoose p l y S cc maxL ret e s m args below meth c s₁) (h : (Cond.codeWith y bytes maxL' ret' hh).before args s = true) : c.exceptionTable.toList = tableOf hh := by
  obtain ⟨m9, meth9, c9, hn9, h1, h2, -, -, h6, -⟩ := Cond.codeWith_spec h
  cases Option.some.inj (hn9.symm.trans B.named)
  cases Option.some.inj (h1.symm.trans B.method)
  cases Option.some.inj (h2.symm.trans (Stand.of_body B).code)
  rw [← h6, table_eq]
end Bodies
end VXA
/-! ===== END ===== -/
/-! ===== BEGIN a static call of a method with an exception table ===== -/
section VXS
variable {p : Program} {l : Launch} {e : Env} {R : Room} {s : State} {m : MethodId} {args : Array Value} {below : List Frame} {meth : Method} {c : Code} {T : State} {H : Heap} {locs : List Loc} {cells slots : Nat}
abbrev vx_CSW (R : Room) (s : State) (args : Array Value) (own : String) (index : Nat) (y : MethodName) (bytes : ByteArray) (maxL : Nat) (ret : Option FieldType) (hh : List (Nat × Nat × Nat × Nat)) (ws : List Cond) (rm : Room) (mc ms n : Nat) : Prop :=
  (rm.cells = mc ∧ rm.slots = ms ∧ rm.frames + 1 ≤ R.frames ∧ 8 + (maxL + 11) + rm.locals ≤ R.locals ∧ (∀ w ∈ ws, ∀ (a' : Array Value) (U : State), s.WarmedH U.vm → w.before a' U = true) ∧ Cond.codeWith y bytes maxL ret hh ∈ ws) ∧
  (Cond.codeWith y bytes maxL ret hh).before args s = true ∧ (Cond.initialized y.cls).before args s = true ∧ (y.cls ≠ "java/lang/invoke/MethodHandle" ∧ y.cls ≠ "java/lang/invoke/VarHandle") ∧
  (∀ sig, parseMethodDescriptor y.desc = some sig → n = sig.parameters.length) ∧ (Cond.methodLink own index y).before args s = true ∧ (Cond.static y).before args s = true
theorem vx_cwSW {own : String} {index maxL mc ms : Nat} {y : MethodName} {bytes : ByteArray} {ret : Option FieldType} {hh : List (Nat × Nat × Nat × Nat)} {Ts ws ws' : List Cond} {rm : Room} (n : Nat) (ht : ∀ w ∈ Ts, w.before args s = true) (hT : GoodIn Ts (va_wsS own index y ws)) (hw : ws = Cond.codeWith y bytes maxL ret hh :: ws') (hrc : rm.cells = mc) (hrs : rm.slots = ms)
    (hd : y.cls ≠ "java/lang/invoke/MethodHandle" ∧ y.cls ≠ "java/lang/invoke/VarHandle" ∧ (parseMethodDescriptor y.desc).map (fun d => d.parameters.length) = some n) (hR : rm.frames + 1 ≤ R.frames ∧ 8 + (maxL + 11) + rm.locals ≤ R.locals) :
    vx_CSW R s args own index y bytes maxL ret hh ws rm mc ms n := by
  have ok : ∀ w ∈ va_wsS own index y ws, w.before args s = true := fun w h => ht w (hT w h).1
  have hG : GoodIn Ts ws := fun w h => hT w (by unfold va_wsS; exact List.mem_append_right _ h)
  have hc : Cond.codeWith y bytes maxL ret hh ∈ ws := by rw [hw]; exact List.mem_cons_self
  refine ⟨⟨hrc, hrs, hR.1, hR.2, pay_in ht hG, hc⟩, ht _ (hG _ hc).1, ok _ (by simp [va_wsS]), ⟨hd.1, hd.2.1⟩, fun sig h => ?_, ok _ (by simp [va_wsS]), ok _ (by simp [va_wsS])⟩
  have h2 := hd.2.2
  rw [h] at h2
  exact (Option.some.inj h2).symm
theorem vx_callSW (X : Stand p l e R s m args below meth c T locs cells slots) (hexec : p.tables.exec = Jvm.exec) {own : String} {index : Nat} {y : MethodName} {bytes : ByteArray} {maxL : Nat} {ret : Option FieldType} {hh : List (Nat × Nat × Nat × Nat)}
    (hown : s.vm.findClass own = some m.cls) (hlink : (Cond.methodLink own index y).before args s = true) (hstat : (Cond.static y).before args s = true) (hinit : (Cond.initialized y.cls).before args s = true)
    (hcode : (Cond.codeWith y bytes maxL ret hh).before args s = true) (hy : y.cls ≠ "java/lang/invoke/MethodHandle" ∧ y.cls ≠ "java/lang/invoke/VarHandle")
    {W9 : Nat} {Pre : Pt → Array Value → Prop} {Post : Pt → Array Value → Option Value → Pt → Prop} (hK : Back l R p e below s args y 3 W9 Pre Post)
    {g : JFrame} (hg : g.method = m) (hsize : g.locals.size = c.maxLocals) {argsL rest : List Value} (hlen : ∀ sig, parseMethodDescriptor y.desc = some sig → argsL.length = sig.parameters.length)
    (hstack : g.stack = argsL.reverse ++ rest) (hW : 2 * g.monitorRoom + (rest.map fun v => v.category).sum ≤ W9) (hdg : decode c.code g.pc = .ok (.invokestatic index, 3))
    (hpre : ∀ vm₁, s.WarmedH vm₁ → Pre ⟨T.setVm vm₁, locs, cells, slots⟩ argsL.toArray) :
    ∃ (v : Option Value) (vm₁ : Vm) (B : Pt), s.WarmedH vm₁ ∧ Stand p l e R s m args below meth c B.U B.locs B.cells B.slots ∧ Post ⟨T.setVm vm₁, locs, cells, slots⟩ argsL.toArray v B ∧
      ∀ target, Steps p.tables e below (B.U.setTop { g with pc := g.pc + 3, stack := v.toList ++ rest }) target → Steps p.tables e below (T.setTop g) target := by
  obtain ⟨mk, methM, cM, hnamed, hmethM, -, -, -, -, -, -, hsigM⟩ := Cond.codeWith_spec hcode
  have hstatic : methM.isStatic = true := Cond.static_spec hnamed hmethM hstat
  obtain ⟨kP, hkP, -⟩ := className_of_methodNamed hnamed
  have hinitP : kP.init = .initialized := Cond.initialized_spec (findClass_of_methodNamed hnamed) hkP hinit
  obtain ⟨vm₁, X₁, hstep₁⟩ := X.invokestatic hexec hown hlink hnamed hmethM hstatic hkP hinitP hy (g := g) hg (argsL := argsL) (rest := rest) (hlen _ hsigM) hstack hdg
  obtain ⟨v, B, X', hpost, hsteps⟩ := hK m meth c ⟨T.setVm vm₁, locs, cells, slots⟩ { g with stack := rest } (.invokestatic index) mk argsL.toArray X₁ hg hsize hdg hW (X₁.named hnamed) (hpre vm₁ X₁.warmed)
  exact ⟨v, vm₁, B, X₁.warmed, X', hpost, fun target h => hstep₁ _ fun acts => by rw [doInvoke_state]; exact hsteps.trans h⟩
theorem vx_runSW {y : MethodName} {bytes cc : ByteArray} {maxL nL mc ms n index : Nat} {ret : Option FieldType} {hh : List (Nat × Nat × Nat × Nat)} {ws : List Cond} {rm : Room} {Pc : Array Value → State → Prop} {Qc : Array Value → State → Outcome → State → Prop} {free : Addr → Prop} {Ts : List Cond} {own : String} {As rest : List Value} {g : JFrame}
    (S : CallFix p m c cc nL s args Ts own) (hM : Met l y ws rm Pc Qc mc ms free) (cw : vx_CSW R s args own index y bytes maxL ret hh ws rm mc ms n) (hp : PreS s H Pc As)
    (hg : g.method = m) (hn : As.length = n) (hsize : g.locals.size = nL) (hstack : g.stack = As.reverse ++ rest) (hW : 2 * g.monitorRoom + (rest.map fun v => v.category).sum ≤ 8) (hdg : decode cc g.pc = .ok (.invokestatic index, 3)) (hf : cells + mc ≤ R.cells ∧ slots + ms ≤ R.slots) :
    va_Run p l e R s m args below meth c H locs cells slots mc ms g rest (Qc As.toArray) (free) := by
  obtain ⟨⟨hrc, hrs, hfr, hlo, hws, hcw⟩, hcode, hini, hy, hlen, hl, hstt⟩ := cw
  have hK : Back l R p e below s args y 3 8 (PreOf R mc ms Pc) (PostOf Qc mc ms free) := va_backW (hh := hh) (bytes := bytes) (maxL := maxL) (ret := ret) hM hp.1 hrc hrs hfr hlo hws hcw (fun a' U hW => word_at hW (Or.inl (by first | rfl | simp [Cond.onTables, Cond.keeps, Cond.steady])) hini)
  obtain ⟨hx, hb, hml, ho, -⟩ := S
  intro T hT X
  obtain ⟨v, vm₁, ⟨U', l2, c2, s2⟩, hW₁, X', ⟨g', mk, t, L, e1, e2, hq, h1, hL, h2, h3⟩, st⟩ := vx_callSW X hx (hh := hh) (bytes := bytes) (maxL := maxL) (ret := ret) ho hl hstt hini hcode hy hK hg (hsize.trans hml.symm) (argsL := As) (rest := rest) (fun sig h => hn.trans (hlen sig h)) hstack hW (by rw [hb]; exact hdg)
    (fun vm₁ hW₁ => ⟨hf.1, hf.2, hp.2 (T.setVm vm₁) hT hW₁⟩)
  dsimp only [Pt.U, Pt.locs, Pt.cells, Pt.slots] at X' e1 e2 h1 h2 h3 st
  subst h1; subst h2; subst h3
  exact ⟨v, (T.setVm vm₁).calling g' mk As.toArray, t, U', L, hT, X', hL, e1, e2, hq, st⟩
/-- a thing of a world lies in the heap -/
theorem vx_lt {D : va_G} {cl : List vw_C} {ws : va_W} {H1 : Heap} (h : va_P D cl ws H1) {k : Nat} {q : Nat × va_E} (hk : ws[k]? = some q) : q.1 < H1.size := (h k q hk).lt
end VXS
/-! ===== END ===== -/
/-! ===== BEGIN methods with a table of their own: called by a name, returning or throwing ===== -/
section VXH
/-! vx_backW, vx_callVX, vx_callSX, vx_callVW, vx_runVW, vx_runVX, vx_runSX, vx_ofWH follow the same proofs as their sisters above (Free/Laws.lean, Shelf42/LK1.lean); vx_outP calls Shelf42/NT130.lean (outThrough). -/
section
variable {l : Launch} {R : Room} {p : Program} {e : Env} {below : List Frame} {s : State} {sargs : Array Value} {y : MethodName} {len W9 : Nat}
theorem vx_backW {ws : List Cond} {rm : Room} {Pc : Array Value → State → Prop} {Qc : Array Value → State → Outcome → State → Prop} {XC : String → State → State → Prop} {mc ms : Nat} {free : Addr → Prop} {bytes : ByteArray} {maxL : Nat} {ret : Option FieldType} {hh : List (Nat × Nat × Nat × Nat)}
    (hM : vx_Met l y ws rm Pc Qc XC mc ms free) (hblind : FrameBlind Pc) (hrc : rm.cells = mc) (hrs : rm.slots = ms)
    (hframes : rm.frames + 1 ≤ R.frames) (hlocals : W9 + (maxL + 11) + rm.locals ≤ R.locals)
    (hws : ∀ w ∈ ws, ∀ a' U, s.WarmedH U.vm → w.before a' U = true) (hcode : Cond.codeWith y bytes maxL ret hh ∈ ws) (hinit : ∀ a' U, s.WarmedH U.vm → (Cond.initialized y.cls).before a' U = true) :
    vx_Back l R p e below s sargs y len W9 (PreOf R mc ms Pc) (PostOf Qc mc ms free) (vx_Post XC mc ms free) := by
  intro m meth c A g ig mk a X hg hsize hdg hW hn hp
  have h1 : (headSpec ws rm).pre.before a A.U = true := atoms_intro fun w hw => hws w hw _ _ X.warmed
  have h2 : (Cond.codeWith y bytes maxL ret hh).before a A.U = true := hws _ hcode _ _ X.warmed
  have h3 : (Cond.initialized y.cls).before a A.U = true := hinit _ _ X.warmed
  have h4 : A.cells + (headSpec ws rm).room.cells ≤ R.cells := by rw [show (headSpec ws rm).room.cells = mc from hrc]; exact hp.1
  have h5 : A.slots + (headSpec ws rm).room.slots ≤ R.slots := by rw [show (headSpec ws rm).room.slots = ms from hrs]; exact hp.2.1
  have hPc : Pc a (A.U.calling g mk a) := hblind _ _ _ _ hp.2.2
  obtain ⟨U, Ls, c0, s0⟩ := A
  dsimp only [Pt.U, Pt.locs, Pt.cells, Pt.slots] at h1 h2 h3 h4 h5 X hn hPc ⊢
  obtain ⟨m9, methY, cY, hn9, hmY, hcY, -, hlY, -⟩ := Cond.codeWith_spec h2
  cases Option.some.inj (hn9.symm.trans hn)
  obtain ⟨kY, hkY, -⟩ := className_of_methodNamed hn
  have hinitY : kY.init = .initialized := Cond.initialized_spec (findClass_of_methodNamed hn) hkY h3
  have h : At U g.method c below := by rw [hg]; exact X.here
  have hlocals9 : W9 + (maxL + 11) + (headSpec ws rm).room.locals ≤ R.locals := hlocals
  have happ : (headSpec ws rm).appliesLoose y e.platform (U.calling g mk a) = true :=
    Spec.appliesLoose_calling (g := g) h hdg hn hkY hinitY
      (X.room_calling (g := g) (R' := (headSpec ws rm).room) hsize hmY hcY hframes (by rw [hlY]; omega) h4 h5) h1
  obtain ⟨mid, hmid⟩ := h.above
  have hfr : (U.setTop g).frames = (.java g :: mid) ++ below := by rw [State.frames_setTop' g h.top, hmid]; rfl
  obtain ⟨o, s₂, hsteps, -, hend, hq⟩ := Steps.callFree hM p X.admits X.cas X.clock (acts := []) hfr happ hPc trivial
  have hq' : vx_Q Qc XC mc ms free a (U.calling g mk a) o s₂ := hq
  rw [State.frames_setTop' g h.top] at hend
  obtain ⟨g₀, hg0⟩ := Option.isSome_iff_exists.mp h.top
  obtain ⟨r, hr⟩ := State.topJava?_eq_some.mp hg0
  have hr' : (({ U with heap := s₂.heap, slotsUsed := s₂.slotsUsed } : State).setVm s₂.vm).frames = .java g₀ :: r := hr
  rcases hq' with ⟨hqc, L, hfe, hL⟩ | ⟨q, rfl, E, ce, L, hx, hce, hcv, hcl, hW₂, hsm, hL⟩
  · obtain ⟨⟨v, rfl⟩, hW₂, e2, q2, q3, q4, q5, q6⟩ := id hfe
    have e3 : s₂ = ({ (U.calling g mk a).setFrames s₂.frames with heap := s₂.heap, slotsUsed := s₂.slotsUsed } : State).setVm s₂.vm := by
      have : s₂ = ({ s₂ with vm := (U.calling g mk a).vm } : State).setVm s₂.vm := rfl
      rw [e2] at this
      exact this
    obtain ⟨c₂, i₂, len₂, hc₂, hd₂, hf₂⟩ := hend
    have hW' : U.WarmedH s₂.vm := hW₂
    have hcc : c₂ = c := by
      have h1 : s₂.code? g.method = U.code? g.method := by
        rw [State.code?_eq, State.code?_eq, hW'.alike.method?]
      exact Option.some.inj (hc₂.symm.trans (h1.trans h.code))
    subst hcc
    have hlen : len₂ = len := by rw [hdg] at hd₂; cases hd₂; rfl
    subst hlen
    have hs₂ : s₂ = (({ U with heap := s₂.heap, slotsUsed := s₂.slotsUsed } : State).setVm s₂.vm).setTop { g with pc := g.pc + len₂, stack := v.toList ++ g.stack } := by
      refine e3.trans ?_
      rw [hf₂, State.calling_eq h.top, State.setFrames_setFrames, State.setTop_of_frames _ hr', hr]
      rfl
    have hsame : U.sameButNew ({ U with heap := s₂.heap, slotsUsed := s₂.slotsUsed } : State) L mc ms := by
      refine ⟨?_, q2, q3, q4, q5, q6⟩
      obtain ⟨t, ht, -⟩ := State.frames_cons hr
      show ({ U with heap := s₂.heap, slotsUsed := s₂.slotsUsed } : State) = { U.setFrames U.frames with heap := s₂.heap, slotsUsed := s₂.slotsUsed }
      rw [State.setFrames_self ht]
    subst hg
    refine Or.inl ⟨v, ⟨(({ U with heap := s₂.heap, slotsUsed := s₂.slotsUsed } : State).setVm s₂.vm), Ls ++ L, c0 + mc, s0 + ms⟩,
      ⟨X.admits, X.cas, X.clock, X.frames, X.room, X.hears, X.method, X.code, (X.here.setHeapUsed s₂.heap s₂.slotsUsed).setVm hW'.alike, X.tail, State.WarmedH.trans X.warmed hW', X.limits, X.bytes, X.same.trans (hsame.setVm s.vm)⟩,
      ⟨g, mk, s₂, L, rfl, rfl, hqc, rfl, hL, rfl, rfl⟩, ?_⟩
    show Steps p.tables e below _ ((({ U with heap := s₂.heap, slotsUsed := s₂.slotsUsed } : State).setVm s₂.vm).setTop { g with pc := g.pc + len₂, stack := v.toList ++ g.stack })
    rw [← hs₂]
    exact hsteps
  · obtain ⟨e2, q2, q3, q4, q5, q6⟩ := id hsm
    have e3 : s₂ = ({ (U.calling g mk a).setFrames s₂.frames with heap := s₂.heap, slotsUsed := s₂.slotsUsed } : State).setVm s₂.vm := by
      have : s₂ = ({ s₂ with vm := (U.calling g mk a).vm } : State).setVm s₂.vm := rfl
      rw [e2] at this
      exact this
    have hf₂ : s₂.frames = .throwing q :: .java g :: U.frames.tail := hend
    have hW' : U.WarmedH s₂.vm := hW₂
    have hs₂ : s₂ = ((({ U with heap := s₂.heap, slotsUsed := s₂.slotsUsed } : State).setVm s₂.vm).setTop g).pushFrame (.throwing q) := by
      refine e3.trans ?_
      rw [hf₂, State.calling_eq h.top, State.setFrames_setFrames, State.pushFrame, State.frames_setTop _ hr', State.setTop_of_frames _ hr', State.setFrames_setFrames, hr]
      rfl
    have hsame : U.sameButNew ({ U with heap := s₂.heap, slotsUsed := s₂.slotsUsed } : State) L mc ms := by
      refine ⟨?_, q2, q3, q4, q5, q6⟩
      obtain ⟨t, ht, -⟩ := State.frames_cons hr
      show ({ U with heap := s₂.heap, slotsUsed := s₂.slotsUsed } : State) = { U.setFrames U.frames with heap := s₂.heap, slotsUsed := s₂.slotsUsed }
      rw [State.setFrames_self ht]
    subst hg
    refine Or.inr ⟨q, ⟨(({ U with heap := s₂.heap, slotsUsed := s₂.slotsUsed } : State).setVm s₂.vm), Ls ++ L, c0 + mc, s0 + ms⟩,
      ⟨X.admits, X.cas, X.clock, X.frames, X.room, X.hears, X.method, X.code, (X.here.setHeapUsed s₂.heap s₂.slotsUsed).setVm hW'.alike, X.tail, State.WarmedH.trans X.warmed hW', X.limits, X.bytes, X.same.trans (hsame.setVm s.vm)⟩,
      ⟨g, mk, s₂, L, E, ce, rfl, rfl, hx, hce, hcv, hcl, rfl, hL, rfl, rfl⟩, ?_⟩
    show Steps p.tables e below _ (((({ U with heap := s₂.heap, slotsUsed := s₂.slotsUsed } : State).setVm s₂.vm).setTop g).pushFrame (.throwing q))
    rw [← hs₂]
    exact hsteps
end
variable {p : Program} {l : Launch} {e : Env} {R : Room} {s : State} {m : MethodId} {args : Array Value} {below : List Frame} {meth : Method} {c : Code} {T : State} {H : Heap} {locs : List Loc} {cells slots : Nat}
theorem vx_callVX (X : Stand p l e R s m args below meth c T locs cells slots) (hexec : p.tables.exec = Jvm.exec) {own C : String} {index : Nat} {y : MethodName} {bytes : ByteArray} {maxL : Nat} {ret : Option FieldType} {hh : List (Nat × Nat × Nat × Nat)}
    (hown : s.vm.findClass own = some m.cls) (hlink : (Cond.methodLink own index y).before args s = true) (hinst : (Cond.instanceMethod y).before args s = true) (hsel : (Cond.selects C y y).before args s = true)
    (hcode : (Cond.codeWith y bytes maxL ret hh).before args s = true) (hy : y.cls ≠ "java/lang/invoke/MethodHandle" ∧ y.cls ≠ "java/lang/invoke/VarHandle")
    {W9 : Nat} {Pre : Pt → Array Value → Prop} {Post : Pt → Array Value → Option Value → Pt → Prop} {PostX : Pt → Array Value → Addr → Pt → Prop} (hK : vx_Back l R p e below s args y 3 W9 Pre Post PostX)
    {b : Addr} {cellB : Cell} (hcell : T.heap[b]? = some cellB) (hobj : cellB.vm.isStatics = false) (hcls : s.vm.findClass C = some cellB.cls)
    {g : JFrame} (hg : g.method = m) (hsize : g.locals.size = c.maxLocals) {argsL rest : List Value} (hlen : ∀ sig, parseMethodDescriptor y.desc = some sig → argsL.length = sig.parameters.length)
    (hstack : g.stack = argsL.reverse ++ .ref b :: rest) (hW : 2 * g.monitorRoom + (rest.map fun v => v.category).sum ≤ W9) (hdg : decode c.code g.pc = .ok (.invokevirtual index, 3))
    (hpre : ∀ vm₁, s.WarmedH vm₁ → Pre ⟨T.setVm vm₁, locs, cells, slots⟩ (Value.ref b :: argsL).toArray) :
    (∃ (v : Option Value) (vm₁ : Vm) (B : Pt), s.WarmedH vm₁ ∧ Stand p l e R s m args below meth c B.U B.locs B.cells B.slots ∧ Post ⟨T.setVm vm₁, locs, cells, slots⟩ (Value.ref b :: argsL).toArray v B ∧
      ∀ target, Steps p.tables e below (B.U.setTop { g with pc := g.pc + 3, stack := v.toList ++ rest }) target → Steps p.tables e below (T.setTop g) target) ∨
    (∃ (q : Addr) (vm₁ : Vm) (B : Pt), s.WarmedH vm₁ ∧ Stand p l e R s m args below meth c B.U B.locs B.cells B.slots ∧ PostX ⟨T.setVm vm₁, locs, cells, slots⟩ (Value.ref b :: argsL).toArray q B ∧
      Steps p.tables e below (T.setTop g) ((B.U.setTop { g with stack := rest }).pushFrame (.throwing q))) := by
  obtain ⟨mk, methM, hnamed, hmethM, hstM, habM⟩ := Cond.instanceMethod_spec hinst
  obtain ⟨m8, methM', cM, hn8, hmethM', -, -, -, -, -, -, hsigM⟩ := Cond.codeWith_spec hcode
  cases Option.some.inj (hn8.symm.trans hnamed)
  cases hmethM.symm.trans hmethM'
  obtain ⟨c2, r2, m2, q1, q2, q3, q4, kP, hkP, hkPi⟩ := Cond.selects_spec hsel
  cases hcls.symm.trans q1
  cases (State.methodFound?_of_named hnamed hy).symm.trans q2
  cases hnamed.symm.trans q3
  have hselP : selectMethod e.platform s.vm cellB.cls mk = .method mk := by rw [Launch.admits_selectMethod X.admits]; exact q4
  obtain ⟨vm₁, X₁, hstep₁⟩ := X.invokevirtual hexec hown hlink hnamed hmethM hstM hkP hkPi hy (a := b) (cell := cellB) hcell
    (fun z h => by rw [h] at hobj; cases hobj) hselP hmethM habM hkP hkPi (g := g) hg (argsL := argsL) (rest := rest) (hlen _ hsigM) hstack hdg
  rcases hK m meth c ⟨T.setVm vm₁, locs, cells, slots⟩ { g with stack := rest } (.invokevirtual index) mk (Value.ref b :: argsL).toArray X₁ hg hsize hdg hW (X₁.named hnamed) (hpre vm₁ X₁.warmed) with ⟨v, B, X', hpost, hsteps⟩ | ⟨q, B, X', hpost, hsteps⟩
  · exact Or.inl ⟨v, vm₁, B, X₁.warmed, X', hpost, fun target h => hstep₁ _ fun acts => by rw [doInvoke_state]; exact hsteps.trans h⟩
  · exact Or.inr ⟨q, vm₁, B, X₁.warmed, X', hpost, hstep₁ _ fun acts => by rw [doInvoke_state]; exact hsteps⟩
theorem vx_callSX (X : Stand p l e R s m args below meth c T locs cells slots) (hexec : p.tables.exec = Jvm.exec) {own : String} {index : Nat} {y : MethodName} {bytes : ByteArray} {maxL : Nat} {ret : Option FieldType} {hh : List (Nat × Nat × Nat × Nat)}
    (hown : s.vm.findClass own = some m.cls) (hlink : (Cond.methodLink own index y).before args s = true) (hstat : (Cond.static y).before args s = true) (hinit : (Cond.initialized y.cls).before args s = true)
    (hcode : (Cond.codeWith y bytes maxL ret hh).before args s = true) (hy : y.cls ≠ "java/lang/invoke/MethodHandle" ∧ y.cls ≠ "java/lang/invoke/VarHandle")
    {W9 : Nat} {Pre : Pt → Array Value → Prop} {Post : Pt → Array Value → Option Value → Pt → Prop} {PostX : Pt → Array Value → Addr → Pt → Prop} (hK : vx_Back l R p e below s args y 3 W9 Pre Post PostX)
    {g : JFrame} (hg : g.method = m) (hsize : g.locals.size = c.maxLocals) {argsL rest : List Value} (hlen : ∀ sig, parseMethodDescriptor y.desc = some sig → argsL.length = sig.parameters.length)
    (hstack : g.stack = argsL.reverse ++ rest) (hW : 2 * g.monitorRoom + (rest.map fun v => v.category).sum ≤ W9) (hdg : decode c.code g.pc = .ok (.invokestatic index, 3))
    (hpre : ∀ vm₁, s.WarmedH vm₁ → Pre ⟨T.setVm vm₁, locs, cells, slots⟩ argsL.toArray) :
    (∃ (v : Option Value) (vm₁ : Vm) (B : Pt), s.WarmedH vm₁ ∧ Stand p l e R s m args below meth c B.U B.locs B.cells B.slots ∧ Post ⟨T.setVm vm₁, locs, cells, slots⟩ argsL.toArray v B ∧
      ∀ target, Steps p.tables e below (B.U.setTop { g with pc := g.pc + 3, stack := v.toList ++ rest }) target → Steps p.tables e below (T.setTop g) target) ∨
    (∃ (q : Addr) (vm₁ : Vm) (B : Pt), s.WarmedH vm₁ ∧ Stand p l e R s m args below meth c B.U B.locs B.cells B.slots ∧ PostX ⟨T.setVm vm₁, locs, cells, slots⟩ argsL.toArray q B ∧
      Steps p.tables e below (T.setTop g) ((B.U.setTop { g with stack := rest }).pushFrame (.throwing q))) := by
  obtain ⟨mk, methM, cM, hnamed, hmethM, -, -, -, -, -, -, hsigM⟩ := Cond.codeWith_spec hcode
  have hstatic : methM.isStatic = true := Cond.static_spec hnamed hmethM hstat
  obtain ⟨kP, hkP, -⟩ := className_of_methodNamed hnamed
  have hinitP : kP.init = .initialized := Cond.initialized_spec (findClass_of_methodNamed hnamed) hkP hinit
  obtain ⟨vm₁, X₁, hstep₁⟩ := X.invokestatic hexec hown hlink hnamed hmethM hstatic hkP hinitP hy (g := g) hg (argsL := argsL) (rest := rest) (hlen _ hsigM) hstack hdg
  rcases hK m meth c ⟨T.setVm vm₁, locs, cells, slots⟩ { g with stack := rest } (.invokestatic index) mk argsL.toArray X₁ hg hsize hdg hW (X₁.named hnamed) (hpre vm₁ X₁.warmed) with ⟨v, B, X', hpost, hsteps⟩ | ⟨q, B, X', hpost, hsteps⟩
  · exact Or.inl ⟨v, vm₁, B, X₁.warmed, X', hpost, fun target h => hstep₁ _ fun acts => by rw [doInvoke_state]; exact hsteps.trans h⟩
  · exact Or.inr ⟨q, vm₁, B, X₁.warmed, X', hpost, hstep₁ _ fun acts => by rw [doInvoke_state]; exact hsteps⟩
theorem vx_callVW (X : Stand p l e R s m args below meth c T locs cells slots) (hexec : p.tables.exec = Jvm.exec) {own C : String} {index : Nat} {y : MethodName} {bytes : ByteArray} {maxL : Nat} {ret : Option FieldType} {hh : List (Nat × Nat × Nat × Nat)}
    (hown : s.vm.findClass own = some m.cls) (hlink : (Cond.methodLink own index y).before args s = true) (hinst : (Cond.instanceMethod y).before args s = true) (hsel : (Cond.selects C y y).before args s = true)
    (hcode : (Cond.codeWith y bytes maxL ret hh).before args s = true) (hy : y.cls ≠ "java/lang/invoke/MethodHandle" ∧ y.cls ≠ "java/lang/invoke/VarHandle")
    {W9 : Nat} {Pre : Pt → Array Value → Prop} {Post : Pt → Array Value → Option Value → Pt → Prop} (hK : Back l R p e below s args y 3 W9 Pre Post)
    {b : Addr} {cellB : Cell} (hcell : T.heap[b]? = some cellB) (hobj : cellB.vm.isStatics = false) (hcls : s.vm.findClass C = some cellB.cls)
    {g : JFrame} (hg : g.method = m) (hsize : g.locals.size = c.maxLocals) {argsL rest : List Value} (hlen : ∀ sig, parseMethodDescriptor y.desc = some sig → argsL.length = sig.parameters.length)
    (hstack : g.stack = argsL.reverse ++ .ref b :: rest) (hW : 2 * g.monitorRoom + (rest.map fun v => v.category).sum ≤ W9) (hdg : decode c.code g.pc = .ok (.invokevirtual index, 3))
    (hpre : ∀ vm₁, s.WarmedH vm₁ → Pre ⟨T.setVm vm₁, locs, cells, slots⟩ (Value.ref b :: argsL).toArray) :
    ∃ (v : Option Value) (vm₁ : Vm) (B : Pt), s.WarmedH vm₁ ∧ Stand p l e R s m args below meth c B.U B.locs B.cells B.slots ∧ Post ⟨T.setVm vm₁, locs, cells, slots⟩ (Value.ref b :: argsL).toArray v B ∧
      ∀ target, Steps p.tables e below (B.U.setTop { g with pc := g.pc + 3, stack := v.toList ++ rest }) target → Steps p.tables e below (T.setTop g) target := by
  obtain ⟨mk, methM, hnamed, hmethM, hstM, habM⟩ := Cond.instanceMethod_spec hinst
  obtain ⟨m8, methM', cM, hn8, hmethM', -, -, -, -, -, -, hsigM⟩ := Cond.codeWith_spec hcode
  cases Option.some.inj (hn8.symm.trans hnamed)
  cases hmethM.symm.trans hmethM'
  obtain ⟨c2, r2, m2, q1, q2, q3, q4, kP, hkP, hkPi⟩ := Cond.selects_spec hsel
  cases hcls.symm.trans q1
  cases (State.methodFound?_of_named hnamed hy).symm.trans q2
  cases hnamed.symm.trans q3
  have hselP : selectMethod e.platform s.vm cellB.cls mk = .method mk := by rw [Launch.admits_selectMethod X.admits]; exact q4
  obtain ⟨vm₁, X₁, hstep₁⟩ := X.invokevirtual hexec hown hlink hnamed hmethM hstM hkP hkPi hy (a := b) (cell := cellB) hcell
    (fun z h => by rw [h] at hobj; cases hobj) hselP hmethM habM hkP hkPi (g := g) hg (argsL := argsL) (rest := rest) (hlen _ hsigM) hstack hdg
  obtain ⟨v, B, X', hpost, hsteps⟩ := hK m meth c ⟨T.setVm vm₁, locs, cells, slots⟩ { g with stack := rest } (.invokevirtual index) mk (Value.ref b :: argsL).toArray X₁ hg hsize hdg hW (X₁.named hnamed) (hpre vm₁ X₁.warmed)
  exact ⟨v, vm₁, B, X₁.warmed, X', hpost, fun target h => hstep₁ _ fun acts => by rw [doInvoke_state]; exact hsteps.trans h⟩
abbrev vx_CVW (R : Room) (s : State) (args : Array Value) (own C : String) (index : Nat) (y : MethodName) (bytes : ByteArray) (maxL : Nat) (ret : Option FieldType) (hh : List (Nat × Nat × Nat × Nat)) (ws : List Cond) (rm : Room) (mc ms n : Nat) : Prop :=
  (rm.cells = mc ∧ rm.slots = ms ∧ rm.frames + 1 ≤ R.frames ∧ 8 + (maxL + 11) + rm.locals ≤ R.locals ∧ (∀ w ∈ ws, ∀ (a' : Array Value) (U : State), s.WarmedH U.vm → w.before a' U = true) ∧ Cond.codeWith y bytes maxL ret hh ∈ ws) ∧
  (Cond.codeWith y bytes maxL ret hh).before args s = true ∧ (Cond.initialized y.cls).before args s = true ∧ (y.cls ≠ "java/lang/invoke/MethodHandle" ∧ y.cls ≠ "java/lang/invoke/VarHandle") ∧
  (∀ sig, parseMethodDescriptor y.desc = some sig → n = sig.parameters.length) ∧ (Cond.methodLink own index y).before args s = true ∧ (Cond.instanceMethod y).before args s = true ∧ (Cond.selects C y y).before args s = true
theorem vx_cwVW {own C : String} {index maxL mc ms : Nat} {y : MethodName} {bytes : ByteArray} {ret : Option FieldType} {hh : List (Nat × Nat × Nat × Nat)} {Ts ws ws' : List Cond} {rm : Room} (n : Nat) (ht : ∀ w ∈ Ts, w.before args s = true) (hT : GoodIn Ts (wsV own index C y ws)) (hw : ws = Cond.codeWith y bytes maxL ret hh :: ws') (hrc : rm.cells = mc) (hrs : rm.slots = ms)
    (hd : y.cls = C ∧ y.cls ≠ "java/lang/invoke/MethodHandle" ∧ y.cls ≠ "java/lang/invoke/VarHandle" ∧ (parseMethodDescriptor y.desc).map (fun d => d.parameters.length) = some n) (hR : rm.frames + 1 ≤ R.frames ∧ 8 + (maxL + 11) + rm.locals ≤ R.locals) :
    vx_CVW R s args own C index y bytes maxL ret hh ws rm mc ms n := by
  obtain ⟨hC, hd⟩ := hd
  subst hC
  have ok : ∀ w ∈ wsV own index y.cls y ws, w.before args s = true := fun w h => ht w (hT w h).1
  have hG : GoodIn Ts ws := fun w h => hT w (by unfold wsV; exact List.mem_append_right _ h)
  have hc : Cond.codeWith y bytes maxL ret hh ∈ ws := by rw [hw]; exact List.mem_cons_self
  refine ⟨⟨hrc, hrs, hR.1, hR.2, pay_in ht hG, hc⟩, ht _ (hG _ hc).1, ok _ (by simp [wsV]), ⟨hd.1, hd.2.1⟩, fun sig h => ?_, ok _ (by simp [wsV]), ok _ (by simp [wsV]), ok _ (by simp [wsV])⟩
  have h2 := hd.2.2
  rw [h] at h2
  exact (Option.some.inj h2).symm
theorem vx_runVW {y : MethodName} {bytes cc : ByteArray} {maxL nL mc ms n index : Nat} {ret : Option FieldType} {hh : List (Nat × Nat × Nat × Nat)} {ws : List Cond} {rm : Room} {Pc : Array Value → State → Prop} {Qc : Array Value → State → Outcome → State → Prop} {free : Addr → Prop} {Ts : List Cond} {own C : String} {b : Addr} {As rest : List Value} {g : JFrame}
    (S : CallFix p m c cc nL s args Ts own) (hM : Met l y ws rm Pc Qc mc ms free) (cw : vx_CVW R s args own C index y bytes maxL ret hh ws rm mc ms n) (hp : PreV s H C b Pc As)
    (hg : g.method = m) (hn : As.length = n) (hsize : g.locals.size = nL) (hstack : g.stack = As.reverse ++ .ref b :: rest) (hW : 2 * g.monitorRoom + (rest.map fun v => v.category).sum ≤ 8) (hdg : decode cc g.pc = .ok (.invokevirtual index, 3)) (hf : cells + mc ≤ R.cells ∧ slots + ms ≤ R.slots) :
    va_Run p l e R s m args below meth c H locs cells slots mc ms g rest (Qc (Value.ref b :: As).toArray) free := by
  obtain ⟨⟨hrc, hrs, hfr, hlo, hws, hcw⟩, hcode, hini, hy, hlen, hl, hin, hse⟩ := cw
  have hK : Back l R p e below s args y 3 8 (PreOf R mc ms Pc) (PostOf Qc mc ms free) := va_backW (hh := hh) (bytes := bytes) (maxL := maxL) (ret := ret) hM hp.1 hrc hrs hfr hlo hws hcw (fun a' U hW => word_at hW (Or.inl (by first | rfl | simp [Cond.onTables, Cond.keeps, Cond.steady])) hini)
  obtain ⟨hx, hb, hml, ho, -⟩ := S
  obtain ⟨-, ⟨cellB, hcB, hoB, hclB⟩, hPc⟩ := hp
  intro T hT X
  obtain ⟨v, vm₁, ⟨U', l2, c2, s2⟩, hW₁, X', ⟨g', mk, t, L, e1, e2, hq, h1, hL, h2, h3⟩, st⟩ := vx_callVW X hx (C := C) (hh := hh) (bytes := bytes) (maxL := maxL) (ret := ret) ho hl hin hse hcode hy hK (by rw [hT]; exact hcB) hoB hclB hg (hsize.trans hml.symm) (argsL := As) (rest := rest) (fun sig h => hn.trans (hlen sig h)) hstack hW (by rw [hb]; exact hdg)
    (fun vm₁ hW₁ => ⟨hf.1, hf.2, hPc (T.setVm vm₁) hT hW₁⟩)
  dsimp only [Pt.U, Pt.locs, Pt.cells, Pt.slots] at X' e1 e2 h1 h2 h3 st
  subst h1; subst h2; subst h3
  exact ⟨v, (T.setVm vm₁).calling g' mk (Value.ref b :: As).toArray, t, U', L, hT, X', hL, e1, e2, hq, st⟩
section
variable {y : MethodName} {bytes cc : ByteArray} {maxL nL mc ms n index : Nat} {ret : Option FieldType} {ws : List Cond} {rm : Room} {Pc : Array Value → State → Prop} {Qc : Array Value → State → Outcome → State → Prop} {XC : String → State → State → Prop} {free : Addr → Prop} {Ts : List Cond} {own C : String} {b : Addr} {As rest : List Value} {g : JFrame}
theorem vx_runVX {hh : List (Nat × Nat × Nat × Nat)} (S : CallFix p m c cc nL s args Ts own) (hM : vx_Met l y ws rm Pc Qc XC mc ms free) (cw : vx_CVW R s args own C index y bytes maxL ret hh ws rm mc ms n) (hp : PreV s H C b Pc As)
    (hg : g.method = m) (hn : As.length = n) (hsize : g.locals.size = nL) (hstack : g.stack = As.reverse ++ .ref b :: rest) (hW : 2 * g.monitorRoom + (rest.map fun v => v.category).sum ≤ 8) (hdg : decode cc g.pc = .ok (.invokevirtual index, 3)) (hf : cells + mc ≤ R.cells ∧ slots + ms ≤ R.slots) :
    vx_Run p l e R s m args below meth c H locs cells slots mc ms g rest (Qc (Value.ref b :: As).toArray) XC free := by
  obtain ⟨⟨hrc, hrs, hfr, hlo, hws, hcw⟩, hcode, hini, hy, hlen, hl, hin, hse⟩ := cw
  have hK : vx_Back l R p e below s args y 3 8 (PreOf R mc ms Pc) (PostOf Qc mc ms free) (vx_Post XC mc ms free) := vx_backW (hh := hh) (bytes := bytes) (maxL := maxL) (ret := ret) hM hp.1 hrc hrs hfr hlo hws hcw (fun a' U hW => word_at hW (Or.inl (by first | rfl | simp [Cond.onTables, Cond.keeps, Cond.steady])) hini)
  obtain ⟨hx, hb, hml, ho, -⟩ := S
  obtain ⟨-, ⟨cellB, hcB, hoB, hclB⟩, hPc⟩ := hp
  intro T hT X
  rcases vx_callVX X hx (C := C) (hh := hh) (bytes := bytes) (maxL := maxL) (ret := ret) ho hl hin hse hcode hy hK (by rw [hT]; exact hcB) hoB hclB hg (hsize.trans hml.symm) (argsL := As) (rest := rest) (fun sig h => hn.trans (hlen sig h)) hstack hW (by rw [hb]; exact hdg)
    (fun vm₁ hW₁ => ⟨hf.1, hf.2, hPc (T.setVm vm₁) hT hW₁⟩) with ⟨v, vm₁, ⟨U', l2, c2, s2⟩, hW₁, X', ⟨g', mk, t, L, e1, e2, hq, h1, hL, h2, h3⟩, st⟩ | ⟨q, vm₁, ⟨U', l2, c2, s2⟩, hW₁, X', ⟨g', mk, t, L, E, ce, e1, e2, hq, hce, hcv, hcl, h1, hL, h2, h3⟩, st⟩
  · dsimp only [Pt.U, Pt.locs, Pt.cells, Pt.slots] at X' e1 e2 h1 h2 h3 st
    subst h1; subst h2; subst h3
    exact Or.inl ⟨v, (T.setVm vm₁).calling g' mk (Value.ref b :: As).toArray, t, U', L, hT, X', hL, e1, e2, hq, st⟩
  · dsimp only [Pt.U, Pt.locs, Pt.cells, Pt.slots] at X' e1 e2 h1 h2 h3 st hcl
    subst h1; subst h2; subst h3
    exact Or.inr ⟨q, (T.setVm vm₁).calling g' mk (Value.ref b :: As).toArray, t, U', L, E, ce, hT, X', hL, e1, e2, hq, hce, hcv, vx_cls hW₁ hcl, st⟩
theorem vx_runSX {hh : List (Nat × Nat × Nat × Nat)} (S : CallFix p m c cc nL s args Ts own) (hM : vx_Met l y ws rm Pc Qc XC mc ms free) (cw : vx_CSW R s args own index y bytes maxL ret hh ws rm mc ms n) (hp : PreS s H Pc As)
    (hg : g.method = m) (hn : As.length = n) (hsize : g.locals.size = nL) (hstack : g.stack = As.reverse ++ rest) (hW : 2 * g.monitorRoom + (rest.map fun v => v.category).sum ≤ 8) (hdg : decode cc g.pc = .ok (.invokestatic index, 3)) (hf : cells + mc ≤ R.cells ∧ slots + ms ≤ R.slots) :
    vx_Run p l e R s m args below meth c H locs cells slots mc ms g rest (Qc As.toArray) XC free := by
  obtain ⟨⟨hrc, hrs, hfr, hlo, hws, hcw⟩, hcode, hini, hy, hlen, hl, hstt⟩ := cw
  have hK : vx_Back l R p e below s args y 3 8 (PreOf R mc ms Pc) (PostOf Qc mc ms free) (vx_Post XC mc ms free) := vx_backW (hh := hh) (bytes := bytes) (maxL := maxL) (ret := ret) hM hp.1 hrc hrs hfr hlo hws hcw (fun a' U hW => word_at hW (Or.inl (by first | rfl | simp [Cond.onTables, Cond.keeps, Cond.steady])) hini)
  obtain ⟨hx, hb, hml, ho, -⟩ := S
  intro T hT X
  rcases vx_callSX X hx (hh := hh) (bytes := bytes) (maxL := maxL) (ret := ret) ho hl hstt hini hcode hy hK hg (hsize.trans hml.symm) (argsL := As) (rest := rest) (fun sig h => hn.trans (hlen sig h)) hstack hW (by rw [hb]; exact hdg)
    (fun vm₁ hW₁ => ⟨hf.1, hf.2, hp.2 (T.setVm vm₁) hT hW₁⟩) with ⟨v, vm₁, ⟨U', l2, c2, s2⟩, hW₁, X', ⟨g', mk, t, L, e1, e2, hq, h1, hL, h2, h3⟩, st⟩ | ⟨q, vm₁, ⟨U', l2, c2, s2⟩, hW₁, X', ⟨g', mk, t, L, E, ce, e1, e2, hq, hce, hcv, hcl, h1, hL, h2, h3⟩, st⟩
  · dsimp only [Pt.U, Pt.locs, Pt.cells, Pt.slots] at X' e1 e2 h1 h2 h3 st
    subst h1; subst h2; subst h3
    exact Or.inl ⟨v, (T.setVm vm₁).calling g' mk As.toArray, t, U', L, hT, X', hL, e1, e2, hq, st⟩
  · dsimp only [Pt.U, Pt.locs, Pt.cells, Pt.slots] at X' e1 e2 h1 h2 h3 st hcl
    subst h1; subst h2; subst h3
    exact Or.inr ⟨q, (T.setVm vm₁).calling g' mk As.toArray, t, U', L, E, ce, hT, X', hL, e1, e2, hq, hce, hcv, vx_cls hW₁ hcl, st⟩
end
end VXH
theorem vx_ofWH {l : Launch} {y : MethodName} {ws ws' : List Cond} {rm : Room} {Pc : Array Value → State → Prop} {Qc : Array Value → State → Outcome → State → Prop} {XC : String → State → State → Prop} {mc ms : Nat} {free : Addr → Prop} {cc : ByteArray} {maxL : Nat} {ret : Option FieldType} {hh : List (Nat × Nat × Nat × Nat)}
    (hy : plainName y.cls = true) (hw : ws = Cond.codeWith y cc maxL ret hh :: ws')
    (body : ∀ p e s m args below meth c s₁, BodyLoose p l y (headSpec ws rm) cc maxL ret e s m args below meth c s₁ → c.maxLocals = maxL → Pc args s →
      W p l e (headSpec ws rm).room s m args below meth c s.heap [] 0 0 (vx_MQ below Qc XC args s mc ms free) (entryFrame m args maxL)) : vx_Met l y ws rm Pc Qc XC mc ms free := by
  refine MetFree.of_bodyS (code := cc) (maxLocals := maxL) (ret := ret) hy ?_ ?_
  · intro args s m h hn
    obtain ⟨m9, meth, c, hn9, h1, h2, h3, h4, -, h5, h6, -⟩ := Cond.codeWith_spec (atoms_spec (ws := ws) h _ (by rw [hw]; exact List.mem_cons_self))
    cases hn.symm.trans hn9
    exact ⟨meth, c, h1, h2, h3, h4, h5, h6⟩
  · intro p e s m args below meth c s₁ B hml hP _
    have hh0 : s₁.heap = s.heap := by rw [B.state]; rfl
    obtain ⟨t, a1, o, b1, b2, b3⟩ := body p e s m args below meth c s₁ B hml hP s₁ hh0 (Stand.of_body B)
    exact ⟨t, o, a1, b1, b2, b3⟩
/-! ===== END ===== -/
end
section
/-! ===== BEGIN printed: names, fields, word lists, decode rows ===== -/
def RX0 : String := "PlaneColours$Colouring"
def TX0 : u_T := fun k => match k with
  | 0 => ("PlaneColours$Colouring", "graph", "LPlaneColours$Graph;", true)
  | 1 => ("PlaneColours$Colouring", "colourOfVertex", "[I", true)
  | 2 => ("PlaneColours$Colouring", "isTaken", "[Z", true)
  | 3 => ("PlaneColours$Colouring", "order", "[I", true)
  | 4 => ("PlaneColours$Colouring", "fiveRound", "[I", true)
  | 5 => ("PlaneColours$Colouring", "isInChain", "[Z", true)
  | 6 => ("PlaneColours$Colouring", "chain", "[I", true)
  | 7 => ("PlaneColours$Colouring", "chainSize", "I", false)
  | _ => ("PlaneColours$Colouring", "chainsChanged", "I", false)
def tyX0 : Nat → FieldType := fun k => match k with
  | 0 => .object "PlaneColours$Graph"
  | 1 => .array .int
  | 2 => .array .boolean
  | 3 => .array .int
  | 4 => .array .int
  | 5 => .array .boolean
  | 6 => .array .int
  | 7 => .int
  | _ => .int
abbrev wsX00 : List Cond := u_ws RX0 TX0 9
theorem nmX0 : ∀ a, a < 9 → ∀ b, b < 9 → a ≠ b → (TX0 a).2.1 ≠ (TX0 b).2.1 := by decide +kernel
theorem tyX0_ok : ∀ k, k < 9 → parseFieldDescriptor (TX0 k).2.2.1 = some (tyX0 k) := by decide +kernel
abbrev cX0_init : ByteArray := prog_2_method_1_code
def yX0_init : MethodName := ⟨RX0, "<init>", "(LPlaneColours$Graph;)V"⟩
abbrev cX0_forget : ByteArray := prog_2_method_2_code
def yX0_forget : MethodName := ⟨RX0, "forget", "()V"⟩
abbrev cX0_colourAll : ByteArray := prog_2_method_3_code
def yX0_colourAll : MethodName := ⟨RX0, "colourAll", "()V"⟩
abbrev cX0_takeAll : ByteArray := prog_2_method_4_code
def yX0_takeAll : MethodName := ⟨RX0, "takeAll", "()I"⟩
abbrev cX0_leastToTake : ByteArray := prog_2_method_5_code
def yX0_leastToTake : MethodName := ⟨RX0, "leastToTake", "()I"⟩
abbrev cX0_neighboursLeft : ByteArray := prog_2_method_6_code
def yX0_neighboursLeft : MethodName := ⟨RX0, "neighboursLeft", "(I)I"⟩
abbrev cX0_bringBack : ByteArray := prog_2_method_7_code
def yX0_bringBack : MethodName := ⟨RX0, "bringBack", "(I)V"⟩
abbrev cX0_leastFreeColour : ByteArray := prog_2_method_8_code
def yX0_leastFreeColour : MethodName := ⟨RX0, "leastFreeColour", "(I)I"⟩
abbrev cX0_colourFreedByChain : ByteArray := prog_2_method_9_code
def yX0_colourFreedByChain : MethodName := ⟨RX0, "colourFreedByChain", "(I)I"⟩
abbrev cX0_listFiveRound : ByteArray := prog_2_method_10_code
def yX0_listFiveRound : MethodName := ⟨RX0, "listFiveRound", "(I)V"⟩
abbrev cX0_collectChain : ByteArray := prog_2_method_11_code
def yX0_collectChain : MethodName := ⟨RX0, "collectChain", "(II)V"⟩
abbrev cX0_addNeighboursOf : ByteArray := prog_2_method_12_code
def yX0_addNeighboursOf : MethodName := ⟨RX0, "addNeighboursOf", "(III)V"⟩
abbrev cX0_addToChain : ByteArray := prog_2_method_13_code
def yX0_addToChain : MethodName := ⟨RX0, "addToChain", "(I)V"⟩
abbrev cX0_swapChain : ByteArray := prog_2_method_14_code
def yX0_swapChain : MethodName := ⟨RX0, "swapChain", "(II)V"⟩
abbrev cX0_coloursUsed : ByteArray := prog_2_method_15_code
def yX0_coloursUsed : MethodName := ⟨RX0, "coloursUsed", "()I"⟩
abbrev cX0_equalEnds : ByteArray := prog_2_method_16_code
def yX0_equalEnds : MethodName := ⟨RX0, "equalEnds", "()I"⟩
def RX1 : String := "PlaneColours$FaceRows"
def TX1 : u_T := fun k => match k with
  | 0 => ("PlaneColours$FaceRows", "graph", "LPlaneColours$Graph;", true)
  | 1 => ("PlaneColours$FaceRows", "faceOfSide", "[I", true)
  | 2 => ("PlaneColours$FaceRows", "leastSide", "[I", true)
  | 3 => ("PlaneColours$FaceRows", "lengths", "[I", true)
  | _ => ("PlaneColours$FaceRows", "count", "I", false)
def tyX1 : Nat → FieldType := fun k => match k with
  | 0 => .object "PlaneColours$Graph"
  | 1 => .array .int
  | 2 => .array .int
  | 3 => .array .int
  | _ => .int
abbrev wsX10 : List Cond := u_ws RX1 TX1 5
theorem nmX1 : ∀ a, a < 5 → ∀ b, b < 5 → a ≠ b → (TX1 a).2.1 ≠ (TX1 b).2.1 := by decide +kernel
theorem tyX1_ok : ∀ k, k < 5 → parseFieldDescriptor (TX1 k).2.2.1 = some (tyX1 k) := by decide +kernel
abbrev cX1_init : ByteArray := prog_3_method_1_code
def yX1_init : MethodName := ⟨RX1, "<init>", "(LPlaneColours$Graph;)V"⟩
abbrev cX1_survey : ByteArray := prog_3_method_2_code
def yX1_survey : MethodName := ⟨RX1, "survey", "()V"⟩
abbrev cX1_walkFrom : ByteArray := prog_3_method_3_code
def yX1_walkFrom : MethodName := ⟨RX1, "walkFrom", "(I)V"⟩
def RX2 : String := "PlaneColours$Graph"
def TX2 : u_T := fun k => match k with
  | 0 => ("PlaneColours$Graph", "start", "[I", true)
  | 1 => ("PlaneColours$Graph", "next", "[I", true)
  | 2 => ("PlaneColours$Graph", "previous", "[I", true)
  | 3 => ("PlaneColours$Graph", "isHere", "[Z", true)
  | 4 => ("PlaneColours$Graph", "firstSide", "[I", true)
  | 5 => ("PlaneColours$Graph", "degrees", "[I", true)
  | 6 => ("PlaneColours$Graph", "vertices", "I", false)
  | 7 => ("PlaneColours$Graph", "made", "I", false)
  | _ => ("PlaneColours$Graph", "left", "I", false)
def tyX2 : Nat → FieldType := fun k => match k with
  | 0 => .array .int
  | 1 => .array .int
  | 2 => .array .int
  | 3 => .array .boolean
  | 4 => .array .int
  | 5 => .array .int
  | 6 => .int
  | 7 => .int
  | _ => .int
abbrev wsX20 : List Cond := u_ws RX2 TX2 9
theorem nmX2 : ∀ a, a < 9 → ∀ b, b < 9 → a ≠ b → (TX2 a).2.1 ≠ (TX2 b).2.1 := by decide +kernel
theorem tyX2_ok : ∀ k, k < 9 → parseFieldDescriptor (TX2 k).2.2.1 = some (tyX2 k) := by decide +kernel
abbrev cX2_init : ByteArray := prog_4_method_1_code
def yX2_init : MethodName := ⟨RX2, "<init>", "()V"⟩
abbrev cX2_addVertex : ByteArray := prog_4_method_2_code
def yX2_addVertex : MethodName := ⟨RX2, "addVertex", "()I"⟩
abbrev cX2_addEdge : ByteArray := prog_4_method_3_code
def yX2_addEdge : MethodName := ⟨RX2, "addEdge", "(IIII)I"⟩
abbrev cX2_putSide : ByteArray := prog_4_method_4_code
def yX2_putSide : MethodName := ⟨RX2, "putSide", "(III)V"⟩
abbrev cX2_dropEdge : ByteArray := prog_4_method_5_code
def yX2_dropEdge : MethodName := ⟨RX2, "dropEdge", "(I)V"⟩
abbrev cX2_takeSide : ByteArray := prog_4_method_6_code
def yX2_takeSide : MethodName := ⟨RX2, "takeSide", "(I)V"⟩
abbrev cX2_link : ByteArray := prog_4_method_7_code
def yX2_link : MethodName := ⟨RX2, "link", "(II)V"⟩
abbrev cX2_dropAll : ByteArray := prog_4_method_8_code
def yX2_dropAll : MethodName := ⟨RX2, "dropAll", "()V"⟩
abbrev cX2_target : ByteArray := prog_4_method_9_code
def yX2_target : MethodName := ⟨RX2, "target", "(I)I"⟩
abbrev cX2_sideBehind : ByteArray := prog_4_method_10_code
def yX2_sideBehind : MethodName := ⟨RX2, "sideBehind", "(I)I"⟩
abbrev cX2_sideFrom : ByteArray := prog_4_method_11_code
def yX2_sideFrom : MethodName := ⟨RX2, "sideFrom", "(II)I"⟩
abbrev cX2_mayFollow : ByteArray := prog_4_method_12_code
def yX2_mayFollow : MethodName := ⟨RX2, "mayFollow", "(II)Z"⟩
abbrev cX2_areJoined : ByteArray := prog_4_method_13_code
def yX2_areJoined : MethodName := ⟨RX2, "areJoined", "(II)Z"⟩
abbrev cX2_lonelyVertices : ByteArray := prog_4_method_14_code
def yX2_lonelyVertices : MethodName := ⟨RX2, "lonelyVertices", "()I"⟩
def RX3 : String := "PlaneColours$Parting"
def TX3 : u_T := fun k => match k with
  | 0 => ("PlaneColours$Parting", "graph", "LPlaneColours$Graph;", true)
  | 1 => ("PlaneColours$Parting", "faceRows", "LPlaneColours$FaceRows;", true)
  | 2 => ("PlaneColours$Parting", "tree", "LPlaneColours$Tree;", true)
  | 3 => ("PlaneColours$Parting", "isOnCycle", "[Z", true)
  | 4 => ("PlaneColours$Parting", "isCycleEdge", "[Z", true)
  | 5 => ("PlaneColours$Parting", "isFaceInside", "[Z", true)
  | 6 => ("PlaneColours$Parting", "queue", "[I", true)
  | 7 => ("PlaneColours$Parting", "queued", "I", false)
  | 8 => ("PlaneColours$Parting", "cycleLength", "I", false)
  | 9 => ("PlaneColours$Parting", "inside", "I", false)
  | _ => ("PlaneColours$Parting", "outside", "I", false)
def tyX3 : Nat → FieldType := fun k => match k with
  | 0 => .object "PlaneColours$Graph"
  | 1 => .object "PlaneColours$FaceRows"
  | 2 => .object "PlaneColours$Tree"
  | 3 => .array .boolean
  | 4 => .array .boolean
  | 5 => .array .boolean
  | 6 => .array .int
  | 7 => .int
  | 8 => .int
  | 9 => .int
  | _ => .int
abbrev wsX30 : List Cond := u_ws RX3 TX3 11
theorem nmX3 : ∀ a, a < 11 → ∀ b, b < 11 → a ≠ b → (TX3 a).2.1 ≠ (TX3 b).2.1 := by decide +kernel
theorem tyX3_ok : ∀ k, k < 11 → parseFieldDescriptor (TX3 k).2.2.1 = some (tyX3 k) := by decide +kernel
abbrev cX3_init : ByteArray := prog_5_method_1_code
def yX3_init : MethodName := ⟨RX3, "<init>", "(LPlaneColours$Graph;LPlaneColours$FaceRows;LPlaneColours$Tree;)V"⟩
abbrev cX3_partBy : ByteArray := prog_5_method_2_code
def yX3_partBy : MethodName := ⟨RX3, "partBy", "(I)V"⟩
abbrev cX3_markCycle : ByteArray := prog_5_method_3_code
def yX3_markCycle : MethodName := ⟨RX3, "markCycle", "(I)V"⟩
abbrev cX3_unmarkCycle : ByteArray := prog_5_method_4_code
def yX3_unmarkCycle : MethodName := ⟨RX3, "unmarkCycle", "()V"⟩
abbrev cX3_climbFrom : ByteArray := prog_5_method_5_code
def yX3_climbFrom : MethodName := ⟨RX3, "climbFrom", "(I)I"⟩
abbrev cX3_markFacesInside : ByteArray := prog_5_method_6_code
def yX3_markFacesInside : MethodName := ⟨RX3, "markFacesInside", "(I)V"⟩
abbrev cX3_addFacesBeside : ByteArray := prog_5_method_7_code
def yX3_addFacesBeside : MethodName := ⟨RX3, "addFacesBeside", "(I)V"⟩
abbrev cX3_addInside : ByteArray := prog_5_method_8_code
def yX3_addInside : MethodName := ⟨RX3, "addInside", "(I)V"⟩
abbrev cX3_countVertices : ByteArray := prog_5_method_9_code
def yX3_countVertices : MethodName := ⟨RX3, "countVertices", "(I)V"⟩
def RX4 : String := "PlaneColours$Tree"
def TX4 : u_T := fun k => match k with
  | 0 => ("PlaneColours$Tree", "graph", "LPlaneColours$Graph;", true)
  | 1 => ("PlaneColours$Tree", "vertexAbove", "[I", true)
  | 2 => ("PlaneColours$Tree", "edgeAbove", "[I", true)
  | 3 => ("PlaneColours$Tree", "level", "[I", true)
  | 4 => ("PlaneColours$Tree", "partOf", "[I", true)
  | 5 => ("PlaneColours$Tree", "queue", "[I", true)
  | 6 => ("PlaneColours$Tree", "reached", "I", false)
  | _ => ("PlaneColours$Tree", "count", "I", false)
def tyX4 : Nat → FieldType := fun k => match k with
  | 0 => .object "PlaneColours$Graph"
  | 1 => .array .int
  | 2 => .array .int
  | 3 => .array .int
  | 4 => .array .int
  | 5 => .array .int
  | 6 => .int
  | _ => .int
abbrev wsX40 : List Cond := u_ws RX4 TX4 8
theorem nmX4 : ∀ a, a < 8 → ∀ b, b < 8 → a ≠ b → (TX4 a).2.1 ≠ (TX4 b).2.1 := by decide +kernel
theorem tyX4_ok : ∀ k, k < 8 → parseFieldDescriptor (TX4 k).2.2.1 = some (tyX4 k) := by decide +kernel
abbrev cX4_init : ByteArray := prog_6_method_1_code
def yX4_init : MethodName := ⟨RX4, "<init>", "(LPlaneColours$Graph;)V"⟩
abbrev cX4_survey : ByteArray := prog_6_method_2_code
def yX4_survey : MethodName := ⟨RX4, "survey", "()V"⟩
abbrev cX4_growFrom : ByteArray := prog_6_method_3_code
def yX4_growFrom : MethodName := ⟨RX4, "growFrom", "(I)V"⟩
abbrev cX4_reachNeighbours : ByteArray := prog_6_method_4_code
def yX4_reachNeighbours : MethodName := ⟨RX4, "reachNeighbours", "(I)V"⟩
abbrev cX4_reach : ByteArray := prog_6_method_5_code
def yX4_reach : MethodName := ⟨RX4, "reach", "(IIII)V"⟩
abbrev cX4_holds : ByteArray := prog_6_method_6_code
def yX4_holds : MethodName := ⟨RX4, "holds", "(I)Z"⟩
def RX5 : String := "PlaneColours"
def TX5 : u_T := fun k => match k with
  | 0 => ("PlaneColours", "graph", "LPlaneColours$Graph;", true)
  | 1 => ("PlaneColours", "faceRows", "LPlaneColours$FaceRows;", true)
  | 2 => ("PlaneColours", "tree", "LPlaneColours$Tree;", true)
  | 3 => ("PlaneColours", "colouring", "LPlaneColours$Colouring;", true)
  | _ => ("PlaneColours", "parting", "LPlaneColours$Parting;", true)
def tyX5 : Nat → FieldType := fun k => match k with
  | 0 => .object "PlaneColours$Graph"
  | 1 => .object "PlaneColours$FaceRows"
  | 2 => .object "PlaneColours$Tree"
  | 3 => .object "PlaneColours$Colouring"
  | _ => .object "PlaneColours$Parting"
abbrev wsX50 : List Cond := u_ws RX5 TX5 5
theorem nmX5 : ∀ a, a < 5 → ∀ b, b < 5 → a ≠ b → (TX5 a).2.1 ≠ (TX5 b).2.1 := by decide +kernel
theorem tyX5_ok : ∀ k, k < 5 → parseFieldDescriptor (TX5 k).2.2.1 = some (tyX5 k) := by decide +kernel
abbrev cX5_init : ByteArray := prog_1_method_1_code
def yX5_init : MethodName := ⟨RX5, "<init>", "()V"⟩
abbrev cX5_vertex : ByteArray := prog_1_method_2_code
def yX5_vertex : MethodName := ⟨RX5, "vertex", "()I"⟩
abbrev cX5_edge : ByteArray := prog_1_method_3_code
def yX5_edge : MethodName := ⟨RX5, "edge", "(IIII)I"⟩
abbrev cX5_remove : ByteArray := prog_1_method_4_code
def yX5_remove : MethodName := ⟨RX5, "remove", "(I)I"⟩
abbrev cX5_degree : ByteArray := prog_1_method_5_code
def yX5_degree : MethodName := ⟨RX5, "degree", "(I)I"⟩
abbrev cX5_round : ByteArray := prog_1_method_6_code
def yX5_round : MethodName := ⟨RX5, "round", "(II)I"⟩
abbrev cX5_end : ByteArray := prog_1_method_7_code
def yX5_end : MethodName := ⟨RX5, "end", "(IZ)I"⟩
abbrev cX5_faces : ByteArray := prog_1_method_8_code
def yX5_faces : MethodName := ⟨RX5, "faces", "()I"⟩
abbrev cX5_sides : ByteArray := prog_1_method_9_code
def yX5_sides : MethodName := ⟨RX5, "sides", "(I)I"⟩
abbrev cX5_from : ByteArray := prog_1_method_10_code
def yX5_from : MethodName := ⟨RX5, "from", "(II)I"⟩
abbrev cX5_parts : ByteArray := prog_1_method_11_code
def yX5_parts : MethodName := ⟨RX5, "parts", "()I"⟩
abbrev cX5_genus : ByteArray := prog_1_method_12_code
def yX5_genus : MethodName := ⟨RX5, "genus", "()I"⟩
abbrev cX5_colour : ByteArray := prog_1_method_13_code
def yX5_colour : MethodName := ⟨RX5, "colour", "()I"⟩
abbrev cX5_colourOf : ByteArray := prog_1_method_14_code
def yX5_colourOf : MethodName := ⟨RX5, "colourOf", "(I)I"⟩
abbrev cX5_exchanges : ByteArray := prog_1_method_15_code
def yX5_exchanges : MethodName := ⟨RX5, "exchanges", "()I"⟩
abbrev cX5_exchange : ByteArray := prog_1_method_16_code
def yX5_exchange : MethodName := ⟨RX5, "exchange", "(II)I"⟩
abbrev cX5_clashes : ByteArray := prog_1_method_17_code
def yX5_clashes : MethodName := ⟨RX5, "clashes", "()I"⟩
abbrev cX5_above : ByteArray := prog_1_method_18_code
def yX5_above : MethodName := ⟨RX5, "above", "(I)I"⟩
abbrev cX5_cycle : ByteArray := prog_1_method_19_code
def yX5_cycle : MethodName := ⟨RX5, "cycle", "(I)I"⟩
abbrev cX5_side : ByteArray := prog_1_method_20_code
def yX5_side : MethodName := ⟨RX5, "side", "(IZ)I"⟩
abbrev cX5_best : ByteArray := prog_1_method_21_code
def yX5_best : MethodName := ⟨RX5, "best", "()I"⟩
abbrev cX5_told : ByteArray := prog_1_method_22_code
def yX5_told : MethodName := ⟨RX5, "told", "(I)I"⟩
abbrev cX5_clear : ByteArray := prog_1_method_23_code
def yX5_clear : MethodName := ⟨RX5, "clear", "()V"⟩
abbrev cX5_surveyAgain : ByteArray := prog_1_method_24_code
def yX5_surveyAgain : MethodName := ⟨RX5, "surveyAgain", "()V"⟩
abbrev cX5_isPlane : ByteArray := prog_1_method_25_code
def yX5_isPlane : MethodName := ⟨RX5, "isPlane", "()Z"⟩
abbrev cX5_checkPlane : ByteArray := prog_1_method_26_code
def yX5_checkPlane : MethodName := ⟨RX5, "checkPlane", "()V"⟩
abbrev cX5_checkVertex : ByteArray := prog_1_method_27_code
def yX5_checkVertex : MethodName := ⟨RX5, "checkVertex", "(I)V"⟩
abbrev cX5_checkEdge : ByteArray := prog_1_method_28_code
def yX5_checkEdge : MethodName := ⟨RX5, "checkEdge", "(I)V"⟩
abbrev cX5_checkEdgeOrNone : ByteArray := prog_1_method_29_code
def yX5_checkEdgeOrNone : MethodName := ⟨RX5, "checkEdgeOrNone", "(I)V"⟩
abbrev cX5_checkFace : ByteArray := prog_1_method_30_code
def yX5_checkFace : MethodName := ⟨RX5, "checkFace", "(I)V"⟩
def RX6 : String := "PlaneColoursModel"
def TX6 : u_T := fun k => match k with
  | 0 => ("PlaneColoursModel", "code", "I", false)
  | 1 => ("PlaneColoursModel", "vertices", "I", false)
  | 2 => ("PlaneColoursModel", "edges", "I", false)
  | 3 => ("PlaneColoursModel", "left", "I", false)
  | 4 => ("PlaneColoursModel", "firsts", "[I", true)
  | 5 => ("PlaneColoursModel", "seconds", "[I", true)
  | 6 => ("PlaneColoursModel", "gone", "[Z", true)
  | 7 => ("PlaneColoursModel", "rounds", "[I", true)
  | 8 => ("PlaneColoursModel", "degrees", "[I", true)
  | 9 => ("PlaneColoursModel", "colours", "[I", true)
  | 10 => ("PlaneColoursModel", "exchanged", "I", false)
  | 11 => ("PlaneColoursModel", "faceOf", "[I", true)
  | 12 => ("PlaneColoursModel", "faceCount", "I", false)
  | 13 => ("PlaneColoursModel", "ups", "[I", true)
  | 14 => ("PlaneColoursModel", "partOf", "[I", true)
  | 15 => ("PlaneColoursModel", "queue", "[I", true)
  | 16 => ("PlaneColoursModel", "partCount", "I", false)
  | 17 => ("PlaneColoursModel", "taken", "[I", true)
  | 18 => ("PlaneColoursModel", "here", "[Z", true)
  | 19 => ("PlaneColoursModel", "chain", "[Z", true)
  | 20 => ("PlaneColoursModel", "chained", "I", false)
  | 21 => ("PlaneColoursModel", "onCycle", "[Z", true)
  | 22 => ("PlaneColoursModel", "ofCycle", "[Z", true)
  | _ => ("PlaneColoursModel", "within", "[Z", true)
def tyX6 : Nat → FieldType := fun k => match k with
  | 0 => .int
  | 1 => .int
  | 2 => .int
  | 3 => .int
  | 4 => .array .int
  | 5 => .array .int
  | 6 => .array .boolean
  | 7 => .array .int
  | 8 => .array .int
  | 9 => .array .int
  | 10 => .int
  | 11 => .array .int
  | 12 => .int
  | 13 => .array .int
  | 14 => .array .int
  | 15 => .array .int
  | 16 => .int
  | 17 => .array .int
  | 18 => .array .boolean
  | 19 => .array .boolean
  | 20 => .int
  | 21 => .array .boolean
  | 22 => .array .boolean
  | _ => .array .boolean
abbrev wsX60 : List Cond := u_ws RX6 TX6 24
theorem nmX6 : ∀ a, a < 24 → ∀ b, b < 24 → a ≠ b → (TX6 a).2.1 ≠ (TX6 b).2.1 := by decide +kernel
theorem tyX6_ok : ∀ k, k < 24 → parseFieldDescriptor (TX6 k).2.2.1 = some (tyX6 k) := by decide +kernel
abbrev cX6_init : ByteArray := prog_8_method_1_code
def yX6_init : MethodName := ⟨RX6, "<init>", "()V"⟩
abbrev cX6_thrown : ByteArray := prog_8_method_2_code
def yX6_thrown : MethodName := ⟨RX6, "thrown", "()I"⟩
abbrev cX6_isVertex : ByteArray := prog_8_method_3_code
def yX6_isVertex : MethodName := ⟨RX6, "isVertex", "(I)Z"⟩
abbrev cX6_isEdge : ByteArray := prog_8_method_4_code
def yX6_isEdge : MethodName := ⟨RX6, "isEdge", "(I)Z"⟩
abbrev cX6_far : ByteArray := prog_8_method_5_code
def yX6_far : MethodName := ⟨RX6, "far", "(II)I"⟩
abbrev cX6_placeOf : ByteArray := prog_8_method_6_code
def yX6_placeOf : MethodName := ⟨RX6, "placeOf", "(II)I"⟩
abbrev cX6_between : ByteArray := prog_8_method_7_code
def yX6_between : MethodName := ⟨RX6, "between", "(II)I"⟩
abbrev cX6_forget : ByteArray := prog_8_method_8_code
def yX6_forget : MethodName := ⟨RX6, "forget", "()V"⟩
abbrev cX6_vertex : ByteArray := prog_8_method_9_code
def yX6_vertex : MethodName := ⟨RX6, "vertex", "()I"⟩
abbrev cX6_isRound : ByteArray := prog_8_method_10_code
def yX6_isRound : MethodName := ⟨RX6, "isRound", "(II)Z"⟩
abbrev cX6_insert : ByteArray := prog_8_method_11_code
def yX6_insert : MethodName := ⟨RX6, "insert", "(III)V"⟩
abbrev cX6_edge : ByteArray := prog_8_method_12_code
def yX6_edge : MethodName := ⟨RX6, "edge", "(IIII)I"⟩
abbrev cX6_take : ByteArray := prog_8_method_13_code
def yX6_take : MethodName := ⟨RX6, "take", "(II)V"⟩
abbrev cX6_remove : ByteArray := prog_8_method_14_code
def yX6_remove : MethodName := ⟨RX6, "remove", "(I)I"⟩
abbrev cX6_degree : ByteArray := prog_8_method_15_code
def yX6_degree : MethodName := ⟨RX6, "degree", "(I)I"⟩
abbrev cX6_round : ByteArray := prog_8_method_16_code
def yX6_round : MethodName := ⟨RX6, "round", "(II)I"⟩
abbrev cX6_end : ByteArray := prog_8_method_17_code
def yX6_end : MethodName := ⟨RX6, "end", "(IZ)I"⟩
abbrev cX6_origin : ByteArray := prog_8_method_18_code
def yX6_origin : MethodName := ⟨RX6, "origin", "(I)I"⟩
abbrev cX6_nextSide : ByteArray := prog_8_method_19_code
def yX6_nextSide : MethodName := ⟨RX6, "nextSide", "(I)I"⟩
abbrev cX6_findFaces : ByteArray := prog_8_method_20_code
def yX6_findFaces : MethodName := ⟨RX6, "findFaces", "()V"⟩
abbrev cX6_faces : ByteArray := prog_8_method_21_code
def yX6_faces : MethodName := ⟨RX6, "faces", "()I"⟩
abbrev cX6_firstSide : ByteArray := prog_8_method_22_code
def yX6_firstSide : MethodName := ⟨RX6, "firstSide", "(I)I"⟩
abbrev cX6_sidesOf : ByteArray := prog_8_method_23_code
def yX6_sidesOf : MethodName := ⟨RX6, "sidesOf", "(I)I"⟩
abbrev cX6_sides : ByteArray := prog_8_method_24_code
def yX6_sides : MethodName := ⟨RX6, "sides", "(I)I"⟩
abbrev cX6_from : ByteArray := prog_8_method_25_code
def yX6_from : MethodName := ⟨RX6, "from", "(II)I"⟩
abbrev cX6_findTree : ByteArray := prog_8_method_26_code
def yX6_findTree : MethodName := ⟨RX6, "findTree", "()V"⟩
abbrev cX6_spread : ByteArray := prog_8_method_27_code
def yX6_spread : MethodName := ⟨RX6, "spread", "(I)V"⟩
abbrev cX6_parts : ByteArray := prog_8_method_28_code
def yX6_parts : MethodName := ⟨RX6, "parts", "()I"⟩
abbrev cX6_genusOf : ByteArray := prog_8_method_29_code
def yX6_genusOf : MethodName := ⟨RX6, "genusOf", "()I"⟩
abbrev cX6_genus : ByteArray := prog_8_method_30_code
def yX6_genus : MethodName := ⟨RX6, "genus", "()I"⟩
abbrev cX6_above : ByteArray := prog_8_method_31_code
def yX6_above : MethodName := ⟨RX6, "above", "(I)I"⟩
abbrev cX6_findChain : ByteArray := prog_8_method_32_code
def yX6_findChain : MethodName := ⟨RX6, "findChain", "(III)V"⟩
abbrev cX6_changeChain : ByteArray := prog_8_method_33_code
def yX6_changeChain : MethodName := ⟨RX6, "changeChain", "(II)V"⟩
abbrev cX6_around : ByteArray := prog_8_method_34_code
def yX6_around : MethodName := ⟨RX6, "around", "(I)I"⟩
abbrev cX6_freeColour : ByteArray := prog_8_method_35_code
def yX6_freeColour : MethodName := ⟨RX6, "freeColour", "(I)I"⟩
abbrev cX6_neighbour : ByteArray := prog_8_method_36_code
def yX6_neighbour : MethodName := ⟨RX6, "neighbour", "(II)I"⟩
abbrev cX6_makeFree : ByteArray := prog_8_method_37_code
def yX6_makeFree : MethodName := ⟨RX6, "makeFree", "(I)I"⟩
abbrev cX6_colourCount : ByteArray := prog_8_method_38_code
def yX6_colourCount : MethodName := ⟨RX6, "colourCount", "()I"⟩
abbrev cX6_colour : ByteArray := prog_8_method_39_code
def yX6_colour : MethodName := ⟨RX6, "colour", "()I"⟩
abbrev cX6_colourOf : ByteArray := prog_8_method_40_code
def yX6_colourOf : MethodName := ⟨RX6, "colourOf", "(I)I"⟩
abbrev cX6_exchanges : ByteArray := prog_8_method_41_code
def yX6_exchanges : MethodName := ⟨RX6, "exchanges", "()I"⟩
abbrev cX6_exchange : ByteArray := prog_8_method_42_code
def yX6_exchange : MethodName := ⟨RX6, "exchange", "(II)I"⟩
abbrev cX6_clashes : ByteArray := prog_8_method_43_code
def yX6_clashes : MethodName := ⟨RX6, "clashes", "()I"⟩
abbrev cX6_isTree : ByteArray := prog_8_method_44_code
def yX6_isTree : MethodName := ⟨RX6, "isTree", "(I)Z"⟩
abbrev cX6_depth : ByteArray := prog_8_method_45_code
def yX6_depth : MethodName := ⟨RX6, "depth", "(I)I"⟩
abbrev cX6_findCycle : ByteArray := prog_8_method_46_code
def yX6_findCycle : MethodName := ⟨RX6, "findCycle", "(I)I"⟩
abbrev cX6_cycle : ByteArray := prog_8_method_47_code
def yX6_cycle : MethodName := ⟨RX6, "cycle", "(I)I"⟩
abbrev cX6_findInside : ByteArray := prog_8_method_48_code
def yX6_findInside : MethodName := ⟨RX6, "findInside", "(I)V"⟩
abbrev cX6_countSide : ByteArray := prog_8_method_49_code
def yX6_countSide : MethodName := ⟨RX6, "countSide", "(IZ)I"⟩
abbrev cX6_side : ByteArray := prog_8_method_50_code
def yX6_side : MethodName := ⟨RX6, "side", "(IZ)I"⟩
abbrev cX6_best : ByteArray := prog_8_method_51_code
def yX6_best : MethodName := ⟨RX6, "best", "()I"⟩
abbrev cX6_told : ByteArray := prog_8_method_52_code
def yX6_told : MethodName := ⟨RX6, "told", "(I)I"⟩
abbrev cX6_clear : ByteArray := prog_8_method_53_code
def yX6_clear : MethodName := ⟨RX6, "clear", "()V"⟩
def RJ6 : String := "java/lang/Integer"
def TJ6 : u_T := fun k => match k with
  | _ => ("", "", "", false)
def tyJ6 : Nat → FieldType := fun k => match k with
  | _ => .int
abbrev wsJ60 : List Cond := u_ws RJ6 TJ6 0
theorem nmJ6 : ∀ a, a < 0 → ∀ b, b < 0 → a ≠ b → (TJ6 a).2.1 ≠ (TJ6 b).2.1 := by decide +kernel
theorem tyJ6_ok : ∀ k, k < 0 → parseFieldDescriptor (TJ6 k).2.2.1 = some (tyJ6 k) := by decide +kernel
abbrev cJ6_bitCount_0f7a4 : ByteArray := prog_13_method_49_code
def yJ6_bitCount_0f7a4 : MethodName := ⟨RJ6, "bitCount", "(I)I"⟩
def RJ9 : String := "java/lang/Math"
def TJ9 : u_T := fun k => match k with
  | _ => ("", "", "", false)
def tyJ9 : Nat → FieldType := fun k => match k with
  | _ => .int
abbrev wsJ90 : List Cond := u_ws RJ9 TJ9 0
theorem nmJ9 : ∀ a, a < 0 → ∀ b, b < 0 → a ≠ b → (TJ9 a).2.1 ≠ (TJ9 b).2.1 := by decide +kernel
theorem tyJ9_ok : ∀ k, k < 0 → parseFieldDescriptor (TJ9 k).2.2.1 = some (tyJ9 k) := by decide +kernel
abbrev cJ9_max_7cf53 : ByteArray := prog_14_method_65_code
def yJ9_max_7cf53 : MethodName := ⟨RJ9, "max", "(II)I"⟩
def RJ0 : String := "java/lang/String"
def TJ0 : u_T := fun k => match k with
  | _ => ("", "", "", false)
def tyJ0 : Nat → FieldType := fun k => match k with
  | _ => .int
abbrev wsJ00 : List Cond := u_ws RJ0 TJ0 0
theorem nmJ0 : ∀ a, a < 0 → ∀ b, b < 0 → a ≠ b → (TJ0 a).2.1 ≠ (TJ0 b).2.1 := by decide +kernel
theorem tyJ0_ok : ∀ k, k < 0 → parseFieldDescriptor (TJ0 k).2.2.1 = some (tyJ0 k) := by decide +kernel
def RL : String := "PlaneColoursLaw"
abbrev cL_vertex : ByteArray := method_3_code
def yL_vertex : MethodName := ⟨RL, "vertex", "(LPlaneColours;[J)I"⟩
abbrev cL_edge : ByteArray := method_4_code
def yL_edge : MethodName := ⟨RL, "edge", "(LPlaneColours;IIII[J)I"⟩
abbrev cL_remove : ByteArray := method_5_code
def yL_remove : MethodName := ⟨RL, "remove", "(LPlaneColours;I[J)I"⟩
abbrev cL_degree : ByteArray := method_6_code
def yL_degree : MethodName := ⟨RL, "degree", "(LPlaneColours;I[J)I"⟩
abbrev cL_round : ByteArray := method_7_code
def yL_round : MethodName := ⟨RL, "round", "(LPlaneColours;II[J)I"⟩
abbrev cL_end : ByteArray := method_8_code
def yL_end : MethodName := ⟨RL, "end", "(LPlaneColours;IZ[J)I"⟩
abbrev cL_sides : ByteArray := method_9_code
def yL_sides : MethodName := ⟨RL, "sides", "(LPlaneColours;I[J)I"⟩
abbrev cL_from : ByteArray := method_10_code
def yL_from : MethodName := ⟨RL, "from", "(LPlaneColours;II[J)I"⟩
abbrev cL_colour : ByteArray := method_11_code
def yL_colour : MethodName := ⟨RL, "colour", "(LPlaneColours;[J)I"⟩
abbrev cL_colourOf : ByteArray := method_12_code
def yL_colourOf : MethodName := ⟨RL, "colourOf", "(LPlaneColours;I[J)I"⟩
abbrev cL_exchange : ByteArray := method_13_code
def yL_exchange : MethodName := ⟨RL, "exchange", "(LPlaneColours;II[J)I"⟩
abbrev cL_above : ByteArray := method_14_code
def yL_above : MethodName := ⟨RL, "above", "(LPlaneColours;I[J)I"⟩
abbrev cL_cycle : ByteArray := method_15_code
def yL_cycle : MethodName := ⟨RL, "cycle", "(LPlaneColours;I[J)I"⟩
abbrev cL_side : ByteArray := method_16_code
def yL_side : MethodName := ⟨RL, "side", "(LPlaneColours;IZ[J)I"⟩
abbrev cL_best : ByteArray := method_17_code
def yL_best : MethodName := ⟨RL, "best", "(LPlaneColours;[J)I"⟩
abbrev cL_law : ByteArray := code
def yL_law : MethodName := ⟨RL, "law", "([I)Z"⟩
def wsL_law0_r1 : List Cond := [Cond.classLink RL 8 RX5, Cond.instantiable RX5 5, Cond.initialized RX5, Cond.classLink RL 68 RX6, Cond.instantiable RX6 24, Cond.initialized RX6, Cond.arrayClass .long, Cond.methodLink RL 67 yX5_init, Cond.instanceMethod yX5_init, Cond.code yX5_init cX5_init 1 none, Cond.methodLink RX5 3 objectInit, Cond.instanceMethod objectInit, Cond.code objectInit ⟨#[0xb1]⟩ 1 none, Cond.classLink RX5 9 RX2, Cond.instantiable RX2 9, Cond.initialized RX2, Cond.fieldLink RX5 12 "PlaneColours" "graph" "LPlaneColours$Graph;", Cond.classLink RX5 16 RX1, Cond.instantiable RX1 5, Cond.initialized RX1, Cond.fieldLink RX5 21 "PlaneColours" "faceRows" "LPlaneColours$FaceRows;", Cond.classLink RX5 25 RX4, Cond.instantiable RX4 8, Cond.initialized RX4]
def wsL_law0_r2 : List Cond := [Cond.fieldLink RX5 28 "PlaneColours" "tree" "LPlaneColours$Tree;", Cond.classLink RX5 32 RX0, Cond.instantiable RX0 9, Cond.initialized RX0, Cond.fieldLink RX5 35 "PlaneColours" "colouring" "LPlaneColours$Colouring;", Cond.classLink RX5 39 RX3, Cond.instantiable RX3 11, Cond.initialized RX3, Cond.fieldLink RX5 44 "PlaneColours" "parting" "LPlaneColours$Parting;", Cond.instanceMethod yX2_init, Cond.code yX2_init cX2_init 1 none, Cond.methodLink RX2 3 objectInit, Cond.arrayClass .int, Cond.fieldLink RX2 9 "PlaneColours$Graph" "start" "[I", Cond.fieldLink RX2 15 "PlaneColours$Graph" "next" "[I", Cond.fieldLink RX2 18 "PlaneColours$Graph" "previous" "[I", Cond.arrayClass .boolean, Cond.fieldLink RX2 21 "PlaneColours$Graph" "isHere" "[Z", Cond.fieldLink RX2 25 "PlaneColours$Graph" "firstSide" "[I", Cond.fieldLink RX2 28 "PlaneColours$Graph" "degrees" "[I", Cond.fieldLink RX2 31 "PlaneColours$Graph" "vertices" "I", Cond.fieldLink RX2 35 "PlaneColours$Graph" "made" "I", Cond.fieldLink RX2 38 "PlaneColours$Graph" "left" "I", Cond.methodLink RX5 18 yX1_init]
def wsL_law0_r3 : List Cond := [Cond.instanceMethod yX1_init, Cond.code yX1_init cX1_init 2 none, Cond.methodLink RX1 3 objectInit, Cond.fieldLink RX1 9 "PlaneColours$FaceRows" "faceOfSide" "[I", Cond.fieldLink RX1 15 "PlaneColours$FaceRows" "leastSide" "[I", Cond.fieldLink RX1 18 "PlaneColours$FaceRows" "lengths" "[I", Cond.fieldLink RX1 21 "PlaneColours$FaceRows" "count" "I", Cond.fieldLink RX1 25 "PlaneColours$FaceRows" "graph" "LPlaneColours$Graph;", Cond.methodLink RX5 27 yX4_init, Cond.instanceMethod yX4_init, Cond.code yX4_init cX4_init 2 none, Cond.methodLink RX4 3 objectInit, Cond.fieldLink RX4 9 "PlaneColours$Tree" "vertexAbove" "[I", Cond.fieldLink RX4 15 "PlaneColours$Tree" "edgeAbove" "[I", Cond.fieldLink RX4 18 "PlaneColours$Tree" "level" "[I", Cond.fieldLink RX4 21 "PlaneColours$Tree" "partOf" "[I", Cond.fieldLink RX4 24 "PlaneColours$Tree" "queue" "[I", Cond.fieldLink RX4 27 "PlaneColours$Tree" "reached" "I", Cond.fieldLink RX4 31 "PlaneColours$Tree" "count" "I", Cond.fieldLink RX4 34 "PlaneColours$Tree" "graph" "LPlaneColours$Graph;", Cond.methodLink RX5 34 yX0_init, Cond.instanceMethod yX0_init, Cond.code yX0_init cX0_init 2 none, Cond.methodLink RX0 3 objectInit]
def wsL_law0_r4 : List Cond := [Cond.fieldLink RX0 9 "PlaneColours$Colouring" "colourOfVertex" "[I", Cond.fieldLink RX0 15 "PlaneColours$Colouring" "isTaken" "[Z", Cond.fieldLink RX0 19 "PlaneColours$Colouring" "order" "[I", Cond.fieldLink RX0 22 "PlaneColours$Colouring" "fiveRound" "[I", Cond.fieldLink RX0 25 "PlaneColours$Colouring" "isInChain" "[Z", Cond.fieldLink RX0 28 "PlaneColours$Colouring" "chain" "[I", Cond.fieldLink RX0 31 "PlaneColours$Colouring" "chainSize" "I", Cond.fieldLink RX0 35 "PlaneColours$Colouring" "chainsChanged" "I", Cond.fieldLink RX0 38 "PlaneColours$Colouring" "graph" "LPlaneColours$Graph;", Cond.methodLink RX5 41 yX3_init, Cond.instanceMethod yX3_init, Cond.code yX3_init cX3_init 4 none, Cond.methodLink RX3 3 objectInit, Cond.fieldLink RX3 9 "PlaneColours$Parting" "isOnCycle" "[Z", Cond.fieldLink RX3 15 "PlaneColours$Parting" "isCycleEdge" "[Z", Cond.fieldLink RX3 18 "PlaneColours$Parting" "isFaceInside" "[Z", Cond.fieldLink RX3 21 "PlaneColours$Parting" "queue" "[I", Cond.fieldLink RX3 25 "PlaneColours$Parting" "queued" "I", Cond.fieldLink RX3 29 "PlaneColours$Parting" "cycleLength" "I", Cond.fieldLink RX3 32 "PlaneColours$Parting" "inside" "I", Cond.fieldLink RX3 35 "PlaneColours$Parting" "outside" "I", Cond.fieldLink RX3 38 "PlaneColours$Parting" "graph" "LPlaneColours$Graph;", Cond.fieldLink RX3 42 "PlaneColours$Parting" "faceRows" "LPlaneColours$FaceRows;", Cond.fieldLink RX3 46 "PlaneColours$Parting" "tree" "LPlaneColours$Tree;"]
def wsL_law0_r5 : List Cond := [Cond.methodLink RL 70 yX6_init, Cond.instanceMethod yX6_init, Cond.code yX6_init cX6_init 1 none, Cond.methodLink RX6 1 objectInit, Cond.fieldLink RX6 7 "PlaneColoursModel" "firsts" "[I", Cond.fieldLink RX6 13 "PlaneColoursModel" "seconds" "[I", Cond.fieldLink RX6 16 "PlaneColoursModel" "gone" "[Z", Cond.fieldLink RX6 20 "PlaneColoursModel" "rounds" "[I", Cond.fieldLink RX6 23 "PlaneColoursModel" "degrees" "[I", Cond.fieldLink RX6 26 "PlaneColoursModel" "colours" "[I", Cond.fieldLink RX6 29 "PlaneColoursModel" "faceOf" "[I", Cond.fieldLink RX6 32 "PlaneColoursModel" "ups" "[I", Cond.fieldLink RX6 35 "PlaneColoursModel" "partOf" "[I", Cond.fieldLink RX6 38 "PlaneColoursModel" "queue" "[I", Cond.fieldLink RX6 41 "PlaneColoursModel" "taken" "[I", Cond.fieldLink RX6 44 "PlaneColoursModel" "here" "[Z", Cond.fieldLink RX6 47 "PlaneColoursModel" "chain" "[Z", Cond.fieldLink RX6 50 "PlaneColoursModel" "onCycle" "[Z", Cond.fieldLink RX6 53 "PlaneColoursModel" "ofCycle" "[Z", Cond.fieldLink RX6 56 "PlaneColoursModel" "within" "[Z", Cond.methodLink RL 71 yL_vertex, Cond.static yL_vertex, Cond.initialized RL, Cond.codeWith yL_vertex cL_vertex 3 (some .int) [(0, 8, 11, 13)]]
def wsL_law0_r6 : List Cond := [Cond.classLink RL 13 "java/lang/UnsupportedOperationException", Cond.methodLink RL 7 yX5_vertex, Cond.instanceMethod yX5_vertex, Cond.selects RX5 yX5_vertex yX5_vertex, Cond.code yX5_vertex cX5_vertex 2 (some .int), Cond.classLink RX5 52 "java/lang/UnsupportedOperationException", Cond.initialized "java/lang/UnsupportedOperationException", Cond.fieldLink RX5 48 "PlaneColours$Graph" "vertices" "I", Cond.fieldLink RX5 63 "PlaneColours$Colouring" "colourOfVertex" "[I", Cond.methodLink RX5 59 yX2_addVertex, Cond.instanceMethod yX2_addVertex, Cond.selects RX2 yX2_addVertex yX2_addVertex, Cond.code yX2_addVertex cX2_addVertex 2 (some .int), Cond.methodLink RX5 67 yX5_surveyAgain, Cond.instanceMethod yX5_surveyAgain, Cond.selects RX5 yX5_surveyAgain yX5_surveyAgain, Cond.code yX5_surveyAgain cX5_surveyAgain 1 none, Cond.methodLink RX5 219 yX1_survey, Cond.instanceMethod yX1_survey, Cond.selects RX1 yX1_survey yX1_survey, Cond.code yX1_survey cX1_survey 3 none, Cond.fieldLink RX1 29 "PlaneColours$Graph" "made" "I", Cond.fieldLink RX1 34 "PlaneColours$Graph" "isHere" "[Z", Cond.methodLink RX1 38 yX1_walkFrom]
def wsL_law0_r7 : List Cond := [Cond.instanceMethod yX1_walkFrom, Cond.selects RX1 yX1_walkFrom yX1_walkFrom, Cond.code yX1_walkFrom cX1_walkFrom 4 none, Cond.methodLink RX1 42 yX2_sideBehind, Cond.instanceMethod yX2_sideBehind, Cond.selects RX2 yX2_sideBehind yX2_sideBehind, Cond.code yX2_sideBehind cX2_sideBehind 2 (some .int), Cond.methodLink RX5 222 yX4_survey, Cond.instanceMethod yX4_survey, Cond.selects RX4 yX4_survey yX4_survey, Cond.code yX4_survey cX4_survey 2 none, Cond.fieldLink RX4 38 "PlaneColours$Graph" "vertices" "I", Cond.methodLink RX4 43 yX4_growFrom, Cond.instanceMethod yX4_growFrom, Cond.selects RX4 yX4_growFrom yX4_growFrom, Cond.code yX4_growFrom cX4_growFrom 3 none, Cond.methodLink RX4 47 yX4_reach, Cond.instanceMethod yX4_reach, Cond.selects RX4 yX4_reach yX4_reach, Cond.code yX4_reach cX4_reach 5 none, Cond.methodLink RX4 51 yX4_reachNeighbours, Cond.instanceMethod yX4_reachNeighbours, Cond.selects RX4 yX4_reachNeighbours yX4_reachNeighbours, Cond.code yX4_reachNeighbours cX4_reachNeighbours 5 none]
def wsL_law0_r8 : List Cond := [Cond.fieldLink RX4 54 "PlaneColours$Graph" "firstSide" "[I", Cond.fieldLink RX4 57 "PlaneColours$Graph" "degrees" "[I", Cond.fieldLink RX4 64 "PlaneColours$Graph" "next" "[I", Cond.methodLink RX4 60 yX2_target, Cond.instanceMethod yX2_target, Cond.selects RX2 yX2_target yX2_target, Cond.code yX2_target cX2_target 2 (some .int), Cond.methodLink RL 76 yX6_vertex, Cond.instanceMethod yX6_vertex, Cond.selects RX6 yX6_vertex yX6_vertex, Cond.code yX6_vertex cX6_vertex 1 (some .int), Cond.fieldLink RX6 63 "PlaneColoursModel" "vertices" "I", Cond.fieldLink RX6 59 "PlaneColoursModel" "code" "I", Cond.methodLink RL 77 yX6_thrown, Cond.instanceMethod yX6_thrown, Cond.selects RX6 yX6_thrown yX6_thrown, Cond.code yX6_thrown cX6_thrown 1 (some .int), Cond.methodLink RL 80 yL_edge, Cond.static yL_edge, Cond.codeWith yL_edge cL_edge 7 (some .int) [(0, 14, 17, 19), (0, 14, 21, 21), (0, 14, 25, 13)], Cond.classLink RL 19 "java/lang/IndexOutOfBoundsException", Cond.classLink RL 21 "java/lang/IllegalArgumentException", Cond.methodLink RL 15 yX5_edge, Cond.instanceMethod yX5_edge]
def wsL_law0_r9 : List Cond := [Cond.selects RX5 yX5_edge yX5_edge, Cond.code yX5_edge cX5_edge 6 (some .int), Cond.classLink RX5 81 "java/lang/IllegalArgumentException", Cond.initialized "java/lang/IllegalArgumentException", Cond.fieldLink RX5 91 "PlaneColours$Graph" "made" "I", Cond.methodLink RX5 70 yX5_checkVertex, Cond.instanceMethod yX5_checkVertex, Cond.selects RX5 yX5_checkVertex yX5_checkVertex, Cond.code yX5_checkVertex cX5_checkVertex 2 none, Cond.classLink RX5 115 "java/lang/IndexOutOfBoundsException", Cond.initialized "java/lang/IndexOutOfBoundsException", Cond.methodLink RX5 74 yX5_checkEdgeOrNone, Cond.instanceMethod yX5_checkEdgeOrNone, Cond.selects RX5 yX5_checkEdgeOrNone yX5_checkEdgeOrNone, Cond.code yX5_checkEdgeOrNone cX5_checkEdgeOrNone 2 none, Cond.methodLink RX5 103 yX5_checkEdge, Cond.instanceMethod yX5_checkEdge, Cond.selects RX5 yX5_checkEdge yX5_checkEdge, Cond.code yX5_checkEdge cX5_checkEdge 2 none, Cond.fieldLink RX5 202 "PlaneColours$Graph" "isHere" "[Z", Cond.methodLink RX5 77 yX2_areJoined, Cond.instanceMethod yX2_areJoined, Cond.selects RX2 yX2_areJoined yX2_areJoined, Cond.code yX2_areJoined cX2_areJoined 5 (some .boolean)]
def wsL_law0_r10 : List Cond := [Cond.methodLink RX2 57 yX2_target, Cond.methodLink RX5 86 yX2_mayFollow, Cond.instanceMethod yX2_mayFollow, Cond.selects RX2 yX2_mayFollow yX2_mayFollow, Cond.code yX2_mayFollow cX2_mayFollow 3 (some .boolean), Cond.methodLink RX5 96 yX2_addEdge, Cond.instanceMethod yX2_addEdge, Cond.selects RX2 yX2_addEdge yX2_addEdge, Cond.code yX2_addEdge cX2_addEdge 6 (some .int), Cond.methodLink RX2 41 yX2_putSide, Cond.instanceMethod yX2_putSide, Cond.selects RX2 yX2_putSide yX2_putSide, Cond.code yX2_putSide cX2_putSide 6 none, Cond.methodLink RX2 45 yX2_sideFrom, Cond.instanceMethod yX2_sideFrom, Cond.selects RX2 yX2_sideFrom yX2_sideFrom, Cond.code yX2_sideFrom cX2_sideFrom 3 (some .int), Cond.methodLink RX2 49 yX2_link, Cond.instanceMethod yX2_link, Cond.selects RX2 yX2_link yX2_link, Cond.code yX2_link cX2_link 3 none, Cond.methodLink RX5 100 yX0_forget, Cond.instanceMethod yX0_forget, Cond.selects RX0 yX0_forget yX0_forget]
def wsL_law0_r11 : List Cond := [Cond.code yX0_forget cX0_forget 2 none, Cond.fieldLink RX0 42 "PlaneColours$Graph" "vertices" "I", Cond.methodLink RL 83 yX6_edge, Cond.instanceMethod yX6_edge, Cond.selects RX6 yX6_edge yX6_edge, Cond.code yX6_edge cX6_edge 6 (some .int), Cond.fieldLink RX6 66 "PlaneColoursModel" "edges" "I", Cond.fieldLink RX6 97 "PlaneColoursModel" "left" "I", Cond.methodLink RX6 79 yX6_isVertex, Cond.instanceMethod yX6_isVertex, Cond.selects RX6 yX6_isVertex yX6_isVertex, Cond.code yX6_isVertex cX6_isVertex 2 (some .boolean), Cond.methodLink RX6 83 yX6_isEdge, Cond.instanceMethod yX6_isEdge, Cond.selects RX6 yX6_isEdge yX6_isEdge, Cond.code yX6_isEdge cX6_isEdge 2 (some .boolean), Cond.methodLink RX6 86 yX6_between, Cond.instanceMethod yX6_between, Cond.selects RX6 yX6_between yX6_between, Cond.code yX6_between cX6_between 4 (some .int), Cond.methodLink RX6 69 yX6_far, Cond.instanceMethod yX6_far, Cond.selects RX6 yX6_far yX6_far, Cond.code yX6_far cX6_far 3 (some .int)]
def wsL_law0_r12 : List Cond := [Cond.methodLink RX6 89 yX6_isRound, Cond.instanceMethod yX6_isRound, Cond.selects RX6 yX6_isRound yX6_isRound, Cond.code yX6_isRound cX6_isRound 3 (some .boolean), Cond.methodLink RX6 76 yX6_placeOf, Cond.instanceMethod yX6_placeOf, Cond.selects RX6 yX6_placeOf yX6_placeOf, Cond.code yX6_placeOf cX6_placeOf 4 (some .int), Cond.methodLink RX6 93 yX6_insert, Cond.instanceMethod yX6_insert, Cond.selects RX6 yX6_insert yX6_insert, Cond.code yX6_insert cX6_insert 6 none, Cond.methodLink RX6 100 yX6_forget, Cond.instanceMethod yX6_forget, Cond.selects RX6 yX6_forget yX6_forget, Cond.code yX6_forget cX6_forget 2 none, Cond.fieldLink RX6 73 "PlaneColoursModel" "exchanged" "I", Cond.methodLink RL 84 yL_remove, Cond.static yL_remove, Cond.codeWith yL_remove cL_remove 4 (some .int) [(0, 9, 12, 19)], Cond.methodLink RL 23 yX5_remove, Cond.instanceMethod yX5_remove, Cond.selects RX5 yX5_remove yX5_remove, Cond.code yX5_remove cX5_remove 2 (some .int)]
def wsL_law0_r13 : List Cond := [Cond.fieldLink RX5 109 "PlaneColours$Graph" "left" "I", Cond.methodLink RX5 106 yX2_dropEdge, Cond.instanceMethod yX2_dropEdge, Cond.selects RX2 yX2_dropEdge yX2_dropEdge, Cond.code yX2_dropEdge cX2_dropEdge 2 none, Cond.methodLink RX2 53 yX2_takeSide, Cond.instanceMethod yX2_takeSide, Cond.selects RX2 yX2_takeSide yX2_takeSide, Cond.code yX2_takeSide cX2_takeSide 3 none, Cond.methodLink RL 87 yX6_remove, Cond.instanceMethod yX6_remove, Cond.selects RX6 yX6_remove yX6_remove, Cond.code yX6_remove cX6_remove 2 (some .int), Cond.methodLink RX6 103 yX6_take, Cond.instanceMethod yX6_take, Cond.selects RX6 yX6_take yX6_take, Cond.code yX6_take cX6_take 4 none, Cond.methodLink RL 88 yL_degree, Cond.static yL_degree, Cond.codeWith yL_degree cL_degree 4 (some .int) [(0, 9, 12, 19)], Cond.methodLink RL 27 yX5_degree, Cond.instanceMethod yX5_degree, Cond.selects RX5 yX5_degree yX5_degree, Cond.code yX5_degree cX5_degree 2 (some .int)]
def wsL_law0_r14 : List Cond := [Cond.fieldLink RX5 112 "PlaneColours$Graph" "degrees" "[I", Cond.methodLink RL 90 yX6_degree, Cond.instanceMethod yX6_degree, Cond.selects RX6 yX6_degree yX6_degree, Cond.code yX6_degree cX6_degree 2 (some .int), Cond.methodLink RL 91 yL_round, Cond.static yL_round, Cond.codeWith yL_round cL_round 5 (some .int) [(0, 10, 13, 19)], Cond.methodLink RL 30 yX5_round, Cond.instanceMethod yX5_round, Cond.selects RX5 yX5_round yX5_round, Cond.code yX5_round cX5_round 5 (some .int), Cond.fieldLink RX5 120 "PlaneColours$Graph" "firstSide" "[I", Cond.fieldLink RX5 123 "PlaneColours$Graph" "next" "[I", Cond.methodLink RL 94 yX6_round, Cond.instanceMethod yX6_round, Cond.selects RX6 yX6_round yX6_round, Cond.code yX6_round cX6_round 3 (some .int), Cond.methodLink RL 95 yL_end, Cond.static yL_end, Cond.codeWith yL_end cL_end 5 (some .int) [(0, 10, 13, 19)], Cond.methodLink RL 34 yX5_end, Cond.instanceMethod yX5_end, Cond.selects RX5 yX5_end yX5_end]
def wsL_law0_r15 : List Cond := [Cond.code yX5_end cX5_end 3 (some .int), Cond.fieldLink RX5 126 "PlaneColours$Graph" "start" "[I", Cond.methodLink RL 98 yX6_end, Cond.instanceMethod yX6_end, Cond.selects RX6 yX6_end yX6_end, Cond.code yX6_end cX6_end 3 (some .int), Cond.methodLink RL 99 yX5_faces, Cond.instanceMethod yX5_faces, Cond.selects RX5 yX5_faces yX5_faces, Cond.code yX5_faces cX5_faces 1 (some .int), Cond.fieldLink RX5 129 "PlaneColours$FaceRows" "count" "I", Cond.methodLink RL 102 yX6_faces, Cond.instanceMethod yX6_faces, Cond.selects RX6 yX6_faces yX6_faces, Cond.code yX6_faces cX6_faces 1 (some .int), Cond.fieldLink RX6 111 "PlaneColoursModel" "faceCount" "I", Cond.methodLink RX6 117 yX6_findFaces, Cond.instanceMethod yX6_findFaces, Cond.selects RX6 yX6_findFaces yX6_findFaces, Cond.code yX6_findFaces cX6_findFaces 3 none, Cond.methodLink RX6 114 yX6_nextSide, Cond.instanceMethod yX6_nextSide, Cond.selects RX6 yX6_nextSide yX6_nextSide, Cond.code yX6_nextSide cX6_nextSide 5 (some .int)]
def wsL_law0_r16 : List Cond := [Cond.methodLink RX6 107 yX6_origin, Cond.instanceMethod yX6_origin, Cond.selects RX6 yX6_origin yX6_origin, Cond.code yX6_origin cX6_origin 2 (some .int), Cond.methodLink RL 103 yL_sides, Cond.static yL_sides, Cond.codeWith yL_sides cL_sides 4 (some .int) [(0, 9, 12, 19)], Cond.methodLink RL 38 yX5_sides, Cond.instanceMethod yX5_sides, Cond.selects RX5 yX5_sides yX5_sides, Cond.code yX5_sides cX5_sides 2 (some .int), Cond.fieldLink RX5 135 "PlaneColours$FaceRows" "lengths" "[I", Cond.methodLink RX5 132 yX5_checkFace, Cond.instanceMethod yX5_checkFace, Cond.selects RX5 yX5_checkFace yX5_checkFace, Cond.code yX5_checkFace cX5_checkFace 2 none, Cond.methodLink RL 105 yX6_sides, Cond.instanceMethod yX6_sides, Cond.selects RX6 yX6_sides yX6_sides, Cond.code yX6_sides cX6_sides 2 (some .int), Cond.methodLink RX6 120 yX6_sidesOf, Cond.instanceMethod yX6_sidesOf, Cond.selects RX6 yX6_sidesOf yX6_sidesOf, Cond.code yX6_sidesOf cX6_sidesOf 4 (some .int)]
def wsL_law0_r17 : List Cond := [Cond.methodLink RL 106 yL_from, Cond.static yL_from, Cond.codeWith yL_from cL_from 5 (some .int) [(0, 10, 13, 19)], Cond.methodLink RL 41 yX5_from, Cond.instanceMethod yX5_from, Cond.selects RX5 yX5_from yX5_from, Cond.code yX5_from cX5_from 5 (some .int), Cond.fieldLink RX5 140 "PlaneColours$FaceRows" "leastSide" "[I", Cond.methodLink RX5 143 yX2_sideBehind, Cond.methodLink RL 108 yX6_from, Cond.instanceMethod yX6_from, Cond.selects RX6 yX6_from yX6_from, Cond.code yX6_from cX6_from 5 (some .int), Cond.methodLink RX6 123 yX6_firstSide, Cond.instanceMethod yX6_firstSide, Cond.selects RX6 yX6_firstSide yX6_firstSide, Cond.code yX6_firstSide cX6_firstSide 3 (some .int), Cond.methodLink RL 109 yX5_parts, Cond.instanceMethod yX5_parts, Cond.selects RX5 yX5_parts yX5_parts, Cond.code yX5_parts cX5_parts 1 (some .int), Cond.fieldLink RX5 147 "PlaneColours$Tree" "count" "I", Cond.methodLink RL 112 yX6_parts, Cond.instanceMethod yX6_parts]
def wsL_law0_r18 : List Cond := [Cond.selects RX6 yX6_parts yX6_parts, Cond.code yX6_parts cX6_parts 1 (some .int), Cond.fieldLink RX6 126 "PlaneColoursModel" "partCount" "I", Cond.methodLink RX6 133 yX6_findTree, Cond.instanceMethod yX6_findTree, Cond.selects RX6 yX6_findTree yX6_findTree, Cond.code yX6_findTree cX6_findTree 2 none, Cond.methodLink RX6 129 yX6_spread, Cond.instanceMethod yX6_spread, Cond.selects RX6 yX6_spread yX6_spread, Cond.code yX6_spread cX6_spread 7 none, Cond.methodLink RL 113 yX5_genus, Cond.instanceMethod yX5_genus, Cond.selects RX5 yX5_genus yX5_genus, Cond.code yX5_genus cX5_genus 2 (some .int), Cond.methodLink RX5 148 yX2_lonelyVertices, Cond.instanceMethod yX2_lonelyVertices, Cond.selects RX2 yX2_lonelyVertices yX2_lonelyVertices, Cond.code yX2_lonelyVertices cX2_lonelyVertices 3 (some .int), Cond.methodLink RL 116 yX6_genus, Cond.instanceMethod yX6_genus, Cond.selects RX6 yX6_genus yX6_genus, Cond.code yX6_genus cX6_genus 1 (some .int), Cond.methodLink RX6 136 yX6_genusOf]
def wsL_law0_r19 : List Cond := [Cond.instanceMethod yX6_genusOf, Cond.selects RX6 yX6_genusOf yX6_genusOf, Cond.code yX6_genusOf cX6_genusOf 3 (some .int), Cond.methodLink RL 117 yL_colour, Cond.static yL_colour, Cond.codeWith yL_colour cL_colour 3 (some .int) [(0, 8, 11, 47)], Cond.classLink RL 47 "java/lang/IllegalStateException", Cond.methodLink RL 44 yX5_colour, Cond.instanceMethod yX5_colour, Cond.selects RX5 yX5_colour yX5_colour, Cond.code yX5_colour cX5_colour 1 (some .int), Cond.methodLink RX5 151 yX5_checkPlane, Cond.instanceMethod yX5_checkPlane, Cond.selects RX5 yX5_checkPlane yX5_checkPlane, Cond.code yX5_checkPlane cX5_checkPlane 1 none, Cond.classLink RX5 226 "java/lang/IllegalStateException", Cond.initialized "java/lang/IllegalStateException", Cond.methodLink RX5 212 yX5_isPlane, Cond.instanceMethod yX5_isPlane, Cond.selects RX5 yX5_isPlane yX5_isPlane, Cond.code yX5_isPlane cX5_isPlane 1 (some .boolean), Cond.methodLink RX5 223 yX5_genus, Cond.methodLink RX5 154 yX0_colourAll, Cond.instanceMethod yX0_colourAll]
def wsL_law0_r20 : List Cond := [Cond.selects RX0 yX0_colourAll yX0_colourAll, Cond.code yX0_colourAll cX0_colourAll 3 none, Cond.methodLink RX0 47 yX0_forget, Cond.methodLink RX0 50 yX0_takeAll, Cond.instanceMethod yX0_takeAll, Cond.selects RX0 yX0_takeAll yX0_takeAll, Cond.code yX0_takeAll cX0_takeAll 4 (some .int), Cond.methodLink RX0 58 yX0_leastToTake, Cond.instanceMethod yX0_leastToTake, Cond.selects RX0 yX0_leastToTake yX0_leastToTake, Cond.code yX0_leastToTake cX0_leastToTake 2 (some .int), Cond.methodLink RX0 61 yX0_neighboursLeft, Cond.instanceMethod yX0_neighboursLeft, Cond.selects RX0 yX0_neighboursLeft yX0_neighboursLeft, Cond.code yX0_neighboursLeft cX0_neighboursLeft 5 (some .int), Cond.fieldLink RX0 65 "PlaneColours$Graph" "firstSide" "[I", Cond.fieldLink RX0 68 "PlaneColours$Graph" "degrees" "[I", Cond.fieldLink RX0 74 "PlaneColours$Graph" "next" "[I", Cond.methodLink RX0 71 yX2_target, Cond.methodLink RX0 54 yX0_bringBack, Cond.instanceMethod yX0_bringBack, Cond.selects RX0 yX0_bringBack yX0_bringBack, Cond.code yX0_bringBack cX0_bringBack 3 none, Cond.methodLink RX0 77 yX0_leastFreeColour]
def wsL_law0_r21 : List Cond := [Cond.instanceMethod yX0_leastFreeColour, Cond.selects RX0 yX0_leastFreeColour yX0_leastFreeColour, Cond.code yX0_leastFreeColour cX0_leastFreeColour 5 (some .int), Cond.methodLink RX0 80 yX0_colourFreedByChain, Cond.instanceMethod yX0_colourFreedByChain, Cond.selects RX0 yX0_colourFreedByChain yX0_colourFreedByChain, Cond.code yX0_colourFreedByChain cX0_colourFreedByChain 4 (some .int), Cond.methodLink RX0 83 yX0_listFiveRound, Cond.instanceMethod yX0_listFiveRound, Cond.selects RX0 yX0_listFiveRound yX0_listFiveRound, Cond.code yX0_listFiveRound cX0_listFiveRound 6 none, Cond.methodLink RX0 86 yX0_collectChain, Cond.instanceMethod yX0_collectChain, Cond.selects RX0 yX0_collectChain yX0_collectChain, Cond.code yX0_collectChain cX0_collectChain 5 none, Cond.methodLink RX0 93 yX0_addToChain, Cond.instanceMethod yX0_addToChain, Cond.selects RX0 yX0_addToChain yX0_addToChain, Cond.code yX0_addToChain cX0_addToChain 2 none, Cond.methodLink RX0 96 yX0_addNeighboursOf, Cond.instanceMethod yX0_addNeighboursOf, Cond.selects RX0 yX0_addNeighboursOf yX0_addNeighboursOf, Cond.code yX0_addNeighboursOf cX0_addNeighboursOf 8 none, Cond.methodLink RX0 90 yX0_swapChain]
def wsL_law0_r22 : List Cond := [Cond.instanceMethod yX0_swapChain, Cond.selects RX0 yX0_swapChain yX0_swapChain, Cond.code yX0_swapChain cX0_swapChain 5 none, Cond.methodLink RX5 157 yX0_coloursUsed, Cond.instanceMethod yX0_coloursUsed, Cond.selects RX0 yX0_coloursUsed yX0_coloursUsed, Cond.code yX0_coloursUsed cX0_coloursUsed 3 (some .int), Cond.methodLink RX0 100 yJ6_bitCount_0f7a4, Cond.static yJ6_bitCount_0f7a4, Cond.initialized RJ6, Cond.code yJ6_bitCount_0f7a4 cJ6_bitCount_0f7a4 1 (some .int), Cond.constant RJ6 265 (1431655765), Cond.constant RJ6 266 (858993459), Cond.constant RJ6 267 (252645135), Cond.methodLink RL 119 yX6_colour, Cond.instanceMethod yX6_colour, Cond.selects RX6 yX6_colour yX6_colour, Cond.code yX6_colour cX6_colour 4 (some .int), Cond.methodLink RX6 152 yX6_around, Cond.instanceMethod yX6_around, Cond.selects RX6 yX6_around yX6_around, Cond.code yX6_around cX6_around 4 (some .int), Cond.methodLink RX6 155 yX6_freeColour, Cond.instanceMethod yX6_freeColour]
def wsL_law0_r23 : List Cond := [Cond.selects RX6 yX6_freeColour yX6_freeColour, Cond.code yX6_freeColour cX6_freeColour 6 (some .int), Cond.methodLink RX6 158 yX6_makeFree, Cond.instanceMethod yX6_makeFree, Cond.selects RX6 yX6_makeFree yX6_makeFree, Cond.code yX6_makeFree cX6_makeFree 5 (some .int), Cond.methodLink RX6 143 yX6_neighbour, Cond.instanceMethod yX6_neighbour, Cond.selects RX6 yX6_neighbour yX6_neighbour, Cond.code yX6_neighbour cX6_neighbour 6 (some .int), Cond.methodLink RX6 146 yX6_findChain, Cond.instanceMethod yX6_findChain, Cond.selects RX6 yX6_findChain yX6_findChain, Cond.code yX6_findChain cX6_findChain 8 none, Cond.fieldLink RX6 140 "PlaneColoursModel" "chained" "I", Cond.methodLink RX6 149 yX6_changeChain, Cond.instanceMethod yX6_changeChain, Cond.selects RX6 yX6_changeChain yX6_changeChain, Cond.code yX6_changeChain cX6_changeChain 4 none, Cond.methodLink RX6 161 yX6_colourCount, Cond.instanceMethod yX6_colourCount, Cond.selects RX6 yX6_colourCount yX6_colourCount, Cond.code yX6_colourCount cX6_colourCount 5 (some .int), Cond.methodLink RL 120 yL_colourOf]
def wsL_law0_r24 : List Cond := [Cond.static yL_colourOf, Cond.codeWith yL_colourOf cL_colourOf 4 (some .int) [(0, 9, 12, 19)], Cond.methodLink RL 49 yX5_colourOf, Cond.instanceMethod yX5_colourOf, Cond.selects RX5 yX5_colourOf yX5_colourOf, Cond.code yX5_colourOf cX5_colourOf 2 (some .int), Cond.methodLink RL 122 yX6_colourOf, Cond.instanceMethod yX6_colourOf, Cond.selects RX6 yX6_colourOf yX6_colourOf, Cond.code yX6_colourOf cX6_colourOf 2 (some .int), Cond.methodLink RL 123 yX5_exchanges, Cond.instanceMethod yX5_exchanges, Cond.selects RX5 yX5_exchanges yX5_exchanges, Cond.code yX5_exchanges cX5_exchanges 1 (some .int), Cond.fieldLink RX5 160 "PlaneColours$Colouring" "chainsChanged" "I", Cond.methodLink RL 126 yX6_exchanges, Cond.instanceMethod yX6_exchanges, Cond.selects RX6 yX6_exchanges yX6_exchanges, Cond.code yX6_exchanges cX6_exchanges 1 (some .int), Cond.methodLink RL 127 yL_exchange, Cond.static yL_exchange, Cond.codeWith yL_exchange cL_exchange 5 (some .int) [(0, 10, 13, 19), (0, 10, 17, 21)], Cond.methodLink RL 52 yX5_exchange, Cond.instanceMethod yX5_exchange]
def wsL_law0_r25 : List Cond := [Cond.selects RX5 yX5_exchange yX5_exchange, Cond.code yX5_exchange cX5_exchange 4 (some .int), Cond.fieldLink RX5 174 "PlaneColours$Colouring" "chainSize" "I", Cond.methodLink RX5 167 yX0_collectChain, Cond.methodLink RX5 171 yX0_swapChain, Cond.methodLink RL 129 yX6_exchange, Cond.instanceMethod yX6_exchange, Cond.selects RX6 yX6_exchange yX6_exchange, Cond.code yX6_exchange cX6_exchange 4 (some .int), Cond.methodLink RL 130 yX5_clashes, Cond.instanceMethod yX5_clashes, Cond.selects RX5 yX5_clashes yX5_clashes, Cond.code yX5_clashes cX5_clashes 1 (some .int), Cond.methodLink RX5 177 yX0_equalEnds, Cond.instanceMethod yX0_equalEnds, Cond.selects RX0 yX0_equalEnds yX0_equalEnds, Cond.code yX0_equalEnds cX0_equalEnds 4 (some .int), Cond.fieldLink RX0 105 "PlaneColours$Graph" "made" "I", Cond.fieldLink RX0 108 "PlaneColours$Graph" "isHere" "[Z", Cond.fieldLink RX0 111 "PlaneColours$Graph" "start" "[I", Cond.methodLink RL 133 yX6_clashes, Cond.instanceMethod yX6_clashes, Cond.selects RX6 yX6_clashes yX6_clashes, Cond.code yX6_clashes cX6_clashes 3 (some .int)]
def wsL_law0_r26 : List Cond := [Cond.methodLink RL 134 yL_above, Cond.static yL_above, Cond.codeWith yL_above cL_above 4 (some .int) [(0, 9, 12, 19)], Cond.methodLink RL 55 yX5_above, Cond.instanceMethod yX5_above, Cond.selects RX5 yX5_above yX5_above, Cond.code yX5_above cX5_above 2 (some .int), Cond.fieldLink RX5 180 "PlaneColours$Tree" "vertexAbove" "[I", Cond.methodLink RL 136 yX6_above, Cond.instanceMethod yX6_above, Cond.selects RX6 yX6_above yX6_above, Cond.code yX6_above cX6_above 2 (some .int), Cond.methodLink RL 137 yL_cycle, Cond.static yL_cycle, Cond.codeWith yL_cycle cL_cycle 4 (some .int) [(0, 9, 12, 19)], Cond.methodLink RL 58 yX5_cycle, Cond.instanceMethod yX5_cycle, Cond.selects RX5 yX5_cycle yX5_cycle, Cond.code yX5_cycle cX5_cycle 2 (some .int), Cond.fieldLink RX5 190 "PlaneColours$Parting" "cycleLength" "I", Cond.methodLink RX5 183 yX4_holds, Cond.instanceMethod yX4_holds, Cond.selects RX4 yX4_holds yX4_holds, Cond.code yX4_holds cX4_holds 2 (some .boolean)]
def wsL_law0_r27 : List Cond := [Cond.fieldLink RX4 67 "PlaneColours$Graph" "start" "[I", Cond.methodLink RX5 187 yX3_markCycle, Cond.instanceMethod yX3_markCycle, Cond.selects RX3 yX3_markCycle yX3_markCycle, Cond.code yX3_markCycle cX3_markCycle 5 none, Cond.fieldLink RX3 67 "PlaneColours$Graph" "start" "[I", Cond.fieldLink RX3 78 "PlaneColours$Tree" "level" "[I", Cond.methodLink RX3 75 yX3_unmarkCycle, Cond.instanceMethod yX3_unmarkCycle, Cond.selects RX3 yX3_unmarkCycle yX3_unmarkCycle, Cond.code yX3_unmarkCycle cX3_unmarkCycle 2 none, Cond.fieldLink RX3 85 "PlaneColours$Graph" "vertices" "I", Cond.fieldLink RX3 88 "PlaneColours$Graph" "made" "I", Cond.methodLink RX3 81 yX3_climbFrom, Cond.instanceMethod yX3_climbFrom, Cond.selects RX3 yX3_climbFrom yX3_climbFrom, Cond.code yX3_climbFrom cX3_climbFrom 2 (some .int), Cond.fieldLink RX3 91 "PlaneColours$Tree" "edgeAbove" "[I", Cond.fieldLink RX3 94 "PlaneColours$Tree" "vertexAbove" "[I", Cond.methodLink RL 139 yX6_cycle, Cond.instanceMethod yX6_cycle, Cond.selects RX6 yX6_cycle yX6_cycle, Cond.code yX6_cycle cX6_cycle 2 (some .int), Cond.methodLink RX6 167 yX6_isTree]
def wsL_law0_r28 : List Cond := [Cond.instanceMethod yX6_isTree, Cond.selects RX6 yX6_isTree yX6_isTree, Cond.code yX6_isTree cX6_isTree 2 (some .boolean), Cond.methodLink RX6 170 yX6_findCycle, Cond.instanceMethod yX6_findCycle, Cond.selects RX6 yX6_findCycle yX6_findCycle, Cond.code yX6_findCycle cX6_findCycle 7 (some .int), Cond.methodLink RX6 164 yX6_depth, Cond.instanceMethod yX6_depth, Cond.selects RX6 yX6_depth yX6_depth, Cond.code yX6_depth cX6_depth 4 (some .int), Cond.methodLink RL 140 yL_side, Cond.static yL_side, Cond.codeWith yL_side cL_side 5 (some .int) [(0, 10, 13, 19), (0, 10, 17, 47)], Cond.methodLink RL 61 yX5_side, Cond.instanceMethod yX5_side, Cond.selects RX5 yX5_side yX5_side, Cond.code yX5_side cX5_side 3 (some .int), Cond.fieldLink RX5 196 "PlaneColours$Parting" "inside" "I", Cond.fieldLink RX5 199 "PlaneColours$Parting" "outside" "I", Cond.methodLink RX5 193 yX3_partBy, Cond.instanceMethod yX3_partBy, Cond.selects RX3 yX3_partBy yX3_partBy, Cond.code yX3_partBy cX3_partBy 2 none]
def wsL_law0_r29 : List Cond := [Cond.fieldLink RX3 54 "PlaneColours$FaceRows" "faceOfSide" "[I", Cond.fieldLink RX3 62 "PlaneColours$Tree" "partOf" "[I", Cond.methodLink RX3 50 yX3_markCycle, Cond.methodLink RX3 59 yX3_markFacesInside, Cond.instanceMethod yX3_markFacesInside, Cond.selects RX3 yX3_markFacesInside yX3_markFacesInside, Cond.code yX3_markFacesInside cX3_markFacesInside 3 none, Cond.fieldLink RX3 97 "PlaneColours$FaceRows" "count" "I", Cond.methodLink RX3 100 yX3_addInside, Cond.instanceMethod yX3_addInside, Cond.selects RX3 yX3_addInside yX3_addInside, Cond.code yX3_addInside cX3_addInside 2 none, Cond.methodLink RX3 103 yX3_addFacesBeside, Cond.instanceMethod yX3_addFacesBeside, Cond.selects RX3 yX3_addFacesBeside yX3_addFacesBeside, Cond.code yX3_addFacesBeside cX3_addFacesBeside 5 none, Cond.fieldLink RX3 106 "PlaneColours$FaceRows" "leastSide" "[I", Cond.fieldLink RX3 109 "PlaneColours$FaceRows" "lengths" "[I", Cond.methodLink RX3 112 yX2_sideBehind, Cond.methodLink RX3 72 yX3_countVertices, Cond.instanceMethod yX3_countVertices, Cond.selects RX3 yX3_countVertices yX3_countVertices, Cond.code yX3_countVertices cX3_countVertices 3 none, Cond.fieldLink RX3 115 "PlaneColours$Graph" "firstSide" "[I"]
def wsL_law0_r30 : List Cond := [Cond.methodLink RL 142 yX6_side, Cond.instanceMethod yX6_side, Cond.selects RX6 yX6_side yX6_side, Cond.code yX6_side cX6_side 4 (some .int), Cond.methodLink RX6 173 yX6_findInside, Cond.instanceMethod yX6_findInside, Cond.selects RX6 yX6_findInside yX6_findInside, Cond.code yX6_findInside cX6_findInside 4 none, Cond.methodLink RX6 176 yX6_countSide, Cond.instanceMethod yX6_countSide, Cond.selects RX6 yX6_countSide yX6_countSide, Cond.code yX6_countSide cX6_countSide 9 (some .int), Cond.methodLink RL 143 yL_best, Cond.static yL_best, Cond.codeWith yL_best cL_best 3 (some .int) [(0, 8, 11, 47)], Cond.methodLink RL 64 yX5_best, Cond.instanceMethod yX5_best, Cond.selects RX5 yX5_best yX5_best, Cond.code yX5_best cX5_best 7 (some .int), Cond.methodLink RX5 206 Lib.Math.max.name, Cond.static Lib.Math.max.name, Cond.initialized "java/lang/Math", Cond.code Lib.Math.max.name Lib.Math.max.code 2 (some .int), Cond.methodLink RL 145 yX6_best]
def wsL_law0_r31 : List Cond := [Cond.instanceMethod yX6_best, Cond.selects RX6 yX6_best yX6_best, Cond.code yX6_best cX6_best 9 (some .int), Cond.methodLink RL 146 yX5_told, Cond.instanceMethod yX5_told, Cond.selects RX5 yX5_told yX5_told, Cond.code yX5_told cX5_told 2 (some .int), Cond.methodLink RL 149 yX6_told, Cond.instanceMethod yX6_told, Cond.selects RX6 yX6_told yX6_told, Cond.code yX6_told cX6_told 2 (some .int), Cond.methodLink RL 150 yX5_clear, Cond.instanceMethod yX5_clear, Cond.selects RX5 yX5_clear yX5_clear, Cond.code yX5_clear cX5_clear 1 none, Cond.methodLink RX5 216 yX2_dropAll, Cond.instanceMethod yX2_dropAll, Cond.selects RX2 yX2_dropAll yX2_dropAll, Cond.code yX2_dropAll cX2_dropAll 1 none, Cond.methodLink RL 153 yX6_clear, Cond.instanceMethod yX6_clear, Cond.selects RX6 yX6_clear yX6_clear, Cond.code yX6_clear cX6_clear 1 none]
def wsL_law0 : List Cond := (wsL_law0_r1 ++ (wsL_law0_r2 ++ (wsL_law0_r3 ++ (wsL_law0_r4 ++ (wsL_law0_r5 ++ (wsL_law0_r6 ++ (wsL_law0_r7 ++ (wsL_law0_r8 ++ (wsL_law0_r9 ++ (wsL_law0_r10 ++ (wsL_law0_r11 ++ (wsL_law0_r12 ++ (wsL_law0_r13 ++ (wsL_law0_r14 ++ (wsL_law0_r15 ++ (wsL_law0_r16 ++ (wsL_law0_r17 ++ (wsL_law0_r18 ++ (wsL_law0_r19 ++ (wsL_law0_r20 ++ (wsL_law0_r21 ++ (wsL_law0_r22 ++ (wsL_law0_r23 ++ (wsL_law0_r24 ++ (wsL_law0_r25 ++ (wsL_law0_r26 ++ (wsL_law0_r27 ++ (wsL_law0_r28 ++ (wsL_law0_r29 ++ (wsL_law0_r30 ++ wsL_law0_r31)))))))))))))))))))))))))))))) ++ wsX50 ++ wsX60 ++ wsX20 ++ wsX10 ++ wsX40 ++ wsX00 ++ wsX30 ++ ([] : List Cond)
def wsL_law : List Cond := wsL_law0 ++ (vx_atS RX5 56 "java/lang/UnsupportedOperationException" ["java/lang/RuntimeException", "java/lang/Exception"]).filter goodWord ++ (vx_atS RX5 85 "java/lang/IllegalArgumentException" ["java/lang/RuntimeException", "java/lang/Exception"]).filter goodWord ++ (vx_atS RX5 119 "java/lang/IndexOutOfBoundsException" ["java/lang/RuntimeException", "java/lang/Exception"]).filter goodWord ++ (vx_atS RX5 230 "java/lang/IllegalStateException" ["java/lang/RuntimeException", "java/lang/Exception"]).filter goodWord
theorem inlX0 : ∀ w ∈ wsX00, w ∈ wsL_law := fun _ h => List.mem_append_left _ (List.mem_append_left _ (List.mem_append_left _ (List.mem_append_left _ (List.mem_append_left _ (List.mem_append_left _ (List.mem_append_right _ h))))))
theorem inlX1 : ∀ w ∈ wsX10, w ∈ wsL_law := fun _ h => List.mem_append_left _ (List.mem_append_left _ (List.mem_append_left _ (List.mem_append_left _ (List.mem_append_left _ (List.mem_append_left _ (List.mem_append_left _ (List.mem_append_left _ (List.mem_append_right _ h))))))))
theorem inlX2 : ∀ w ∈ wsX20, w ∈ wsL_law := fun _ h => List.mem_append_left _ (List.mem_append_left _ (List.mem_append_left _ (List.mem_append_left _ (List.mem_append_left _ (List.mem_append_left _ (List.mem_append_left _ (List.mem_append_left _ (List.mem_append_left _ (List.mem_append_right _ h)))))))))
theorem inlX3 : ∀ w ∈ wsX30, w ∈ wsL_law := fun _ h => List.mem_append_left _ (List.mem_append_left _ (List.mem_append_left _ (List.mem_append_left _ (List.mem_append_left _ (List.mem_append_right _ h)))))
theorem inlX4 : ∀ w ∈ wsX40, w ∈ wsL_law := fun _ h => List.mem_append_left _ (List.mem_append_left _ (List.mem_append_left _ (List.mem_append_left _ (List.mem_append_left _ (List.mem_append_left _ (List.mem_append_left _ (List.mem_append_right _ h)))))))
theorem inlX5 : ∀ w ∈ wsX50, w ∈ wsL_law := fun _ h => List.mem_append_left _ (List.mem_append_left _ (List.mem_append_left _ (List.mem_append_left _ (List.mem_append_left _ (List.mem_append_left _ (List.mem_append_left _ (List.mem_append_left _ (List.mem_append_left _ (List.mem_append_left _ (List.mem_append_left _ (List.mem_append_right _ h)))))))))))
theorem inlX6 : ∀ w ∈ wsX60, w ∈ wsL_law := fun _ h => List.mem_append_left _ (List.mem_append_left _ (List.mem_append_left _ (List.mem_append_left _ (List.mem_append_left _ (List.mem_append_left _ (List.mem_append_left _ (List.mem_append_left _ (List.mem_append_left _ (List.mem_append_left _ (List.mem_append_right _ h))))))))))
abbrev vwCl : List vw_C := [(RX0, TX0, 9), (RX1, TX1, 5), (RX2, TX2, 9), (RX3, TX3, 11), (RX4, TX4, 8), (RX5, TX5, 5), (RX6, TX6, 24)]
end
section
theorem dX2_init_0 : decode cX2_init 0 = .ok (.aload_n 0, 1) := by decide +kernel
theorem dX2_init_1 : decode cX2_init 1 = .ok (.invokespecial 3, 3) := by decide +kernel
theorem dX2_init_4 : decode cX2_init 4 = .ok (.aload_n 0, 1) := by decide +kernel
theorem dX2_init_5 : decode cX2_init 5 = .ok (.sipush 200, 3) := by decide +kernel
theorem dX2_init_8 : decode cX2_init 8 = .ok (.newarray .int, 2) := by decide +kernel
theorem dX2_init_10 : decode cX2_init 10 = .ok (.putfield 9, 3) := by decide +kernel
theorem dX2_init_13 : decode cX2_init 13 = .ok (.aload_n 0, 1) := by decide +kernel
theorem dX2_init_14 : decode cX2_init 14 = .ok (.sipush 200, 3) := by decide +kernel
theorem dX2_init_17 : decode cX2_init 17 = .ok (.newarray .int, 2) := by decide +kernel
theorem dX2_init_19 : decode cX2_init 19 = .ok (.putfield 15, 3) := by decide +kernel
theorem dX2_init_22 : decode cX2_init 22 = .ok (.aload_n 0, 1) := by decide +kernel
theorem dX2_init_23 : decode cX2_init 23 = .ok (.sipush 200, 3) := by decide +kernel
theorem dX2_init_26 : decode cX2_init 26 = .ok (.newarray .int, 2) := by decide +kernel
theorem dX2_init_28 : decode cX2_init 28 = .ok (.putfield 18, 3) := by decide +kernel
theorem dX2_init_31 : decode cX2_init 31 = .ok (.aload_n 0, 1) := by decide +kernel
theorem dX2_init_32 : decode cX2_init 32 = .ok (.bipush 100, 2) := by decide +kernel
theorem dX2_init_34 : decode cX2_init 34 = .ok (.newarray .boolean, 2) := by decide +kernel
theorem dX2_init_36 : decode cX2_init 36 = .ok (.putfield 21, 3) := by decide +kernel
theorem dX2_init_39 : decode cX2_init 39 = .ok (.aload_n 0, 1) := by decide +kernel
theorem dX2_init_40 : decode cX2_init 40 = .ok (.bipush 30, 2) := by decide +kernel
theorem dX2_init_42 : decode cX2_init 42 = .ok (.newarray .int, 2) := by decide +kernel
theorem dX2_init_44 : decode cX2_init 44 = .ok (.putfield 25, 3) := by decide +kernel
theorem dX2_init_47 : decode cX2_init 47 = .ok (.aload_n 0, 1) := by decide +kernel
theorem dX2_init_48 : decode cX2_init 48 = .ok (.bipush 30, 2) := by decide +kernel
theorem dX2_init_50 : decode cX2_init 50 = .ok (.newarray .int, 2) := by decide +kernel
theorem dX2_init_52 : decode cX2_init 52 = .ok (.putfield 28, 3) := by decide +kernel
theorem dX2_init_55 : decode cX2_init 55 = .ok (.aload_n 0, 1) := by decide +kernel
theorem dX2_init_56 : decode cX2_init 56 = .ok (.iconst 0, 1) := by decide +kernel
theorem dX2_init_57 : decode cX2_init 57 = .ok (.putfield 31, 3) := by decide +kernel
theorem dX2_init_60 : decode cX2_init 60 = .ok (.aload_n 0, 1) := by decide +kernel
theorem dX2_init_61 : decode cX2_init 61 = .ok (.iconst 0, 1) := by decide +kernel
theorem dX2_init_62 : decode cX2_init 62 = .ok (.putfield 35, 3) := by decide +kernel
theorem dX2_init_65 : decode cX2_init 65 = .ok (.aload_n 0, 1) := by decide +kernel
theorem dX2_init_66 : decode cX2_init 66 = .ok (.iconst 0, 1) := by decide +kernel
theorem dX2_init_67 : decode cX2_init 67 = .ok (.putfield 38, 3) := by decide +kernel
theorem dX2_init_70 : decode cX2_init 70 = .ok (.return_, 1) := by decide +kernel
theorem dX2_addVertex_0 : decode cX2_addVertex 0 = .ok (.aload_n 0, 1) := by decide +kernel
theorem dX2_addVertex_1 : decode cX2_addVertex 1 = .ok (.getfield 31, 3) := by decide +kernel
theorem dX2_addVertex_4 : decode cX2_addVertex 4 = .ok (.istore_n 1, 1) := by decide +kernel
theorem dX2_addVertex_5 : decode cX2_addVertex 5 = .ok (.aload_n 0, 1) := by decide +kernel
theorem dX2_addVertex_6 : decode cX2_addVertex 6 = .ok (.getfield 25, 3) := by decide +kernel
theorem dX2_addVertex_9 : decode cX2_addVertex 9 = .ok (.iload_n 1, 1) := by decide +kernel
theorem dX2_addVertex_10 : decode cX2_addVertex 10 = .ok (.iconst (-1), 1) := by decide +kernel
theorem dX2_addVertex_11 : decode cX2_addVertex 11 = .ok (.iastore, 1) := by decide +kernel
theorem dX2_addVertex_12 : decode cX2_addVertex 12 = .ok (.aload_n 0, 1) := by decide +kernel
theorem dX2_addVertex_13 : decode cX2_addVertex 13 = .ok (.getfield 28, 3) := by decide +kernel
theorem dX2_addVertex_16 : decode cX2_addVertex 16 = .ok (.iload_n 1, 1) := by decide +kernel
theorem dX2_addVertex_17 : decode cX2_addVertex 17 = .ok (.iconst 0, 1) := by decide +kernel
theorem dX2_addVertex_18 : decode cX2_addVertex 18 = .ok (.iastore, 1) := by decide +kernel
theorem dX2_addVertex_19 : decode cX2_addVertex 19 = .ok (.aload_n 0, 1) := by decide +kernel
theorem dX2_addVertex_20 : decode cX2_addVertex 20 = .ok (.dup, 1) := by decide +kernel
theorem dX2_addVertex_21 : decode cX2_addVertex 21 = .ok (.getfield 31, 3) := by decide +kernel
theorem dX2_addVertex_24 : decode cX2_addVertex 24 = .ok (.iconst 1, 1) := by decide +kernel
theorem dX2_addVertex_25 : decode cX2_addVertex 25 = .ok (.iadd, 1) := by decide +kernel
theorem dX2_addVertex_26 : decode cX2_addVertex 26 = .ok (.putfield 31, 3) := by decide +kernel
theorem dX2_addVertex_29 : decode cX2_addVertex 29 = .ok (.iload_n 1, 1) := by decide +kernel
theorem dX2_addVertex_30 : decode cX2_addVertex 30 = .ok (.ireturn, 1) := by decide +kernel
theorem dX2_addEdge_0 : decode cX2_addEdge 0 = .ok (.aload_n 0, 1) := by decide +kernel
theorem dX2_addEdge_1 : decode cX2_addEdge 1 = .ok (.getfield 35, 3) := by decide +kernel
theorem dX2_addEdge_4 : decode cX2_addEdge 4 = .ok (.istore 5, 2) := by decide +kernel
theorem dX2_addEdge_6 : decode cX2_addEdge 6 = .ok (.aload_n 0, 1) := by decide +kernel
theorem dX2_addEdge_7 : decode cX2_addEdge 7 = .ok (.getfield 21, 3) := by decide +kernel
theorem dX2_addEdge_10 : decode cX2_addEdge 10 = .ok (.iload 5, 2) := by decide +kernel
theorem dX2_addEdge_12 : decode cX2_addEdge 12 = .ok (.iconst 1, 1) := by decide +kernel
theorem dX2_addEdge_13 : decode cX2_addEdge 13 = .ok (.bastore, 1) := by decide +kernel
theorem dX2_addEdge_14 : decode cX2_addEdge 14 = .ok (.aload_n 0, 1) := by decide +kernel
theorem dX2_addEdge_15 : decode cX2_addEdge 15 = .ok (.dup, 1) := by decide +kernel
theorem dX2_addEdge_16 : decode cX2_addEdge 16 = .ok (.getfield 35, 3) := by decide +kernel
theorem dX2_addEdge_19 : decode cX2_addEdge 19 = .ok (.iconst 1, 1) := by decide +kernel
theorem dX2_addEdge_20 : decode cX2_addEdge 20 = .ok (.iadd, 1) := by decide +kernel
theorem dX2_addEdge_21 : decode cX2_addEdge 21 = .ok (.putfield 35, 3) := by decide +kernel
theorem dX2_addEdge_24 : decode cX2_addEdge 24 = .ok (.aload_n 0, 1) := by decide +kernel
theorem dX2_addEdge_25 : decode cX2_addEdge 25 = .ok (.dup, 1) := by decide +kernel
theorem dX2_addEdge_26 : decode cX2_addEdge 26 = .ok (.getfield 38, 3) := by decide +kernel
theorem dX2_addEdge_29 : decode cX2_addEdge 29 = .ok (.iconst 1, 1) := by decide +kernel
theorem dX2_addEdge_30 : decode cX2_addEdge 30 = .ok (.iadd, 1) := by decide +kernel
theorem dX2_addEdge_31 : decode cX2_addEdge 31 = .ok (.putfield 38, 3) := by decide +kernel
theorem dX2_addEdge_34 : decode cX2_addEdge 34 = .ok (.aload_n 0, 1) := by decide +kernel
theorem dX2_addEdge_35 : decode cX2_addEdge 35 = .ok (.iconst 2, 1) := by decide +kernel
theorem dX2_addEdge_36 : decode cX2_addEdge 36 = .ok (.iload 5, 2) := by decide +kernel
theorem dX2_addEdge_38 : decode cX2_addEdge 38 = .ok (.imul, 1) := by decide +kernel
theorem dX2_addEdge_39 : decode cX2_addEdge 39 = .ok (.iload_n 1, 1) := by decide +kernel
theorem dX2_addEdge_40 : decode cX2_addEdge 40 = .ok (.iload_n 3, 1) := by decide +kernel
theorem dX2_addEdge_41 : decode cX2_addEdge 41 = .ok (.invokevirtual 41, 3) := by decide +kernel
theorem dX2_addEdge_44 : decode cX2_addEdge 44 = .ok (.aload_n 0, 1) := by decide +kernel
theorem dX2_addEdge_45 : decode cX2_addEdge 45 = .ok (.iconst 2, 1) := by decide +kernel
theorem dX2_addEdge_46 : decode cX2_addEdge 46 = .ok (.iload 5, 2) := by decide +kernel
theorem dX2_addEdge_48 : decode cX2_addEdge 48 = .ok (.imul, 1) := by decide +kernel
theorem dX2_addEdge_49 : decode cX2_addEdge 49 = .ok (.iconst 1, 1) := by decide +kernel
theorem dX2_addEdge_50 : decode cX2_addEdge 50 = .ok (.iadd, 1) := by decide +kernel
theorem dX2_addEdge_51 : decode cX2_addEdge 51 = .ok (.iload_n 2, 1) := by decide +kernel
theorem dX2_addEdge_52 : decode cX2_addEdge 52 = .ok (.iload 4, 2) := by decide +kernel
theorem dX2_addEdge_54 : decode cX2_addEdge 54 = .ok (.invokevirtual 41, 3) := by decide +kernel
theorem dX2_addEdge_57 : decode cX2_addEdge 57 = .ok (.iload 5, 2) := by decide +kernel
theorem dX2_addEdge_59 : decode cX2_addEdge 59 = .ok (.ireturn, 1) := by decide +kernel
theorem dX2_putSide_0 : decode cX2_putSide 0 = .ok (.aload_n 0, 1) := by decide +kernel
theorem dX2_putSide_1 : decode cX2_putSide 1 = .ok (.getfield 9, 3) := by decide +kernel
theorem dX2_putSide_4 : decode cX2_putSide 4 = .ok (.iload_n 1, 1) := by decide +kernel
theorem dX2_putSide_5 : decode cX2_putSide 5 = .ok (.iload_n 2, 1) := by decide +kernel
theorem dX2_putSide_6 : decode cX2_putSide 6 = .ok (.iastore, 1) := by decide +kernel
theorem dX2_putSide_7 : decode cX2_putSide 7 = .ok (.aload_n 0, 1) := by decide +kernel
theorem dX2_putSide_8 : decode cX2_putSide 8 = .ok (.getfield 28, 3) := by decide +kernel
theorem dX2_putSide_11 : decode cX2_putSide 11 = .ok (.iload_n 2, 1) := by decide +kernel
theorem dX2_putSide_12 : decode cX2_putSide 12 = .ok (.iaload, 1) := by decide +kernel
theorem dX2_putSide_13 : decode cX2_putSide 13 = .ok (.ifCond .ne 27, 3) := by decide +kernel
theorem dX2_putSide_16 : decode cX2_putSide 16 = .ok (.aload_n 0, 1) := by decide +kernel
theorem dX2_putSide_17 : decode cX2_putSide 17 = .ok (.getfield 25, 3) := by decide +kernel
theorem dX2_putSide_20 : decode cX2_putSide 20 = .ok (.iload_n 2, 1) := by decide +kernel
theorem dX2_putSide_21 : decode cX2_putSide 21 = .ok (.iload_n 1, 1) := by decide +kernel
theorem dX2_putSide_22 : decode cX2_putSide 22 = .ok (.iastore, 1) := by decide +kernel
theorem dX2_putSide_23 : decode cX2_putSide 23 = .ok (.aload_n 0, 1) := by decide +kernel
theorem dX2_putSide_24 : decode cX2_putSide 24 = .ok (.getfield 15, 3) := by decide +kernel
theorem dX2_putSide_27 : decode cX2_putSide 27 = .ok (.iload_n 1, 1) := by decide +kernel
theorem dX2_putSide_28 : decode cX2_putSide 28 = .ok (.iload_n 1, 1) := by decide +kernel
theorem dX2_putSide_29 : decode cX2_putSide 29 = .ok (.iastore, 1) := by decide +kernel
theorem dX2_putSide_30 : decode cX2_putSide 30 = .ok (.aload_n 0, 1) := by decide +kernel
theorem dX2_putSide_31 : decode cX2_putSide 31 = .ok (.getfield 18, 3) := by decide +kernel
theorem dX2_putSide_34 : decode cX2_putSide 34 = .ok (.iload_n 1, 1) := by decide +kernel
theorem dX2_putSide_35 : decode cX2_putSide 35 = .ok (.iload_n 1, 1) := by decide +kernel
theorem dX2_putSide_36 : decode cX2_putSide 36 = .ok (.iastore, 1) := by decide +kernel
theorem dX2_putSide_37 : decode cX2_putSide 37 = .ok (.goto 53, 3) := by decide +kernel
theorem dX2_putSide_40 : decode cX2_putSide 40 = .ok (.iload_n 3, 1) := by decide +kernel
theorem dX2_putSide_41 : decode cX2_putSide 41 = .ok (.iconst (-1), 1) := by decide +kernel
theorem dX2_putSide_42 : decode cX2_putSide 42 = .ok (.if_icmp .ne 17, 3) := by decide +kernel
theorem dX2_putSide_45 : decode cX2_putSide 45 = .ok (.aload_n 0, 1) := by decide +kernel
theorem dX2_putSide_46 : decode cX2_putSide 46 = .ok (.getfield 18, 3) := by decide +kernel
theorem dX2_putSide_49 : decode cX2_putSide 49 = .ok (.aload_n 0, 1) := by decide +kernel
theorem dX2_putSide_50 : decode cX2_putSide 50 = .ok (.getfield 25, 3) := by decide +kernel
theorem dX2_putSide_53 : decode cX2_putSide 53 = .ok (.iload_n 2, 1) := by decide +kernel
theorem dX2_putSide_54 : decode cX2_putSide 54 = .ok (.iaload, 1) := by decide +kernel
theorem dX2_putSide_55 : decode cX2_putSide 55 = .ok (.iaload, 1) := by decide +kernel
theorem dX2_putSide_56 : decode cX2_putSide 56 = .ok (.goto 9, 3) := by decide +kernel
theorem dX2_putSide_59 : decode cX2_putSide 59 = .ok (.aload_n 0, 1) := by decide +kernel
theorem dX2_putSide_60 : decode cX2_putSide 60 = .ok (.iload_n 2, 1) := by decide +kernel
theorem dX2_putSide_61 : decode cX2_putSide 61 = .ok (.iload_n 3, 1) := by decide +kernel
theorem dX2_putSide_62 : decode cX2_putSide 62 = .ok (.invokevirtual 45, 3) := by decide +kernel
theorem dX2_putSide_65 : decode cX2_putSide 65 = .ok (.istore 4, 2) := by decide +kernel
theorem dX2_putSide_67 : decode cX2_putSide 67 = .ok (.aload_n 0, 1) := by decide +kernel
theorem dX2_putSide_68 : decode cX2_putSide 68 = .ok (.getfield 15, 3) := by decide +kernel
theorem dX2_putSide_71 : decode cX2_putSide 71 = .ok (.iload 4, 2) := by decide +kernel
theorem dX2_putSide_73 : decode cX2_putSide 73 = .ok (.iaload, 1) := by decide +kernel
theorem dX2_putSide_74 : decode cX2_putSide 74 = .ok (.istore 5, 2) := by decide +kernel
theorem dX2_putSide_76 : decode cX2_putSide 76 = .ok (.aload_n 0, 1) := by decide +kernel
theorem dX2_putSide_77 : decode cX2_putSide 77 = .ok (.iload 4, 2) := by decide +kernel
theorem dX2_putSide_79 : decode cX2_putSide 79 = .ok (.iload_n 1, 1) := by decide +kernel
theorem dX2_putSide_80 : decode cX2_putSide 80 = .ok (.invokevirtual 49, 3) := by decide +kernel
theorem dX2_putSide_83 : decode cX2_putSide 83 = .ok (.aload_n 0, 1) := by decide +kernel
theorem dX2_putSide_84 : decode cX2_putSide 84 = .ok (.iload_n 1, 1) := by decide +kernel
theorem dX2_putSide_85 : decode cX2_putSide 85 = .ok (.iload 5, 2) := by decide +kernel
theorem dX2_putSide_87 : decode cX2_putSide 87 = .ok (.invokevirtual 49, 3) := by decide +kernel
theorem dX2_putSide_90 : decode cX2_putSide 90 = .ok (.aload_n 0, 1) := by decide +kernel
theorem dX2_putSide_91 : decode cX2_putSide 91 = .ok (.getfield 28, 3) := by decide +kernel
theorem dX2_putSide_94 : decode cX2_putSide 94 = .ok (.iload_n 2, 1) := by decide +kernel
theorem dX2_putSide_95 : decode cX2_putSide 95 = .ok (.dup2, 1) := by decide +kernel
theorem dX2_putSide_96 : decode cX2_putSide 96 = .ok (.iaload, 1) := by decide +kernel
theorem dX2_putSide_97 : decode cX2_putSide 97 = .ok (.iconst 1, 1) := by decide +kernel
theorem dX2_putSide_98 : decode cX2_putSide 98 = .ok (.iadd, 1) := by decide +kernel
theorem dX2_putSide_99 : decode cX2_putSide 99 = .ok (.iastore, 1) := by decide +kernel
theorem dX2_putSide_100 : decode cX2_putSide 100 = .ok (.return_, 1) := by decide +kernel
theorem dX2_dropEdge_0 : decode cX2_dropEdge 0 = .ok (.aload_n 0, 1) := by decide +kernel
theorem dX2_dropEdge_1 : decode cX2_dropEdge 1 = .ok (.iconst 2, 1) := by decide +kernel
theorem dX2_dropEdge_2 : decode cX2_dropEdge 2 = .ok (.iload_n 1, 1) := by decide +kernel
theorem dX2_dropEdge_3 : decode cX2_dropEdge 3 = .ok (.imul, 1) := by decide +kernel
theorem dX2_dropEdge_4 : decode cX2_dropEdge 4 = .ok (.invokevirtual 53, 3) := by decide +kernel
theorem dX2_dropEdge_7 : decode cX2_dropEdge 7 = .ok (.aload_n 0, 1) := by decide +kernel
theorem dX2_dropEdge_8 : decode cX2_dropEdge 8 = .ok (.iconst 2, 1) := by decide +kernel
theorem dX2_dropEdge_9 : decode cX2_dropEdge 9 = .ok (.iload_n 1, 1) := by decide +kernel
theorem dX2_dropEdge_10 : decode cX2_dropEdge 10 = .ok (.imul, 1) := by decide +kernel
theorem dX2_dropEdge_11 : decode cX2_dropEdge 11 = .ok (.iconst 1, 1) := by decide +kernel
theorem dX2_dropEdge_12 : decode cX2_dropEdge 12 = .ok (.iadd, 1) := by decide +kernel
theorem dX2_dropEdge_13 : decode cX2_dropEdge 13 = .ok (.invokevirtual 53, 3) := by decide +kernel
theorem dX2_dropEdge_16 : decode cX2_dropEdge 16 = .ok (.aload_n 0, 1) := by decide +kernel
theorem dX2_dropEdge_17 : decode cX2_dropEdge 17 = .ok (.getfield 21, 3) := by decide +kernel
theorem dX2_dropEdge_20 : decode cX2_dropEdge 20 = .ok (.iload_n 1, 1) := by decide +kernel
theorem dX2_dropEdge_21 : decode cX2_dropEdge 21 = .ok (.iconst 0, 1) := by decide +kernel
theorem dX2_dropEdge_22 : decode cX2_dropEdge 22 = .ok (.bastore, 1) := by decide +kernel
theorem dX2_dropEdge_23 : decode cX2_dropEdge 23 = .ok (.aload_n 0, 1) := by decide +kernel
theorem dX2_dropEdge_24 : decode cX2_dropEdge 24 = .ok (.dup, 1) := by decide +kernel
theorem dX2_dropEdge_25 : decode cX2_dropEdge 25 = .ok (.getfield 38, 3) := by decide +kernel
theorem dX2_dropEdge_28 : decode cX2_dropEdge 28 = .ok (.iconst 1, 1) := by decide +kernel
theorem dX2_dropEdge_29 : decode cX2_dropEdge 29 = .ok (.isub, 1) := by decide +kernel
theorem dX2_dropEdge_30 : decode cX2_dropEdge 30 = .ok (.putfield 38, 3) := by decide +kernel
theorem dX2_dropEdge_33 : decode cX2_dropEdge 33 = .ok (.return_, 1) := by decide +kernel
theorem dX2_takeSide_0 : decode cX2_takeSide 0 = .ok (.aload_n 0, 1) := by decide +kernel
theorem dX2_takeSide_1 : decode cX2_takeSide 1 = .ok (.getfield 9, 3) := by decide +kernel
theorem dX2_takeSide_4 : decode cX2_takeSide 4 = .ok (.iload_n 1, 1) := by decide +kernel
theorem dX2_takeSide_5 : decode cX2_takeSide 5 = .ok (.iaload, 1) := by decide +kernel
theorem dX2_takeSide_6 : decode cX2_takeSide 6 = .ok (.istore_n 2, 1) := by decide +kernel
theorem dX2_takeSide_7 : decode cX2_takeSide 7 = .ok (.aload_n 0, 1) := by decide +kernel
theorem dX2_takeSide_8 : decode cX2_takeSide 8 = .ok (.getfield 28, 3) := by decide +kernel
theorem dX2_takeSide_11 : decode cX2_takeSide 11 = .ok (.iload_n 2, 1) := by decide +kernel
theorem dX2_takeSide_12 : decode cX2_takeSide 12 = .ok (.dup2, 1) := by decide +kernel
theorem dX2_takeSide_13 : decode cX2_takeSide 13 = .ok (.iaload, 1) := by decide +kernel
theorem dX2_takeSide_14 : decode cX2_takeSide 14 = .ok (.iconst 1, 1) := by decide +kernel
theorem dX2_takeSide_15 : decode cX2_takeSide 15 = .ok (.isub, 1) := by decide +kernel
theorem dX2_takeSide_16 : decode cX2_takeSide 16 = .ok (.iastore, 1) := by decide +kernel
theorem dX2_takeSide_17 : decode cX2_takeSide 17 = .ok (.aload_n 0, 1) := by decide +kernel
theorem dX2_takeSide_18 : decode cX2_takeSide 18 = .ok (.getfield 28, 3) := by decide +kernel
theorem dX2_takeSide_21 : decode cX2_takeSide 21 = .ok (.iload_n 2, 1) := by decide +kernel
theorem dX2_takeSide_22 : decode cX2_takeSide 22 = .ok (.iaload, 1) := by decide +kernel
theorem dX2_takeSide_23 : decode cX2_takeSide 23 = .ok (.ifCond .ne 11, 3) := by decide +kernel
theorem dX2_takeSide_26 : decode cX2_takeSide 26 = .ok (.aload_n 0, 1) := by decide +kernel
theorem dX2_takeSide_27 : decode cX2_takeSide 27 = .ok (.getfield 25, 3) := by decide +kernel
theorem dX2_takeSide_30 : decode cX2_takeSide 30 = .ok (.iload_n 2, 1) := by decide +kernel
theorem dX2_takeSide_31 : decode cX2_takeSide 31 = .ok (.iconst (-1), 1) := by decide +kernel
theorem dX2_takeSide_32 : decode cX2_takeSide 32 = .ok (.iastore, 1) := by decide +kernel
theorem dX2_takeSide_33 : decode cX2_takeSide 33 = .ok (.return_, 1) := by decide +kernel
theorem dX2_takeSide_34 : decode cX2_takeSide 34 = .ok (.aload_n 0, 1) := by decide +kernel
theorem dX2_takeSide_35 : decode cX2_takeSide 35 = .ok (.getfield 25, 3) := by decide +kernel
theorem dX2_takeSide_38 : decode cX2_takeSide 38 = .ok (.iload_n 2, 1) := by decide +kernel
theorem dX2_takeSide_39 : decode cX2_takeSide 39 = .ok (.iaload, 1) := by decide +kernel
theorem dX2_takeSide_40 : decode cX2_takeSide 40 = .ok (.iload_n 1, 1) := by decide +kernel
theorem dX2_takeSide_41 : decode cX2_takeSide 41 = .ok (.if_icmp .ne 15, 3) := by decide +kernel
theorem dX2_takeSide_44 : decode cX2_takeSide 44 = .ok (.aload_n 0, 1) := by decide +kernel
theorem dX2_takeSide_45 : decode cX2_takeSide 45 = .ok (.getfield 25, 3) := by decide +kernel
theorem dX2_takeSide_48 : decode cX2_takeSide 48 = .ok (.iload_n 2, 1) := by decide +kernel
theorem dX2_takeSide_49 : decode cX2_takeSide 49 = .ok (.aload_n 0, 1) := by decide +kernel
theorem dX2_takeSide_50 : decode cX2_takeSide 50 = .ok (.getfield 15, 3) := by decide +kernel
theorem dX2_takeSide_53 : decode cX2_takeSide 53 = .ok (.iload_n 1, 1) := by decide +kernel
theorem dX2_takeSide_54 : decode cX2_takeSide 54 = .ok (.iaload, 1) := by decide +kernel
theorem dX2_takeSide_55 : decode cX2_takeSide 55 = .ok (.iastore, 1) := by decide +kernel
theorem dX2_takeSide_56 : decode cX2_takeSide 56 = .ok (.aload_n 0, 1) := by decide +kernel
theorem dX2_takeSide_57 : decode cX2_takeSide 57 = .ok (.aload_n 0, 1) := by decide +kernel
theorem dX2_takeSide_58 : decode cX2_takeSide 58 = .ok (.getfield 18, 3) := by decide +kernel
theorem dX2_takeSide_61 : decode cX2_takeSide 61 = .ok (.iload_n 1, 1) := by decide +kernel
theorem dX2_takeSide_62 : decode cX2_takeSide 62 = .ok (.iaload, 1) := by decide +kernel
theorem dX2_takeSide_63 : decode cX2_takeSide 63 = .ok (.aload_n 0, 1) := by decide +kernel
theorem dX2_takeSide_64 : decode cX2_takeSide 64 = .ok (.getfield 15, 3) := by decide +kernel
theorem dX2_takeSide_67 : decode cX2_takeSide 67 = .ok (.iload_n 1, 1) := by decide +kernel
theorem dX2_takeSide_68 : decode cX2_takeSide 68 = .ok (.iaload, 1) := by decide +kernel
theorem dX2_takeSide_69 : decode cX2_takeSide 69 = .ok (.invokevirtual 49, 3) := by decide +kernel
theorem dX2_takeSide_72 : decode cX2_takeSide 72 = .ok (.return_, 1) := by decide +kernel
theorem dX2_link_0 : decode cX2_link 0 = .ok (.aload_n 0, 1) := by decide +kernel
theorem dX2_link_1 : decode cX2_link 1 = .ok (.getfield 15, 3) := by decide +kernel
theorem dX2_link_4 : decode cX2_link 4 = .ok (.iload_n 1, 1) := by decide +kernel
theorem dX2_link_5 : decode cX2_link 5 = .ok (.iload_n 2, 1) := by decide +kernel
theorem dX2_link_6 : decode cX2_link 6 = .ok (.iastore, 1) := by decide +kernel
theorem dX2_link_7 : decode cX2_link 7 = .ok (.aload_n 0, 1) := by decide +kernel
theorem dX2_link_8 : decode cX2_link 8 = .ok (.getfield 18, 3) := by decide +kernel
theorem dX2_link_11 : decode cX2_link 11 = .ok (.iload_n 2, 1) := by decide +kernel
theorem dX2_link_12 : decode cX2_link 12 = .ok (.iload_n 1, 1) := by decide +kernel
theorem dX2_link_13 : decode cX2_link 13 = .ok (.iastore, 1) := by decide +kernel
theorem dX2_link_14 : decode cX2_link 14 = .ok (.return_, 1) := by decide +kernel
theorem dX2_dropAll_0 : decode cX2_dropAll 0 = .ok (.aload_n 0, 1) := by decide +kernel
theorem dX2_dropAll_1 : decode cX2_dropAll 1 = .ok (.iconst 0, 1) := by decide +kernel
theorem dX2_dropAll_2 : decode cX2_dropAll 2 = .ok (.putfield 31, 3) := by decide +kernel
theorem dX2_dropAll_5 : decode cX2_dropAll 5 = .ok (.aload_n 0, 1) := by decide +kernel
theorem dX2_dropAll_6 : decode cX2_dropAll 6 = .ok (.iconst 0, 1) := by decide +kernel
theorem dX2_dropAll_7 : decode cX2_dropAll 7 = .ok (.putfield 35, 3) := by decide +kernel
theorem dX2_dropAll_10 : decode cX2_dropAll 10 = .ok (.aload_n 0, 1) := by decide +kernel
theorem dX2_dropAll_11 : decode cX2_dropAll 11 = .ok (.iconst 0, 1) := by decide +kernel
theorem dX2_dropAll_12 : decode cX2_dropAll 12 = .ok (.putfield 38, 3) := by decide +kernel
theorem dX2_dropAll_15 : decode cX2_dropAll 15 = .ok (.return_, 1) := by decide +kernel
theorem dX2_target_0 : decode cX2_target 0 = .ok (.aload_n 0, 1) := by decide +kernel
theorem dX2_target_1 : decode cX2_target 1 = .ok (.getfield 9, 3) := by decide +kernel
theorem dX2_target_4 : decode cX2_target 4 = .ok (.iload_n 1, 1) := by decide +kernel
theorem dX2_target_5 : decode cX2_target 5 = .ok (.iconst 1, 1) := by decide +kernel
theorem dX2_target_6 : decode cX2_target 6 = .ok (.ixor, 1) := by decide +kernel
theorem dX2_target_7 : decode cX2_target 7 = .ok (.iaload, 1) := by decide +kernel
theorem dX2_target_8 : decode cX2_target 8 = .ok (.ireturn, 1) := by decide +kernel
theorem dX2_sideBehind_0 : decode cX2_sideBehind 0 = .ok (.aload_n 0, 1) := by decide +kernel
theorem dX2_sideBehind_1 : decode cX2_sideBehind 1 = .ok (.getfield 15, 3) := by decide +kernel
theorem dX2_sideBehind_4 : decode cX2_sideBehind 4 = .ok (.iload_n 1, 1) := by decide +kernel
theorem dX2_sideBehind_5 : decode cX2_sideBehind 5 = .ok (.iconst 1, 1) := by decide +kernel
theorem dX2_sideBehind_6 : decode cX2_sideBehind 6 = .ok (.ixor, 1) := by decide +kernel
theorem dX2_sideBehind_7 : decode cX2_sideBehind 7 = .ok (.iaload, 1) := by decide +kernel
theorem dX2_sideBehind_8 : decode cX2_sideBehind 8 = .ok (.ireturn, 1) := by decide +kernel
theorem dX2_sideFrom_0 : decode cX2_sideFrom 0 = .ok (.aload_n 0, 1) := by decide +kernel
theorem dX2_sideFrom_1 : decode cX2_sideFrom 1 = .ok (.getfield 9, 3) := by decide +kernel
theorem dX2_sideFrom_4 : decode cX2_sideFrom 4 = .ok (.iconst 2, 1) := by decide +kernel
theorem dX2_sideFrom_5 : decode cX2_sideFrom 5 = .ok (.iload_n 2, 1) := by decide +kernel
theorem dX2_sideFrom_6 : decode cX2_sideFrom 6 = .ok (.imul, 1) := by decide +kernel
theorem dX2_sideFrom_7 : decode cX2_sideFrom 7 = .ok (.iaload, 1) := by decide +kernel
theorem dX2_sideFrom_8 : decode cX2_sideFrom 8 = .ok (.iload_n 1, 1) := by decide +kernel
theorem dX2_sideFrom_9 : decode cX2_sideFrom 9 = .ok (.if_icmp .ne 9, 3) := by decide +kernel
theorem dX2_sideFrom_12 : decode cX2_sideFrom 12 = .ok (.iconst 2, 1) := by decide +kernel
theorem dX2_sideFrom_13 : decode cX2_sideFrom 13 = .ok (.iload_n 2, 1) := by decide +kernel
theorem dX2_sideFrom_14 : decode cX2_sideFrom 14 = .ok (.imul, 1) := by decide +kernel
theorem dX2_sideFrom_15 : decode cX2_sideFrom 15 = .ok (.goto 8, 3) := by decide +kernel
theorem dX2_sideFrom_18 : decode cX2_sideFrom 18 = .ok (.iconst 2, 1) := by decide +kernel
theorem dX2_sideFrom_19 : decode cX2_sideFrom 19 = .ok (.iload_n 2, 1) := by decide +kernel
theorem dX2_sideFrom_20 : decode cX2_sideFrom 20 = .ok (.imul, 1) := by decide +kernel
theorem dX2_sideFrom_21 : decode cX2_sideFrom 21 = .ok (.iconst 1, 1) := by decide +kernel
theorem dX2_sideFrom_22 : decode cX2_sideFrom 22 = .ok (.iadd, 1) := by decide +kernel
theorem dX2_sideFrom_23 : decode cX2_sideFrom 23 = .ok (.ireturn, 1) := by decide +kernel
theorem dX2_mayFollow_0 : decode cX2_mayFollow 0 = .ok (.iload_n 2, 1) := by decide +kernel
theorem dX2_mayFollow_1 : decode cX2_mayFollow 1 = .ok (.iconst (-1), 1) := by decide +kernel
theorem dX2_mayFollow_2 : decode cX2_mayFollow 2 = .ok (.if_icmp .eq 29, 3) := by decide +kernel
theorem dX2_mayFollow_5 : decode cX2_mayFollow 5 = .ok (.aload_n 0, 1) := by decide +kernel
theorem dX2_mayFollow_6 : decode cX2_mayFollow 6 = .ok (.getfield 9, 3) := by decide +kernel
theorem dX2_mayFollow_9 : decode cX2_mayFollow 9 = .ok (.iconst 2, 1) := by decide +kernel
theorem dX2_mayFollow_10 : decode cX2_mayFollow 10 = .ok (.iload_n 2, 1) := by decide +kernel
theorem dX2_mayFollow_11 : decode cX2_mayFollow 11 = .ok (.imul, 1) := by decide +kernel
theorem dX2_mayFollow_12 : decode cX2_mayFollow 12 = .ok (.iaload, 1) := by decide +kernel
theorem dX2_mayFollow_13 : decode cX2_mayFollow 13 = .ok (.iload_n 1, 1) := by decide +kernel
theorem dX2_mayFollow_14 : decode cX2_mayFollow 14 = .ok (.if_icmp .eq 17, 3) := by decide +kernel
theorem dX2_mayFollow_17 : decode cX2_mayFollow 17 = .ok (.aload_n 0, 1) := by decide +kernel
theorem dX2_mayFollow_18 : decode cX2_mayFollow 18 = .ok (.getfield 9, 3) := by decide +kernel
theorem dX2_mayFollow_21 : decode cX2_mayFollow 21 = .ok (.iconst 2, 1) := by decide +kernel
theorem dX2_mayFollow_22 : decode cX2_mayFollow 22 = .ok (.iload_n 2, 1) := by decide +kernel
theorem dX2_mayFollow_23 : decode cX2_mayFollow 23 = .ok (.imul, 1) := by decide +kernel
theorem dX2_mayFollow_24 : decode cX2_mayFollow 24 = .ok (.iconst 1, 1) := by decide +kernel
theorem dX2_mayFollow_25 : decode cX2_mayFollow 25 = .ok (.iadd, 1) := by decide +kernel
theorem dX2_mayFollow_26 : decode cX2_mayFollow 26 = .ok (.iaload, 1) := by decide +kernel
theorem dX2_mayFollow_27 : decode cX2_mayFollow 27 = .ok (.iload_n 1, 1) := by decide +kernel
theorem dX2_mayFollow_28 : decode cX2_mayFollow 28 = .ok (.if_icmp .ne 7, 3) := by decide +kernel
theorem dX2_mayFollow_31 : decode cX2_mayFollow 31 = .ok (.iconst 1, 1) := by decide +kernel
theorem dX2_mayFollow_32 : decode cX2_mayFollow 32 = .ok (.goto 4, 3) := by decide +kernel
theorem dX2_mayFollow_35 : decode cX2_mayFollow 35 = .ok (.iconst 0, 1) := by decide +kernel
theorem dX2_mayFollow_36 : decode cX2_mayFollow 36 = .ok (.ireturn, 1) := by decide +kernel
theorem dX2_areJoined_0 : decode cX2_areJoined 0 = .ok (.aload_n 0, 1) := by decide +kernel
theorem dX2_areJoined_1 : decode cX2_areJoined 1 = .ok (.getfield 25, 3) := by decide +kernel
theorem dX2_areJoined_4 : decode cX2_areJoined 4 = .ok (.iload_n 1, 1) := by decide +kernel
theorem dX2_areJoined_5 : decode cX2_areJoined 5 = .ok (.iaload, 1) := by decide +kernel
theorem dX2_areJoined_6 : decode cX2_areJoined 6 = .ok (.istore_n 3, 1) := by decide +kernel
theorem dX2_areJoined_7 : decode cX2_areJoined 7 = .ok (.iconst 0, 1) := by decide +kernel
theorem dX2_areJoined_8 : decode cX2_areJoined 8 = .ok (.istore 4, 2) := by decide +kernel
theorem dX2_areJoined_10 : decode cX2_areJoined 10 = .ok (.iload 4, 2) := by decide +kernel
theorem dX2_areJoined_12 : decode cX2_areJoined 12 = .ok (.aload_n 0, 1) := by decide +kernel
theorem dX2_areJoined_13 : decode cX2_areJoined 13 = .ok (.getfield 28, 3) := by decide +kernel
theorem dX2_areJoined_16 : decode cX2_areJoined 16 = .ok (.iload_n 1, 1) := by decide +kernel
theorem dX2_areJoined_17 : decode cX2_areJoined 17 = .ok (.iaload, 1) := by decide +kernel
theorem dX2_areJoined_18 : decode cX2_areJoined 18 = .ok (.if_icmp .ge 27, 3) := by decide +kernel
theorem dX2_areJoined_21 : decode cX2_areJoined 21 = .ok (.aload_n 0, 1) := by decide +kernel
theorem dX2_areJoined_22 : decode cX2_areJoined 22 = .ok (.iload_n 3, 1) := by decide +kernel
theorem dX2_areJoined_23 : decode cX2_areJoined 23 = .ok (.invokevirtual 57, 3) := by decide +kernel
theorem dX2_areJoined_26 : decode cX2_areJoined 26 = .ok (.iload_n 2, 1) := by decide +kernel
theorem dX2_areJoined_27 : decode cX2_areJoined 27 = .ok (.if_icmp .ne 5, 3) := by decide +kernel
theorem dX2_areJoined_30 : decode cX2_areJoined 30 = .ok (.iconst 1, 1) := by decide +kernel
theorem dX2_areJoined_31 : decode cX2_areJoined 31 = .ok (.ireturn, 1) := by decide +kernel
theorem dX2_areJoined_32 : decode cX2_areJoined 32 = .ok (.aload_n 0, 1) := by decide +kernel
theorem dX2_areJoined_33 : decode cX2_areJoined 33 = .ok (.getfield 15, 3) := by decide +kernel
theorem dX2_areJoined_36 : decode cX2_areJoined 36 = .ok (.iload_n 3, 1) := by decide +kernel
theorem dX2_areJoined_37 : decode cX2_areJoined 37 = .ok (.iaload, 1) := by decide +kernel
theorem dX2_areJoined_38 : decode cX2_areJoined 38 = .ok (.istore_n 3, 1) := by decide +kernel
theorem dX2_areJoined_39 : decode cX2_areJoined 39 = .ok (.iinc 4 1, 3) := by decide +kernel
theorem dX2_areJoined_42 : decode cX2_areJoined 42 = .ok (.goto (-32), 3) := by decide +kernel
theorem dX2_areJoined_45 : decode cX2_areJoined 45 = .ok (.iconst 0, 1) := by decide +kernel
theorem dX2_areJoined_46 : decode cX2_areJoined 46 = .ok (.ireturn, 1) := by decide +kernel
theorem dX2_lonelyVertices_0 : decode cX2_lonelyVertices 0 = .ok (.iconst 0, 1) := by decide +kernel
theorem dX2_lonelyVertices_1 : decode cX2_lonelyVertices 1 = .ok (.istore_n 1, 1) := by decide +kernel
theorem dX2_lonelyVertices_2 : decode cX2_lonelyVertices 2 = .ok (.iconst 0, 1) := by decide +kernel
theorem dX2_lonelyVertices_3 : decode cX2_lonelyVertices 3 = .ok (.istore_n 2, 1) := by decide +kernel
theorem dX2_lonelyVertices_4 : decode cX2_lonelyVertices 4 = .ok (.iload_n 2, 1) := by decide +kernel
theorem dX2_lonelyVertices_5 : decode cX2_lonelyVertices 5 = .ok (.aload_n 0, 1) := by decide +kernel
theorem dX2_lonelyVertices_6 : decode cX2_lonelyVertices 6 = .ok (.getfield 31, 3) := by decide +kernel
theorem dX2_lonelyVertices_9 : decode cX2_lonelyVertices 9 = .ok (.if_icmp .ge 21, 3) := by decide +kernel
theorem dX2_lonelyVertices_12 : decode cX2_lonelyVertices 12 = .ok (.aload_n 0, 1) := by decide +kernel
theorem dX2_lonelyVertices_13 : decode cX2_lonelyVertices 13 = .ok (.getfield 28, 3) := by decide +kernel
theorem dX2_lonelyVertices_16 : decode cX2_lonelyVertices 16 = .ok (.iload_n 2, 1) := by decide +kernel
theorem dX2_lonelyVertices_17 : decode cX2_lonelyVertices 17 = .ok (.iaload, 1) := by decide +kernel
theorem dX2_lonelyVertices_18 : decode cX2_lonelyVertices 18 = .ok (.ifCond .ne 6, 3) := by decide +kernel
theorem dX2_lonelyVertices_21 : decode cX2_lonelyVertices 21 = .ok (.iinc 1 1, 3) := by decide +kernel
theorem dX2_lonelyVertices_24 : decode cX2_lonelyVertices 24 = .ok (.iinc 2 1, 3) := by decide +kernel
theorem dX2_lonelyVertices_27 : decode cX2_lonelyVertices 27 = .ok (.goto (-23), 3) := by decide +kernel
theorem dX2_lonelyVertices_30 : decode cX2_lonelyVertices 30 = .ok (.iload_n 1, 1) := by decide +kernel
theorem dX2_lonelyVertices_31 : decode cX2_lonelyVertices 31 = .ok (.ireturn, 1) := by decide +kernel
theorem dX0_init_0 : decode cX0_init 0 = .ok (.aload_n 0, 1) := by decide +kernel
theorem dX0_init_1 : decode cX0_init 1 = .ok (.invokespecial 3, 3) := by decide +kernel
theorem dX0_init_4 : decode cX0_init 4 = .ok (.aload_n 0, 1) := by decide +kernel
theorem dX0_init_5 : decode cX0_init 5 = .ok (.bipush 30, 2) := by decide +kernel
theorem dX0_init_7 : decode cX0_init 7 = .ok (.newarray .int, 2) := by decide +kernel
theorem dX0_init_9 : decode cX0_init 9 = .ok (.putfield 9, 3) := by decide +kernel
theorem dX0_init_12 : decode cX0_init 12 = .ok (.aload_n 0, 1) := by decide +kernel
theorem dX0_init_13 : decode cX0_init 13 = .ok (.bipush 30, 2) := by decide +kernel
theorem dX0_init_15 : decode cX0_init 15 = .ok (.newarray .boolean, 2) := by decide +kernel
theorem dX0_init_17 : decode cX0_init 17 = .ok (.putfield 15, 3) := by decide +kernel
theorem dX0_init_20 : decode cX0_init 20 = .ok (.aload_n 0, 1) := by decide +kernel
theorem dX0_init_21 : decode cX0_init 21 = .ok (.bipush 30, 2) := by decide +kernel
theorem dX0_init_23 : decode cX0_init 23 = .ok (.newarray .int, 2) := by decide +kernel
theorem dX0_init_25 : decode cX0_init 25 = .ok (.putfield 19, 3) := by decide +kernel
theorem dX0_init_28 : decode cX0_init 28 = .ok (.aload_n 0, 1) := by decide +kernel
theorem dX0_init_29 : decode cX0_init 29 = .ok (.iconst 5, 1) := by decide +kernel
theorem dX0_init_30 : decode cX0_init 30 = .ok (.newarray .int, 2) := by decide +kernel
theorem dX0_init_32 : decode cX0_init 32 = .ok (.putfield 22, 3) := by decide +kernel
theorem dX0_init_35 : decode cX0_init 35 = .ok (.aload_n 0, 1) := by decide +kernel
theorem dX0_init_36 : decode cX0_init 36 = .ok (.bipush 30, 2) := by decide +kernel
theorem dX0_init_38 : decode cX0_init 38 = .ok (.newarray .boolean, 2) := by decide +kernel
theorem dX0_init_40 : decode cX0_init 40 = .ok (.putfield 25, 3) := by decide +kernel
theorem dX0_init_43 : decode cX0_init 43 = .ok (.aload_n 0, 1) := by decide +kernel
theorem dX0_init_44 : decode cX0_init 44 = .ok (.bipush 30, 2) := by decide +kernel
theorem dX0_init_46 : decode cX0_init 46 = .ok (.newarray .int, 2) := by decide +kernel
theorem dX0_init_48 : decode cX0_init 48 = .ok (.putfield 28, 3) := by decide +kernel
theorem dX0_init_51 : decode cX0_init 51 = .ok (.aload_n 0, 1) := by decide +kernel
theorem dX0_init_52 : decode cX0_init 52 = .ok (.iconst 0, 1) := by decide +kernel
theorem dX0_init_53 : decode cX0_init 53 = .ok (.putfield 31, 3) := by decide +kernel
theorem dX0_init_56 : decode cX0_init 56 = .ok (.aload_n 0, 1) := by decide +kernel
theorem dX0_init_57 : decode cX0_init 57 = .ok (.iconst 0, 1) := by decide +kernel
theorem dX0_init_58 : decode cX0_init 58 = .ok (.putfield 35, 3) := by decide +kernel
theorem dX0_init_61 : decode cX0_init 61 = .ok (.aload_n 0, 1) := by decide +kernel
theorem dX0_init_62 : decode cX0_init 62 = .ok (.aload_n 1, 1) := by decide +kernel
theorem dX0_init_63 : decode cX0_init 63 = .ok (.putfield 38, 3) := by decide +kernel
theorem dX0_init_66 : decode cX0_init 66 = .ok (.return_, 1) := by decide +kernel
theorem dX0_forget_0 : decode cX0_forget 0 = .ok (.iconst 0, 1) := by decide +kernel
theorem dX0_forget_1 : decode cX0_forget 1 = .ok (.istore_n 1, 1) := by decide +kernel
theorem dX0_forget_2 : decode cX0_forget 2 = .ok (.iload_n 1, 1) := by decide +kernel
theorem dX0_forget_3 : decode cX0_forget 3 = .ok (.aload_n 0, 1) := by decide +kernel
theorem dX0_forget_4 : decode cX0_forget 4 = .ok (.getfield 38, 3) := by decide +kernel
theorem dX0_forget_7 : decode cX0_forget 7 = .ok (.getfield 42, 3) := by decide +kernel
theorem dX0_forget_10 : decode cX0_forget 10 = .ok (.if_icmp .ge 16, 3) := by decide +kernel
theorem dX0_forget_13 : decode cX0_forget 13 = .ok (.aload_n 0, 1) := by decide +kernel
theorem dX0_forget_14 : decode cX0_forget 14 = .ok (.getfield 9, 3) := by decide +kernel
theorem dX0_forget_17 : decode cX0_forget 17 = .ok (.iload_n 1, 1) := by decide +kernel
theorem dX0_forget_18 : decode cX0_forget 18 = .ok (.iconst 0, 1) := by decide +kernel
theorem dX0_forget_19 : decode cX0_forget 19 = .ok (.iastore, 1) := by decide +kernel
theorem dX0_forget_20 : decode cX0_forget 20 = .ok (.iinc 1 1, 3) := by decide +kernel
theorem dX0_forget_23 : decode cX0_forget 23 = .ok (.goto (-21), 3) := by decide +kernel
theorem dX0_forget_26 : decode cX0_forget 26 = .ok (.aload_n 0, 1) := by decide +kernel
theorem dX0_forget_27 : decode cX0_forget 27 = .ok (.iconst 0, 1) := by decide +kernel
theorem dX0_forget_28 : decode cX0_forget 28 = .ok (.putfield 35, 3) := by decide +kernel
theorem dX0_forget_31 : decode cX0_forget 31 = .ok (.return_, 1) := by decide +kernel
theorem dX0_colourAll_0 : decode cX0_colourAll 0 = .ok (.aload_n 0, 1) := by decide +kernel
theorem dX0_colourAll_1 : decode cX0_colourAll 1 = .ok (.invokevirtual 47, 3) := by decide +kernel
theorem dX0_colourAll_4 : decode cX0_colourAll 4 = .ok (.aload_n 0, 1) := by decide +kernel
theorem dX0_colourAll_5 : decode cX0_colourAll 5 = .ok (.invokevirtual 50, 3) := by decide +kernel
theorem dX0_colourAll_8 : decode cX0_colourAll 8 = .ok (.istore_n 1, 1) := by decide +kernel
theorem dX0_colourAll_9 : decode cX0_colourAll 9 = .ok (.iload_n 1, 1) := by decide +kernel
theorem dX0_colourAll_10 : decode cX0_colourAll 10 = .ok (.iconst 1, 1) := by decide +kernel
theorem dX0_colourAll_11 : decode cX0_colourAll 11 = .ok (.isub, 1) := by decide +kernel
theorem dX0_colourAll_12 : decode cX0_colourAll 12 = .ok (.istore_n 2, 1) := by decide +kernel
theorem dX0_colourAll_13 : decode cX0_colourAll 13 = .ok (.iload_n 2, 1) := by decide +kernel
theorem dX0_colourAll_14 : decode cX0_colourAll 14 = .ok (.ifCond .lt 19, 3) := by decide +kernel
theorem dX0_colourAll_17 : decode cX0_colourAll 17 = .ok (.aload_n 0, 1) := by decide +kernel
theorem dX0_colourAll_18 : decode cX0_colourAll 18 = .ok (.aload_n 0, 1) := by decide +kernel
theorem dX0_colourAll_19 : decode cX0_colourAll 19 = .ok (.getfield 19, 3) := by decide +kernel
theorem dX0_colourAll_22 : decode cX0_colourAll 22 = .ok (.iload_n 2, 1) := by decide +kernel
theorem dX0_colourAll_23 : decode cX0_colourAll 23 = .ok (.iaload, 1) := by decide +kernel
theorem dX0_colourAll_24 : decode cX0_colourAll 24 = .ok (.invokevirtual 54, 3) := by decide +kernel
theorem dX0_colourAll_27 : decode cX0_colourAll 27 = .ok (.iinc 2 (-1), 3) := by decide +kernel
theorem dX0_colourAll_30 : decode cX0_colourAll 30 = .ok (.goto (-17), 3) := by decide +kernel
theorem dX0_colourAll_33 : decode cX0_colourAll 33 = .ok (.return_, 1) := by decide +kernel
theorem dX0_takeAll_0 : decode cX0_takeAll 0 = .ok (.iconst 0, 1) := by decide +kernel
theorem dX0_takeAll_1 : decode cX0_takeAll 1 = .ok (.istore_n 1, 1) := by decide +kernel
theorem dX0_takeAll_2 : decode cX0_takeAll 2 = .ok (.iload_n 1, 1) := by decide +kernel
theorem dX0_takeAll_3 : decode cX0_takeAll 3 = .ok (.aload_n 0, 1) := by decide +kernel
theorem dX0_takeAll_4 : decode cX0_takeAll 4 = .ok (.getfield 38, 3) := by decide +kernel
theorem dX0_takeAll_7 : decode cX0_takeAll 7 = .ok (.getfield 42, 3) := by decide +kernel
theorem dX0_takeAll_10 : decode cX0_takeAll 10 = .ok (.if_icmp .ge 16, 3) := by decide +kernel
theorem dX0_takeAll_13 : decode cX0_takeAll 13 = .ok (.aload_n 0, 1) := by decide +kernel
theorem dX0_takeAll_14 : decode cX0_takeAll 14 = .ok (.getfield 15, 3) := by decide +kernel
theorem dX0_takeAll_17 : decode cX0_takeAll 17 = .ok (.iload_n 1, 1) := by decide +kernel
theorem dX0_takeAll_18 : decode cX0_takeAll 18 = .ok (.iconst 0, 1) := by decide +kernel
theorem dX0_takeAll_19 : decode cX0_takeAll 19 = .ok (.bastore, 1) := by decide +kernel
theorem dX0_takeAll_20 : decode cX0_takeAll 20 = .ok (.iinc 1 1, 3) := by decide +kernel
theorem dX0_takeAll_23 : decode cX0_takeAll 23 = .ok (.goto (-21), 3) := by decide +kernel
theorem dX0_takeAll_26 : decode cX0_takeAll 26 = .ok (.iconst 0, 1) := by decide +kernel
theorem dX0_takeAll_27 : decode cX0_takeAll 27 = .ok (.istore_n 1, 1) := by decide +kernel
theorem dX0_takeAll_28 : decode cX0_takeAll 28 = .ok (.iconst 0, 1) := by decide +kernel
theorem dX0_takeAll_29 : decode cX0_takeAll 29 = .ok (.istore_n 2, 1) := by decide +kernel
theorem dX0_takeAll_30 : decode cX0_takeAll 30 = .ok (.iload_n 2, 1) := by decide +kernel
theorem dX0_takeAll_31 : decode cX0_takeAll 31 = .ok (.aload_n 0, 1) := by decide +kernel
theorem dX0_takeAll_32 : decode cX0_takeAll 32 = .ok (.getfield 38, 3) := by decide +kernel
theorem dX0_takeAll_35 : decode cX0_takeAll 35 = .ok (.getfield 42, 3) := by decide +kernel
theorem dX0_takeAll_38 : decode cX0_takeAll 38 = .ok (.if_icmp .ge 36, 3) := by decide +kernel
theorem dX0_takeAll_41 : decode cX0_takeAll 41 = .ok (.aload_n 0, 1) := by decide +kernel
theorem dX0_takeAll_42 : decode cX0_takeAll 42 = .ok (.invokevirtual 58, 3) := by decide +kernel
theorem dX0_takeAll_45 : decode cX0_takeAll 45 = .ok (.istore_n 3, 1) := by decide +kernel
theorem dX0_takeAll_46 : decode cX0_takeAll 46 = .ok (.iload_n 3, 1) := by decide +kernel
theorem dX0_takeAll_47 : decode cX0_takeAll 47 = .ok (.iconst (-1), 1) := by decide +kernel
theorem dX0_takeAll_48 : decode cX0_takeAll 48 = .ok (.if_icmp .eq 20, 3) := by decide +kernel
theorem dX0_takeAll_51 : decode cX0_takeAll 51 = .ok (.aload_n 0, 1) := by decide +kernel
theorem dX0_takeAll_52 : decode cX0_takeAll 52 = .ok (.getfield 15, 3) := by decide +kernel
theorem dX0_takeAll_55 : decode cX0_takeAll 55 = .ok (.iload_n 3, 1) := by decide +kernel
theorem dX0_takeAll_56 : decode cX0_takeAll 56 = .ok (.iconst 1, 1) := by decide +kernel
theorem dX0_takeAll_57 : decode cX0_takeAll 57 = .ok (.bastore, 1) := by decide +kernel
theorem dX0_takeAll_58 : decode cX0_takeAll 58 = .ok (.aload_n 0, 1) := by decide +kernel
theorem dX0_takeAll_59 : decode cX0_takeAll 59 = .ok (.getfield 19, 3) := by decide +kernel
theorem dX0_takeAll_62 : decode cX0_takeAll 62 = .ok (.iload_n 1, 1) := by decide +kernel
theorem dX0_takeAll_63 : decode cX0_takeAll 63 = .ok (.iload_n 3, 1) := by decide +kernel
theorem dX0_takeAll_64 : decode cX0_takeAll 64 = .ok (.iastore, 1) := by decide +kernel
theorem dX0_takeAll_65 : decode cX0_takeAll 65 = .ok (.iinc 1 1, 3) := by decide +kernel
theorem dX0_takeAll_68 : decode cX0_takeAll 68 = .ok (.iinc 2 1, 3) := by decide +kernel
theorem dX0_takeAll_71 : decode cX0_takeAll 71 = .ok (.goto (-41), 3) := by decide +kernel
theorem dX0_takeAll_74 : decode cX0_takeAll 74 = .ok (.iload_n 1, 1) := by decide +kernel
theorem dX0_takeAll_75 : decode cX0_takeAll 75 = .ok (.ireturn, 1) := by decide +kernel
theorem dX0_leastToTake_0 : decode cX0_leastToTake 0 = .ok (.iconst 0, 1) := by decide +kernel
theorem dX0_leastToTake_1 : decode cX0_leastToTake 1 = .ok (.istore_n 1, 1) := by decide +kernel
theorem dX0_leastToTake_2 : decode cX0_leastToTake 2 = .ok (.iload_n 1, 1) := by decide +kernel
theorem dX0_leastToTake_3 : decode cX0_leastToTake 3 = .ok (.aload_n 0, 1) := by decide +kernel
theorem dX0_leastToTake_4 : decode cX0_leastToTake 4 = .ok (.getfield 38, 3) := by decide +kernel
theorem dX0_leastToTake_7 : decode cX0_leastToTake 7 = .ok (.getfield 42, 3) := by decide +kernel
theorem dX0_leastToTake_10 : decode cX0_leastToTake 10 = .ok (.if_icmp .ge 29, 3) := by decide +kernel
theorem dX0_leastToTake_13 : decode cX0_leastToTake 13 = .ok (.aload_n 0, 1) := by decide +kernel
theorem dX0_leastToTake_14 : decode cX0_leastToTake 14 = .ok (.getfield 15, 3) := by decide +kernel
theorem dX0_leastToTake_17 : decode cX0_leastToTake 17 = .ok (.iload_n 1, 1) := by decide +kernel
theorem dX0_leastToTake_18 : decode cX0_leastToTake 18 = .ok (.baload, 1) := by decide +kernel
theorem dX0_leastToTake_19 : decode cX0_leastToTake 19 = .ok (.ifCond .ne 14, 3) := by decide +kernel
theorem dX0_leastToTake_22 : decode cX0_leastToTake 22 = .ok (.aload_n 0, 1) := by decide +kernel
theorem dX0_leastToTake_23 : decode cX0_leastToTake 23 = .ok (.iload_n 1, 1) := by decide +kernel
theorem dX0_leastToTake_24 : decode cX0_leastToTake 24 = .ok (.invokevirtual 61, 3) := by decide +kernel
theorem dX0_leastToTake_27 : decode cX0_leastToTake 27 = .ok (.iconst 5, 1) := by decide +kernel
theorem dX0_leastToTake_28 : decode cX0_leastToTake 28 = .ok (.if_icmp .gt 5, 3) := by decide +kernel
theorem dX0_leastToTake_31 : decode cX0_leastToTake 31 = .ok (.iload_n 1, 1) := by decide +kernel
theorem dX0_leastToTake_32 : decode cX0_leastToTake 32 = .ok (.ireturn, 1) := by decide +kernel
theorem dX0_leastToTake_33 : decode cX0_leastToTake 33 = .ok (.iinc 1 1, 3) := by decide +kernel
theorem dX0_leastToTake_36 : decode cX0_leastToTake 36 = .ok (.goto (-34), 3) := by decide +kernel
theorem dX0_leastToTake_39 : decode cX0_leastToTake 39 = .ok (.iconst (-1), 1) := by decide +kernel
theorem dX0_leastToTake_40 : decode cX0_leastToTake 40 = .ok (.ireturn, 1) := by decide +kernel
theorem dX0_neighboursLeft_0 : decode cX0_neighboursLeft 0 = .ok (.iconst 0, 1) := by decide +kernel
theorem dX0_neighboursLeft_1 : decode cX0_neighboursLeft 1 = .ok (.istore_n 2, 1) := by decide +kernel
theorem dX0_neighboursLeft_2 : decode cX0_neighboursLeft 2 = .ok (.aload_n 0, 1) := by decide +kernel
theorem dX0_neighboursLeft_3 : decode cX0_neighboursLeft 3 = .ok (.getfield 38, 3) := by decide +kernel
theorem dX0_neighboursLeft_6 : decode cX0_neighboursLeft 6 = .ok (.getfield 65, 3) := by decide +kernel
theorem dX0_neighboursLeft_9 : decode cX0_neighboursLeft 9 = .ok (.iload_n 1, 1) := by decide +kernel
theorem dX0_neighboursLeft_10 : decode cX0_neighboursLeft 10 = .ok (.iaload, 1) := by decide +kernel
theorem dX0_neighboursLeft_11 : decode cX0_neighboursLeft 11 = .ok (.istore_n 3, 1) := by decide +kernel
theorem dX0_neighboursLeft_12 : decode cX0_neighboursLeft 12 = .ok (.iconst 0, 1) := by decide +kernel
theorem dX0_neighboursLeft_13 : decode cX0_neighboursLeft 13 = .ok (.istore 4, 2) := by decide +kernel
theorem dX0_neighboursLeft_15 : decode cX0_neighboursLeft 15 = .ok (.iload 4, 2) := by decide +kernel
theorem dX0_neighboursLeft_17 : decode cX0_neighboursLeft 17 = .ok (.aload_n 0, 1) := by decide +kernel
theorem dX0_neighboursLeft_18 : decode cX0_neighboursLeft 18 = .ok (.getfield 38, 3) := by decide +kernel
theorem dX0_neighboursLeft_21 : decode cX0_neighboursLeft 21 = .ok (.getfield 68, 3) := by decide +kernel
theorem dX0_neighboursLeft_24 : decode cX0_neighboursLeft 24 = .ok (.iload_n 1, 1) := by decide +kernel
theorem dX0_neighboursLeft_25 : decode cX0_neighboursLeft 25 = .ok (.iaload, 1) := by decide +kernel
theorem dX0_neighboursLeft_26 : decode cX0_neighboursLeft 26 = .ok (.if_icmp .ge 38, 3) := by decide +kernel
theorem dX0_neighboursLeft_29 : decode cX0_neighboursLeft 29 = .ok (.aload_n 0, 1) := by decide +kernel
theorem dX0_neighboursLeft_30 : decode cX0_neighboursLeft 30 = .ok (.getfield 15, 3) := by decide +kernel
theorem dX0_neighboursLeft_33 : decode cX0_neighboursLeft 33 = .ok (.aload_n 0, 1) := by decide +kernel
theorem dX0_neighboursLeft_34 : decode cX0_neighboursLeft 34 = .ok (.getfield 38, 3) := by decide +kernel
theorem dX0_neighboursLeft_37 : decode cX0_neighboursLeft 37 = .ok (.iload_n 3, 1) := by decide +kernel
theorem dX0_neighboursLeft_38 : decode cX0_neighboursLeft 38 = .ok (.invokevirtual 71, 3) := by decide +kernel
theorem dX0_neighboursLeft_41 : decode cX0_neighboursLeft 41 = .ok (.baload, 1) := by decide +kernel
theorem dX0_neighboursLeft_42 : decode cX0_neighboursLeft 42 = .ok (.ifCond .ne 6, 3) := by decide +kernel
theorem dX0_neighboursLeft_45 : decode cX0_neighboursLeft 45 = .ok (.iinc 2 1, 3) := by decide +kernel
theorem dX0_neighboursLeft_48 : decode cX0_neighboursLeft 48 = .ok (.aload_n 0, 1) := by decide +kernel
theorem dX0_neighboursLeft_49 : decode cX0_neighboursLeft 49 = .ok (.getfield 38, 3) := by decide +kernel
theorem dX0_neighboursLeft_52 : decode cX0_neighboursLeft 52 = .ok (.getfield 74, 3) := by decide +kernel
theorem dX0_neighboursLeft_55 : decode cX0_neighboursLeft 55 = .ok (.iload_n 3, 1) := by decide +kernel
theorem dX0_neighboursLeft_56 : decode cX0_neighboursLeft 56 = .ok (.iaload, 1) := by decide +kernel
theorem dX0_neighboursLeft_57 : decode cX0_neighboursLeft 57 = .ok (.istore_n 3, 1) := by decide +kernel
theorem dX0_neighboursLeft_58 : decode cX0_neighboursLeft 58 = .ok (.iinc 4 1, 3) := by decide +kernel
theorem dX0_neighboursLeft_61 : decode cX0_neighboursLeft 61 = .ok (.goto (-46), 3) := by decide +kernel
theorem dX0_neighboursLeft_64 : decode cX0_neighboursLeft 64 = .ok (.iload_n 2, 1) := by decide +kernel
theorem dX0_neighboursLeft_65 : decode cX0_neighboursLeft 65 = .ok (.ireturn, 1) := by decide +kernel
theorem dX0_bringBack_0 : decode cX0_bringBack 0 = .ok (.aload_n 0, 1) := by decide +kernel
theorem dX0_bringBack_1 : decode cX0_bringBack 1 = .ok (.iload_n 1, 1) := by decide +kernel
theorem dX0_bringBack_2 : decode cX0_bringBack 2 = .ok (.invokevirtual 77, 3) := by decide +kernel
theorem dX0_bringBack_5 : decode cX0_bringBack 5 = .ok (.istore_n 2, 1) := by decide +kernel
theorem dX0_bringBack_6 : decode cX0_bringBack 6 = .ok (.aload_n 0, 1) := by decide +kernel
theorem dX0_bringBack_7 : decode cX0_bringBack 7 = .ok (.getfield 9, 3) := by decide +kernel
theorem dX0_bringBack_10 : decode cX0_bringBack 10 = .ok (.iload_n 1, 1) := by decide +kernel
theorem dX0_bringBack_11 : decode cX0_bringBack 11 = .ok (.iload_n 2, 1) := by decide +kernel
theorem dX0_bringBack_12 : decode cX0_bringBack 12 = .ok (.iconst (-1), 1) := by decide +kernel
theorem dX0_bringBack_13 : decode cX0_bringBack 13 = .ok (.if_icmp .eq 7, 3) := by decide +kernel
theorem dX0_bringBack_16 : decode cX0_bringBack 16 = .ok (.iload_n 2, 1) := by decide +kernel
theorem dX0_bringBack_17 : decode cX0_bringBack 17 = .ok (.goto 8, 3) := by decide +kernel
theorem dX0_bringBack_20 : decode cX0_bringBack 20 = .ok (.aload_n 0, 1) := by decide +kernel
theorem dX0_bringBack_21 : decode cX0_bringBack 21 = .ok (.iload_n 1, 1) := by decide +kernel
theorem dX0_bringBack_22 : decode cX0_bringBack 22 = .ok (.invokevirtual 80, 3) := by decide +kernel
theorem dX0_bringBack_25 : decode cX0_bringBack 25 = .ok (.iastore, 1) := by decide +kernel
theorem dX0_bringBack_26 : decode cX0_bringBack 26 = .ok (.return_, 1) := by decide +kernel
theorem dX0_leastFreeColour_0 : decode cX0_leastFreeColour 0 = .ok (.iconst 0, 1) := by decide +kernel
theorem dX0_leastFreeColour_1 : decode cX0_leastFreeColour 1 = .ok (.istore_n 2, 1) := by decide +kernel
theorem dX0_leastFreeColour_2 : decode cX0_leastFreeColour 2 = .ok (.aload_n 0, 1) := by decide +kernel
theorem dX0_leastFreeColour_3 : decode cX0_leastFreeColour 3 = .ok (.getfield 38, 3) := by decide +kernel
theorem dX0_leastFreeColour_6 : decode cX0_leastFreeColour 6 = .ok (.getfield 65, 3) := by decide +kernel
theorem dX0_leastFreeColour_9 : decode cX0_leastFreeColour 9 = .ok (.iload_n 1, 1) := by decide +kernel
theorem dX0_leastFreeColour_10 : decode cX0_leastFreeColour 10 = .ok (.iaload, 1) := by decide +kernel
theorem dX0_leastFreeColour_11 : decode cX0_leastFreeColour 11 = .ok (.istore_n 3, 1) := by decide +kernel
theorem dX0_leastFreeColour_12 : decode cX0_leastFreeColour 12 = .ok (.iconst 0, 1) := by decide +kernel
theorem dX0_leastFreeColour_13 : decode cX0_leastFreeColour 13 = .ok (.istore 4, 2) := by decide +kernel
theorem dX0_leastFreeColour_15 : decode cX0_leastFreeColour 15 = .ok (.iload 4, 2) := by decide +kernel
theorem dX0_leastFreeColour_17 : decode cX0_leastFreeColour 17 = .ok (.aload_n 0, 1) := by decide +kernel
theorem dX0_leastFreeColour_18 : decode cX0_leastFreeColour 18 = .ok (.getfield 38, 3) := by decide +kernel
theorem dX0_leastFreeColour_21 : decode cX0_leastFreeColour 21 = .ok (.getfield 68, 3) := by decide +kernel
theorem dX0_leastFreeColour_24 : decode cX0_leastFreeColour 24 = .ok (.iload_n 1, 1) := by decide +kernel
theorem dX0_leastFreeColour_25 : decode cX0_leastFreeColour 25 = .ok (.iaload, 1) := by decide +kernel
theorem dX0_leastFreeColour_26 : decode cX0_leastFreeColour 26 = .ok (.if_icmp .ge 37, 3) := by decide +kernel
theorem dX0_leastFreeColour_29 : decode cX0_leastFreeColour 29 = .ok (.iload_n 2, 1) := by decide +kernel
theorem dX0_leastFreeColour_30 : decode cX0_leastFreeColour 30 = .ok (.iconst 1, 1) := by decide +kernel
theorem dX0_leastFreeColour_31 : decode cX0_leastFreeColour 31 = .ok (.aload_n 0, 1) := by decide +kernel
theorem dX0_leastFreeColour_32 : decode cX0_leastFreeColour 32 = .ok (.getfield 9, 3) := by decide +kernel
theorem dX0_leastFreeColour_35 : decode cX0_leastFreeColour 35 = .ok (.aload_n 0, 1) := by decide +kernel
theorem dX0_leastFreeColour_36 : decode cX0_leastFreeColour 36 = .ok (.getfield 38, 3) := by decide +kernel
theorem dX0_leastFreeColour_39 : decode cX0_leastFreeColour 39 = .ok (.iload_n 3, 1) := by decide +kernel
theorem dX0_leastFreeColour_40 : decode cX0_leastFreeColour 40 = .ok (.invokevirtual 71, 3) := by decide +kernel
theorem dX0_leastFreeColour_43 : decode cX0_leastFreeColour 43 = .ok (.iaload, 1) := by decide +kernel
theorem dX0_leastFreeColour_44 : decode cX0_leastFreeColour 44 = .ok (.ishl, 1) := by decide +kernel
theorem dX0_leastFreeColour_45 : decode cX0_leastFreeColour 45 = .ok (.ior, 1) := by decide +kernel
theorem dX0_leastFreeColour_46 : decode cX0_leastFreeColour 46 = .ok (.istore_n 2, 1) := by decide +kernel
theorem dX0_leastFreeColour_47 : decode cX0_leastFreeColour 47 = .ok (.aload_n 0, 1) := by decide +kernel
theorem dX0_leastFreeColour_48 : decode cX0_leastFreeColour 48 = .ok (.getfield 38, 3) := by decide +kernel
theorem dX0_leastFreeColour_51 : decode cX0_leastFreeColour 51 = .ok (.getfield 74, 3) := by decide +kernel
theorem dX0_leastFreeColour_54 : decode cX0_leastFreeColour 54 = .ok (.iload_n 3, 1) := by decide +kernel
theorem dX0_leastFreeColour_55 : decode cX0_leastFreeColour 55 = .ok (.iaload, 1) := by decide +kernel
theorem dX0_leastFreeColour_56 : decode cX0_leastFreeColour 56 = .ok (.istore_n 3, 1) := by decide +kernel
theorem dX0_leastFreeColour_57 : decode cX0_leastFreeColour 57 = .ok (.iinc 4 1, 3) := by decide +kernel
theorem dX0_leastFreeColour_60 : decode cX0_leastFreeColour 60 = .ok (.goto (-45), 3) := by decide +kernel
theorem dX0_leastFreeColour_63 : decode cX0_leastFreeColour 63 = .ok (.iconst 1, 1) := by decide +kernel
theorem dX0_leastFreeColour_64 : decode cX0_leastFreeColour 64 = .ok (.istore 4, 2) := by decide +kernel
theorem dX0_leastFreeColour_66 : decode cX0_leastFreeColour 66 = .ok (.iload 4, 2) := by decide +kernel
theorem dX0_leastFreeColour_68 : decode cX0_leastFreeColour 68 = .ok (.iconst 5, 1) := by decide +kernel
theorem dX0_leastFreeColour_69 : decode cX0_leastFreeColour 69 = .ok (.if_icmp .gt 21, 3) := by decide +kernel
theorem dX0_leastFreeColour_72 : decode cX0_leastFreeColour 72 = .ok (.iload_n 2, 1) := by decide +kernel
theorem dX0_leastFreeColour_73 : decode cX0_leastFreeColour 73 = .ok (.iconst 1, 1) := by decide +kernel
theorem dX0_leastFreeColour_74 : decode cX0_leastFreeColour 74 = .ok (.iload 4, 2) := by decide +kernel
theorem dX0_leastFreeColour_76 : decode cX0_leastFreeColour 76 = .ok (.ishl, 1) := by decide +kernel
theorem dX0_leastFreeColour_77 : decode cX0_leastFreeColour 77 = .ok (.iand, 1) := by decide +kernel
theorem dX0_leastFreeColour_78 : decode cX0_leastFreeColour 78 = .ok (.ifCond .ne 6, 3) := by decide +kernel
theorem dX0_leastFreeColour_81 : decode cX0_leastFreeColour 81 = .ok (.iload 4, 2) := by decide +kernel
theorem dX0_leastFreeColour_83 : decode cX0_leastFreeColour 83 = .ok (.ireturn, 1) := by decide +kernel
theorem dX0_leastFreeColour_84 : decode cX0_leastFreeColour 84 = .ok (.iinc 4 1, 3) := by decide +kernel
theorem dX0_leastFreeColour_87 : decode cX0_leastFreeColour 87 = .ok (.goto (-21), 3) := by decide +kernel
theorem dX0_leastFreeColour_90 : decode cX0_leastFreeColour 90 = .ok (.iconst (-1), 1) := by decide +kernel
theorem dX0_leastFreeColour_91 : decode cX0_leastFreeColour 91 = .ok (.ireturn, 1) := by decide +kernel
theorem dX0_colourFreedByChain_0 : decode cX0_colourFreedByChain 0 = .ok (.aload_n 0, 1) := by decide +kernel
theorem dX0_colourFreedByChain_1 : decode cX0_colourFreedByChain 1 = .ok (.iload_n 1, 1) := by decide +kernel
theorem dX0_colourFreedByChain_2 : decode cX0_colourFreedByChain 2 = .ok (.invokevirtual 83, 3) := by decide +kernel
theorem dX0_colourFreedByChain_5 : decode cX0_colourFreedByChain 5 = .ok (.aload_n 0, 1) := by decide +kernel
theorem dX0_colourFreedByChain_6 : decode cX0_colourFreedByChain 6 = .ok (.aload_n 0, 1) := by decide +kernel
theorem dX0_colourFreedByChain_7 : decode cX0_colourFreedByChain 7 = .ok (.getfield 22, 3) := by decide +kernel
theorem dX0_colourFreedByChain_10 : decode cX0_colourFreedByChain 10 = .ok (.iconst 0, 1) := by decide +kernel
theorem dX0_colourFreedByChain_11 : decode cX0_colourFreedByChain 11 = .ok (.iaload, 1) := by decide +kernel
theorem dX0_colourFreedByChain_12 : decode cX0_colourFreedByChain 12 = .ok (.aload_n 0, 1) := by decide +kernel
theorem dX0_colourFreedByChain_13 : decode cX0_colourFreedByChain 13 = .ok (.getfield 9, 3) := by decide +kernel
theorem dX0_colourFreedByChain_16 : decode cX0_colourFreedByChain 16 = .ok (.aload_n 0, 1) := by decide +kernel
theorem dX0_colourFreedByChain_17 : decode cX0_colourFreedByChain 17 = .ok (.getfield 22, 3) := by decide +kernel
theorem dX0_colourFreedByChain_20 : decode cX0_colourFreedByChain 20 = .ok (.iconst 2, 1) := by decide +kernel
theorem dX0_colourFreedByChain_21 : decode cX0_colourFreedByChain 21 = .ok (.iaload, 1) := by decide +kernel
theorem dX0_colourFreedByChain_22 : decode cX0_colourFreedByChain 22 = .ok (.iaload, 1) := by decide +kernel
theorem dX0_colourFreedByChain_23 : decode cX0_colourFreedByChain 23 = .ok (.invokevirtual 86, 3) := by decide +kernel
theorem dX0_colourFreedByChain_26 : decode cX0_colourFreedByChain 26 = .ok (.iconst 0, 1) := by decide +kernel
theorem dX0_colourFreedByChain_27 : decode cX0_colourFreedByChain 27 = .ok (.istore_n 2, 1) := by decide +kernel
theorem dX0_colourFreedByChain_28 : decode cX0_colourFreedByChain 28 = .ok (.aload_n 0, 1) := by decide +kernel
theorem dX0_colourFreedByChain_29 : decode cX0_colourFreedByChain 29 = .ok (.getfield 25, 3) := by decide +kernel
theorem dX0_colourFreedByChain_32 : decode cX0_colourFreedByChain 32 = .ok (.aload_n 0, 1) := by decide +kernel
theorem dX0_colourFreedByChain_33 : decode cX0_colourFreedByChain 33 = .ok (.getfield 22, 3) := by decide +kernel
theorem dX0_colourFreedByChain_36 : decode cX0_colourFreedByChain 36 = .ok (.iconst 2, 1) := by decide +kernel
theorem dX0_colourFreedByChain_37 : decode cX0_colourFreedByChain 37 = .ok (.iaload, 1) := by decide +kernel
theorem dX0_colourFreedByChain_38 : decode cX0_colourFreedByChain 38 = .ok (.baload, 1) := by decide +kernel
theorem dX0_colourFreedByChain_39 : decode cX0_colourFreedByChain 39 = .ok (.ifCond .eq 26, 3) := by decide +kernel
theorem dX0_colourFreedByChain_42 : decode cX0_colourFreedByChain 42 = .ok (.iconst 1, 1) := by decide +kernel
theorem dX0_colourFreedByChain_43 : decode cX0_colourFreedByChain 43 = .ok (.istore_n 2, 1) := by decide +kernel
theorem dX0_colourFreedByChain_44 : decode cX0_colourFreedByChain 44 = .ok (.aload_n 0, 1) := by decide +kernel
theorem dX0_colourFreedByChain_45 : decode cX0_colourFreedByChain 45 = .ok (.aload_n 0, 1) := by decide +kernel
theorem dX0_colourFreedByChain_46 : decode cX0_colourFreedByChain 46 = .ok (.getfield 22, 3) := by decide +kernel
theorem dX0_colourFreedByChain_49 : decode cX0_colourFreedByChain 49 = .ok (.iconst 1, 1) := by decide +kernel
theorem dX0_colourFreedByChain_50 : decode cX0_colourFreedByChain 50 = .ok (.iaload, 1) := by decide +kernel
theorem dX0_colourFreedByChain_51 : decode cX0_colourFreedByChain 51 = .ok (.aload_n 0, 1) := by decide +kernel
theorem dX0_colourFreedByChain_52 : decode cX0_colourFreedByChain 52 = .ok (.getfield 9, 3) := by decide +kernel
theorem dX0_colourFreedByChain_55 : decode cX0_colourFreedByChain 55 = .ok (.aload_n 0, 1) := by decide +kernel
theorem dX0_colourFreedByChain_56 : decode cX0_colourFreedByChain 56 = .ok (.getfield 22, 3) := by decide +kernel
theorem dX0_colourFreedByChain_59 : decode cX0_colourFreedByChain 59 = .ok (.iconst 3, 1) := by decide +kernel
theorem dX0_colourFreedByChain_60 : decode cX0_colourFreedByChain 60 = .ok (.iaload, 1) := by decide +kernel
theorem dX0_colourFreedByChain_61 : decode cX0_colourFreedByChain 61 = .ok (.iaload, 1) := by decide +kernel
theorem dX0_colourFreedByChain_62 : decode cX0_colourFreedByChain 62 = .ok (.invokevirtual 86, 3) := by decide +kernel
theorem dX0_colourFreedByChain_65 : decode cX0_colourFreedByChain 65 = .ok (.aload_n 0, 1) := by decide +kernel
theorem dX0_colourFreedByChain_66 : decode cX0_colourFreedByChain 66 = .ok (.getfield 9, 3) := by decide +kernel
theorem dX0_colourFreedByChain_69 : decode cX0_colourFreedByChain 69 = .ok (.aload_n 0, 1) := by decide +kernel
theorem dX0_colourFreedByChain_70 : decode cX0_colourFreedByChain 70 = .ok (.getfield 22, 3) := by decide +kernel
theorem dX0_colourFreedByChain_73 : decode cX0_colourFreedByChain 73 = .ok (.iload_n 2, 1) := by decide +kernel
theorem dX0_colourFreedByChain_74 : decode cX0_colourFreedByChain 74 = .ok (.iaload, 1) := by decide +kernel
theorem dX0_colourFreedByChain_75 : decode cX0_colourFreedByChain 75 = .ok (.iaload, 1) := by decide +kernel
theorem dX0_colourFreedByChain_76 : decode cX0_colourFreedByChain 76 = .ok (.istore_n 3, 1) := by decide +kernel
theorem dX0_colourFreedByChain_77 : decode cX0_colourFreedByChain 77 = .ok (.aload_n 0, 1) := by decide +kernel
theorem dX0_colourFreedByChain_78 : decode cX0_colourFreedByChain 78 = .ok (.iload_n 3, 1) := by decide +kernel
theorem dX0_colourFreedByChain_79 : decode cX0_colourFreedByChain 79 = .ok (.aload_n 0, 1) := by decide +kernel
theorem dX0_colourFreedByChain_80 : decode cX0_colourFreedByChain 80 = .ok (.getfield 9, 3) := by decide +kernel
theorem dX0_colourFreedByChain_83 : decode cX0_colourFreedByChain 83 = .ok (.aload_n 0, 1) := by decide +kernel
theorem dX0_colourFreedByChain_84 : decode cX0_colourFreedByChain 84 = .ok (.getfield 22, 3) := by decide +kernel
theorem dX0_colourFreedByChain_87 : decode cX0_colourFreedByChain 87 = .ok (.iload_n 2, 1) := by decide +kernel
theorem dX0_colourFreedByChain_88 : decode cX0_colourFreedByChain 88 = .ok (.iconst 2, 1) := by decide +kernel
theorem dX0_colourFreedByChain_89 : decode cX0_colourFreedByChain 89 = .ok (.iadd, 1) := by decide +kernel
theorem dX0_colourFreedByChain_90 : decode cX0_colourFreedByChain 90 = .ok (.iaload, 1) := by decide +kernel
theorem dX0_colourFreedByChain_91 : decode cX0_colourFreedByChain 91 = .ok (.iaload, 1) := by decide +kernel
theorem dX0_colourFreedByChain_92 : decode cX0_colourFreedByChain 92 = .ok (.invokevirtual 90, 3) := by decide +kernel
theorem dX0_colourFreedByChain_95 : decode cX0_colourFreedByChain 95 = .ok (.aload_n 0, 1) := by decide +kernel
theorem dX0_colourFreedByChain_96 : decode cX0_colourFreedByChain 96 = .ok (.dup, 1) := by decide +kernel
theorem dX0_colourFreedByChain_97 : decode cX0_colourFreedByChain 97 = .ok (.getfield 35, 3) := by decide +kernel
theorem dX0_colourFreedByChain_100 : decode cX0_colourFreedByChain 100 = .ok (.iconst 1, 1) := by decide +kernel
theorem dX0_colourFreedByChain_101 : decode cX0_colourFreedByChain 101 = .ok (.iadd, 1) := by decide +kernel
theorem dX0_colourFreedByChain_102 : decode cX0_colourFreedByChain 102 = .ok (.putfield 35, 3) := by decide +kernel
theorem dX0_colourFreedByChain_105 : decode cX0_colourFreedByChain 105 = .ok (.iload_n 3, 1) := by decide +kernel
theorem dX0_colourFreedByChain_106 : decode cX0_colourFreedByChain 106 = .ok (.ireturn, 1) := by decide +kernel
theorem dX0_listFiveRound_0 : decode cX0_listFiveRound 0 = .ok (.iconst 0, 1) := by decide +kernel
theorem dX0_listFiveRound_1 : decode cX0_listFiveRound 1 = .ok (.istore_n 2, 1) := by decide +kernel
theorem dX0_listFiveRound_2 : decode cX0_listFiveRound 2 = .ok (.aload_n 0, 1) := by decide +kernel
theorem dX0_listFiveRound_3 : decode cX0_listFiveRound 3 = .ok (.getfield 38, 3) := by decide +kernel
theorem dX0_listFiveRound_6 : decode cX0_listFiveRound 6 = .ok (.getfield 65, 3) := by decide +kernel
theorem dX0_listFiveRound_9 : decode cX0_listFiveRound 9 = .ok (.iload_n 1, 1) := by decide +kernel
theorem dX0_listFiveRound_10 : decode cX0_listFiveRound 10 = .ok (.iaload, 1) := by decide +kernel
theorem dX0_listFiveRound_11 : decode cX0_listFiveRound 11 = .ok (.istore_n 3, 1) := by decide +kernel
theorem dX0_listFiveRound_12 : decode cX0_listFiveRound 12 = .ok (.iconst 0, 1) := by decide +kernel
theorem dX0_listFiveRound_13 : decode cX0_listFiveRound 13 = .ok (.istore 4, 2) := by decide +kernel
theorem dX0_listFiveRound_15 : decode cX0_listFiveRound 15 = .ok (.iload 4, 2) := by decide +kernel
theorem dX0_listFiveRound_17 : decode cX0_listFiveRound 17 = .ok (.aload_n 0, 1) := by decide +kernel
theorem dX0_listFiveRound_18 : decode cX0_listFiveRound 18 = .ok (.getfield 38, 3) := by decide +kernel
theorem dX0_listFiveRound_21 : decode cX0_listFiveRound 21 = .ok (.getfield 68, 3) := by decide +kernel
theorem dX0_listFiveRound_24 : decode cX0_listFiveRound 24 = .ok (.iload_n 1, 1) := by decide +kernel
theorem dX0_listFiveRound_25 : decode cX0_listFiveRound 25 = .ok (.iaload, 1) := by decide +kernel
theorem dX0_listFiveRound_26 : decode cX0_listFiveRound 26 = .ok (.if_icmp .ge 55, 3) := by decide +kernel
theorem dX0_listFiveRound_29 : decode cX0_listFiveRound 29 = .ok (.aload_n 0, 1) := by decide +kernel
theorem dX0_listFiveRound_30 : decode cX0_listFiveRound 30 = .ok (.getfield 38, 3) := by decide +kernel
theorem dX0_listFiveRound_33 : decode cX0_listFiveRound 33 = .ok (.iload_n 3, 1) := by decide +kernel
theorem dX0_listFiveRound_34 : decode cX0_listFiveRound 34 = .ok (.invokevirtual 71, 3) := by decide +kernel
theorem dX0_listFiveRound_37 : decode cX0_listFiveRound 37 = .ok (.istore 5, 2) := by decide +kernel
theorem dX0_listFiveRound_39 : decode cX0_listFiveRound 39 = .ok (.aload_n 0, 1) := by decide +kernel
theorem dX0_listFiveRound_40 : decode cX0_listFiveRound 40 = .ok (.getfield 9, 3) := by decide +kernel
theorem dX0_listFiveRound_43 : decode cX0_listFiveRound 43 = .ok (.iload 5, 2) := by decide +kernel
theorem dX0_listFiveRound_45 : decode cX0_listFiveRound 45 = .ok (.iaload, 1) := by decide +kernel
theorem dX0_listFiveRound_46 : decode cX0_listFiveRound 46 = .ok (.ifCond .eq 19, 3) := by decide +kernel
theorem dX0_listFiveRound_49 : decode cX0_listFiveRound 49 = .ok (.iload_n 2, 1) := by decide +kernel
theorem dX0_listFiveRound_50 : decode cX0_listFiveRound 50 = .ok (.iconst 5, 1) := by decide +kernel
theorem dX0_listFiveRound_51 : decode cX0_listFiveRound 51 = .ok (.if_icmp .ge 14, 3) := by decide +kernel
theorem dX0_listFiveRound_54 : decode cX0_listFiveRound 54 = .ok (.aload_n 0, 1) := by decide +kernel
theorem dX0_listFiveRound_55 : decode cX0_listFiveRound 55 = .ok (.getfield 22, 3) := by decide +kernel
theorem dX0_listFiveRound_58 : decode cX0_listFiveRound 58 = .ok (.iload_n 2, 1) := by decide +kernel
theorem dX0_listFiveRound_59 : decode cX0_listFiveRound 59 = .ok (.iload 5, 2) := by decide +kernel
theorem dX0_listFiveRound_61 : decode cX0_listFiveRound 61 = .ok (.iastore, 1) := by decide +kernel
theorem dX0_listFiveRound_62 : decode cX0_listFiveRound 62 = .ok (.iinc 2 1, 3) := by decide +kernel
theorem dX0_listFiveRound_65 : decode cX0_listFiveRound 65 = .ok (.aload_n 0, 1) := by decide +kernel
theorem dX0_listFiveRound_66 : decode cX0_listFiveRound 66 = .ok (.getfield 38, 3) := by decide +kernel
theorem dX0_listFiveRound_69 : decode cX0_listFiveRound 69 = .ok (.getfield 74, 3) := by decide +kernel
theorem dX0_listFiveRound_72 : decode cX0_listFiveRound 72 = .ok (.iload_n 3, 1) := by decide +kernel
theorem dX0_listFiveRound_73 : decode cX0_listFiveRound 73 = .ok (.iaload, 1) := by decide +kernel
theorem dX0_listFiveRound_74 : decode cX0_listFiveRound 74 = .ok (.istore_n 3, 1) := by decide +kernel
theorem dX0_listFiveRound_75 : decode cX0_listFiveRound 75 = .ok (.iinc 4 1, 3) := by decide +kernel
theorem dX0_listFiveRound_78 : decode cX0_listFiveRound 78 = .ok (.goto (-63), 3) := by decide +kernel
theorem dX0_listFiveRound_81 : decode cX0_listFiveRound 81 = .ok (.return_, 1) := by decide +kernel
theorem dX0_collectChain_0 : decode cX0_collectChain 0 = .ok (.iconst 0, 1) := by decide +kernel
theorem dX0_collectChain_1 : decode cX0_collectChain 1 = .ok (.istore_n 3, 1) := by decide +kernel
theorem dX0_collectChain_2 : decode cX0_collectChain 2 = .ok (.iload_n 3, 1) := by decide +kernel
theorem dX0_collectChain_3 : decode cX0_collectChain 3 = .ok (.aload_n 0, 1) := by decide +kernel
theorem dX0_collectChain_4 : decode cX0_collectChain 4 = .ok (.getfield 38, 3) := by decide +kernel
theorem dX0_collectChain_7 : decode cX0_collectChain 7 = .ok (.getfield 42, 3) := by decide +kernel
theorem dX0_collectChain_10 : decode cX0_collectChain 10 = .ok (.if_icmp .ge 16, 3) := by decide +kernel
theorem dX0_collectChain_13 : decode cX0_collectChain 13 = .ok (.aload_n 0, 1) := by decide +kernel
theorem dX0_collectChain_14 : decode cX0_collectChain 14 = .ok (.getfield 25, 3) := by decide +kernel
theorem dX0_collectChain_17 : decode cX0_collectChain 17 = .ok (.iload_n 3, 1) := by decide +kernel
theorem dX0_collectChain_18 : decode cX0_collectChain 18 = .ok (.iconst 0, 1) := by decide +kernel
theorem dX0_collectChain_19 : decode cX0_collectChain 19 = .ok (.bastore, 1) := by decide +kernel
theorem dX0_collectChain_20 : decode cX0_collectChain 20 = .ok (.iinc 3 1, 3) := by decide +kernel
theorem dX0_collectChain_23 : decode cX0_collectChain 23 = .ok (.goto (-21), 3) := by decide +kernel
theorem dX0_collectChain_26 : decode cX0_collectChain 26 = .ok (.aload_n 0, 1) := by decide +kernel
theorem dX0_collectChain_27 : decode cX0_collectChain 27 = .ok (.getfield 9, 3) := by decide +kernel
theorem dX0_collectChain_30 : decode cX0_collectChain 30 = .ok (.iload_n 1, 1) := by decide +kernel
theorem dX0_collectChain_31 : decode cX0_collectChain 31 = .ok (.iaload, 1) := by decide +kernel
theorem dX0_collectChain_32 : decode cX0_collectChain 32 = .ok (.istore_n 3, 1) := by decide +kernel
theorem dX0_collectChain_33 : decode cX0_collectChain 33 = .ok (.aload_n 0, 1) := by decide +kernel
theorem dX0_collectChain_34 : decode cX0_collectChain 34 = .ok (.iconst 0, 1) := by decide +kernel
theorem dX0_collectChain_35 : decode cX0_collectChain 35 = .ok (.putfield 31, 3) := by decide +kernel
theorem dX0_collectChain_38 : decode cX0_collectChain 38 = .ok (.aload_n 0, 1) := by decide +kernel
theorem dX0_collectChain_39 : decode cX0_collectChain 39 = .ok (.iload_n 1, 1) := by decide +kernel
theorem dX0_collectChain_40 : decode cX0_collectChain 40 = .ok (.invokevirtual 93, 3) := by decide +kernel
theorem dX0_collectChain_43 : decode cX0_collectChain 43 = .ok (.iconst 0, 1) := by decide +kernel
theorem dX0_collectChain_44 : decode cX0_collectChain 44 = .ok (.istore 4, 2) := by decide +kernel
theorem dX0_collectChain_46 : decode cX0_collectChain 46 = .ok (.iload 4, 2) := by decide +kernel
theorem dX0_collectChain_48 : decode cX0_collectChain 48 = .ok (.aload_n 0, 1) := by decide +kernel
theorem dX0_collectChain_49 : decode cX0_collectChain 49 = .ok (.getfield 31, 3) := by decide +kernel
theorem dX0_collectChain_52 : decode cX0_collectChain 52 = .ok (.if_icmp .ge 29, 3) := by decide +kernel
theorem dX0_collectChain_55 : decode cX0_collectChain 55 = .ok (.iload 4, 2) := by decide +kernel
theorem dX0_collectChain_57 : decode cX0_collectChain 57 = .ok (.bipush 30, 2) := by decide +kernel
theorem dX0_collectChain_59 : decode cX0_collectChain 59 = .ok (.if_icmp .ge 22, 3) := by decide +kernel
theorem dX0_collectChain_62 : decode cX0_collectChain 62 = .ok (.aload_n 0, 1) := by decide +kernel
theorem dX0_collectChain_63 : decode cX0_collectChain 63 = .ok (.aload_n 0, 1) := by decide +kernel
theorem dX0_collectChain_64 : decode cX0_collectChain 64 = .ok (.getfield 28, 3) := by decide +kernel
theorem dX0_collectChain_67 : decode cX0_collectChain 67 = .ok (.iload 4, 2) := by decide +kernel
theorem dX0_collectChain_69 : decode cX0_collectChain 69 = .ok (.iaload, 1) := by decide +kernel
theorem dX0_collectChain_70 : decode cX0_collectChain 70 = .ok (.iload_n 3, 1) := by decide +kernel
theorem dX0_collectChain_71 : decode cX0_collectChain 71 = .ok (.iload_n 2, 1) := by decide +kernel
theorem dX0_collectChain_72 : decode cX0_collectChain 72 = .ok (.invokevirtual 96, 3) := by decide +kernel
theorem dX0_collectChain_75 : decode cX0_collectChain 75 = .ok (.iinc 4 1, 3) := by decide +kernel
theorem dX0_collectChain_78 : decode cX0_collectChain 78 = .ok (.goto (-32), 3) := by decide +kernel
theorem dX0_collectChain_81 : decode cX0_collectChain 81 = .ok (.return_, 1) := by decide +kernel
theorem dX0_addNeighboursOf_0 : decode cX0_addNeighboursOf 0 = .ok (.aload_n 0, 1) := by decide +kernel
theorem dX0_addNeighboursOf_1 : decode cX0_addNeighboursOf 1 = .ok (.getfield 38, 3) := by decide +kernel
theorem dX0_addNeighboursOf_4 : decode cX0_addNeighboursOf 4 = .ok (.getfield 65, 3) := by decide +kernel
theorem dX0_addNeighboursOf_7 : decode cX0_addNeighboursOf 7 = .ok (.iload_n 1, 1) := by decide +kernel
theorem dX0_addNeighboursOf_8 : decode cX0_addNeighboursOf 8 = .ok (.iaload, 1) := by decide +kernel
theorem dX0_addNeighboursOf_9 : decode cX0_addNeighboursOf 9 = .ok (.istore 4, 2) := by decide +kernel
theorem dX0_addNeighboursOf_11 : decode cX0_addNeighboursOf 11 = .ok (.iconst 0, 1) := by decide +kernel
theorem dX0_addNeighboursOf_12 : decode cX0_addNeighboursOf 12 = .ok (.istore 5, 2) := by decide +kernel
theorem dX0_addNeighboursOf_14 : decode cX0_addNeighboursOf 14 = .ok (.iload 5, 2) := by decide +kernel
theorem dX0_addNeighboursOf_16 : decode cX0_addNeighboursOf 16 = .ok (.aload_n 0, 1) := by decide +kernel
theorem dX0_addNeighboursOf_17 : decode cX0_addNeighboursOf 17 = .ok (.getfield 38, 3) := by decide +kernel
theorem dX0_addNeighboursOf_20 : decode cX0_addNeighboursOf 20 = .ok (.getfield 68, 3) := by decide +kernel
theorem dX0_addNeighboursOf_23 : decode cX0_addNeighboursOf 23 = .ok (.iload_n 1, 1) := by decide +kernel
theorem dX0_addNeighboursOf_24 : decode cX0_addNeighboursOf 24 = .ok (.iaload, 1) := by decide +kernel
theorem dX0_addNeighboursOf_25 : decode cX0_addNeighboursOf 25 = .ok (.if_icmp .ge 69, 3) := by decide +kernel
theorem dX0_addNeighboursOf_28 : decode cX0_addNeighboursOf 28 = .ok (.aload_n 0, 1) := by decide +kernel
theorem dX0_addNeighboursOf_29 : decode cX0_addNeighboursOf 29 = .ok (.getfield 38, 3) := by decide +kernel
theorem dX0_addNeighboursOf_32 : decode cX0_addNeighboursOf 32 = .ok (.iload 4, 2) := by decide +kernel
theorem dX0_addNeighboursOf_34 : decode cX0_addNeighboursOf 34 = .ok (.invokevirtual 71, 3) := by decide +kernel
theorem dX0_addNeighboursOf_37 : decode cX0_addNeighboursOf 37 = .ok (.istore 6, 2) := by decide +kernel
theorem dX0_addNeighboursOf_39 : decode cX0_addNeighboursOf 39 = .ok (.aload_n 0, 1) := by decide +kernel
theorem dX0_addNeighboursOf_40 : decode cX0_addNeighboursOf 40 = .ok (.getfield 9, 3) := by decide +kernel
theorem dX0_addNeighboursOf_43 : decode cX0_addNeighboursOf 43 = .ok (.iload 6, 2) := by decide +kernel
theorem dX0_addNeighboursOf_45 : decode cX0_addNeighboursOf 45 = .ok (.iaload, 1) := by decide +kernel
theorem dX0_addNeighboursOf_46 : decode cX0_addNeighboursOf 46 = .ok (.istore 7, 2) := by decide +kernel
theorem dX0_addNeighboursOf_48 : decode cX0_addNeighboursOf 48 = .ok (.aload_n 0, 1) := by decide +kernel
theorem dX0_addNeighboursOf_49 : decode cX0_addNeighboursOf 49 = .ok (.getfield 25, 3) := by decide +kernel
theorem dX0_addNeighboursOf_52 : decode cX0_addNeighboursOf 52 = .ok (.iload 6, 2) := by decide +kernel
theorem dX0_addNeighboursOf_54 : decode cX0_addNeighboursOf 54 = .ok (.baload, 1) := by decide +kernel
theorem dX0_addNeighboursOf_55 : decode cX0_addNeighboursOf 55 = .ok (.ifCond .ne 21, 3) := by decide +kernel
theorem dX0_addNeighboursOf_58 : decode cX0_addNeighboursOf 58 = .ok (.iload 7, 2) := by decide +kernel
theorem dX0_addNeighboursOf_60 : decode cX0_addNeighboursOf 60 = .ok (.iload_n 2, 1) := by decide +kernel
theorem dX0_addNeighboursOf_61 : decode cX0_addNeighboursOf 61 = .ok (.if_icmp .eq 9, 3) := by decide +kernel
theorem dX0_addNeighboursOf_64 : decode cX0_addNeighboursOf 64 = .ok (.iload 7, 2) := by decide +kernel
theorem dX0_addNeighboursOf_66 : decode cX0_addNeighboursOf 66 = .ok (.iload_n 3, 1) := by decide +kernel
theorem dX0_addNeighboursOf_67 : decode cX0_addNeighboursOf 67 = .ok (.if_icmp .ne 9, 3) := by decide +kernel
theorem dX0_addNeighboursOf_70 : decode cX0_addNeighboursOf 70 = .ok (.aload_n 0, 1) := by decide +kernel
theorem dX0_addNeighboursOf_71 : decode cX0_addNeighboursOf 71 = .ok (.iload 6, 2) := by decide +kernel
theorem dX0_addNeighboursOf_73 : decode cX0_addNeighboursOf 73 = .ok (.invokevirtual 93, 3) := by decide +kernel
theorem dX0_addNeighboursOf_76 : decode cX0_addNeighboursOf 76 = .ok (.aload_n 0, 1) := by decide +kernel
theorem dX0_addNeighboursOf_77 : decode cX0_addNeighboursOf 77 = .ok (.getfield 38, 3) := by decide +kernel
theorem dX0_addNeighboursOf_80 : decode cX0_addNeighboursOf 80 = .ok (.getfield 74, 3) := by decide +kernel
theorem dX0_addNeighboursOf_83 : decode cX0_addNeighboursOf 83 = .ok (.iload 4, 2) := by decide +kernel
theorem dX0_addNeighboursOf_85 : decode cX0_addNeighboursOf 85 = .ok (.iaload, 1) := by decide +kernel
theorem dX0_addNeighboursOf_86 : decode cX0_addNeighboursOf 86 = .ok (.istore 4, 2) := by decide +kernel
theorem dX0_addNeighboursOf_88 : decode cX0_addNeighboursOf 88 = .ok (.iinc 5 1, 3) := by decide +kernel
theorem dX0_addNeighboursOf_91 : decode cX0_addNeighboursOf 91 = .ok (.goto (-77), 3) := by decide +kernel
theorem dX0_addNeighboursOf_94 : decode cX0_addNeighboursOf 94 = .ok (.return_, 1) := by decide +kernel
theorem dX0_addToChain_0 : decode cX0_addToChain 0 = .ok (.aload_n 0, 1) := by decide +kernel
theorem dX0_addToChain_1 : decode cX0_addToChain 1 = .ok (.getfield 25, 3) := by decide +kernel
theorem dX0_addToChain_4 : decode cX0_addToChain 4 = .ok (.iload_n 1, 1) := by decide +kernel
theorem dX0_addToChain_5 : decode cX0_addToChain 5 = .ok (.iconst 1, 1) := by decide +kernel
theorem dX0_addToChain_6 : decode cX0_addToChain 6 = .ok (.bastore, 1) := by decide +kernel
theorem dX0_addToChain_7 : decode cX0_addToChain 7 = .ok (.aload_n 0, 1) := by decide +kernel
theorem dX0_addToChain_8 : decode cX0_addToChain 8 = .ok (.getfield 28, 3) := by decide +kernel
theorem dX0_addToChain_11 : decode cX0_addToChain 11 = .ok (.aload_n 0, 1) := by decide +kernel
theorem dX0_addToChain_12 : decode cX0_addToChain 12 = .ok (.getfield 31, 3) := by decide +kernel
theorem dX0_addToChain_15 : decode cX0_addToChain 15 = .ok (.iload_n 1, 1) := by decide +kernel
theorem dX0_addToChain_16 : decode cX0_addToChain 16 = .ok (.iastore, 1) := by decide +kernel
theorem dX0_addToChain_17 : decode cX0_addToChain 17 = .ok (.aload_n 0, 1) := by decide +kernel
theorem dX0_addToChain_18 : decode cX0_addToChain 18 = .ok (.dup, 1) := by decide +kernel
theorem dX0_addToChain_19 : decode cX0_addToChain 19 = .ok (.getfield 31, 3) := by decide +kernel
theorem dX0_addToChain_22 : decode cX0_addToChain 22 = .ok (.iconst 1, 1) := by decide +kernel
theorem dX0_addToChain_23 : decode cX0_addToChain 23 = .ok (.iadd, 1) := by decide +kernel
theorem dX0_addToChain_24 : decode cX0_addToChain 24 = .ok (.putfield 31, 3) := by decide +kernel
theorem dX0_addToChain_27 : decode cX0_addToChain 27 = .ok (.return_, 1) := by decide +kernel
theorem dX0_swapChain_0 : decode cX0_swapChain 0 = .ok (.iconst 0, 1) := by decide +kernel
theorem dX0_swapChain_1 : decode cX0_swapChain 1 = .ok (.istore_n 3, 1) := by decide +kernel
theorem dX0_swapChain_2 : decode cX0_swapChain 2 = .ok (.iload_n 3, 1) := by decide +kernel
theorem dX0_swapChain_3 : decode cX0_swapChain 3 = .ok (.aload_n 0, 1) := by decide +kernel
theorem dX0_swapChain_4 : decode cX0_swapChain 4 = .ok (.getfield 31, 3) := by decide +kernel
theorem dX0_swapChain_7 : decode cX0_swapChain 7 = .ok (.if_icmp .ge 40, 3) := by decide +kernel
theorem dX0_swapChain_10 : decode cX0_swapChain 10 = .ok (.aload_n 0, 1) := by decide +kernel
theorem dX0_swapChain_11 : decode cX0_swapChain 11 = .ok (.getfield 28, 3) := by decide +kernel
theorem dX0_swapChain_14 : decode cX0_swapChain 14 = .ok (.iload_n 3, 1) := by decide +kernel
theorem dX0_swapChain_15 : decode cX0_swapChain 15 = .ok (.iaload, 1) := by decide +kernel
theorem dX0_swapChain_16 : decode cX0_swapChain 16 = .ok (.istore 4, 2) := by decide +kernel
theorem dX0_swapChain_18 : decode cX0_swapChain 18 = .ok (.aload_n 0, 1) := by decide +kernel
theorem dX0_swapChain_19 : decode cX0_swapChain 19 = .ok (.getfield 9, 3) := by decide +kernel
theorem dX0_swapChain_22 : decode cX0_swapChain 22 = .ok (.iload 4, 2) := by decide +kernel
theorem dX0_swapChain_24 : decode cX0_swapChain 24 = .ok (.aload_n 0, 1) := by decide +kernel
theorem dX0_swapChain_25 : decode cX0_swapChain 25 = .ok (.getfield 9, 3) := by decide +kernel
theorem dX0_swapChain_28 : decode cX0_swapChain 28 = .ok (.iload 4, 2) := by decide +kernel
theorem dX0_swapChain_30 : decode cX0_swapChain 30 = .ok (.iaload, 1) := by decide +kernel
theorem dX0_swapChain_31 : decode cX0_swapChain 31 = .ok (.iload_n 1, 1) := by decide +kernel
theorem dX0_swapChain_32 : decode cX0_swapChain 32 = .ok (.if_icmp .ne 7, 3) := by decide +kernel
theorem dX0_swapChain_35 : decode cX0_swapChain 35 = .ok (.iload_n 2, 1) := by decide +kernel
theorem dX0_swapChain_36 : decode cX0_swapChain 36 = .ok (.goto 4, 3) := by decide +kernel
theorem dX0_swapChain_39 : decode cX0_swapChain 39 = .ok (.iload_n 1, 1) := by decide +kernel
theorem dX0_swapChain_40 : decode cX0_swapChain 40 = .ok (.iastore, 1) := by decide +kernel
theorem dX0_swapChain_41 : decode cX0_swapChain 41 = .ok (.iinc 3 1, 3) := by decide +kernel
theorem dX0_swapChain_44 : decode cX0_swapChain 44 = .ok (.goto (-42), 3) := by decide +kernel
theorem dX0_swapChain_47 : decode cX0_swapChain 47 = .ok (.return_, 1) := by decide +kernel
theorem dX0_coloursUsed_0 : decode cX0_coloursUsed 0 = .ok (.iconst 0, 1) := by decide +kernel
theorem dX0_coloursUsed_1 : decode cX0_coloursUsed 1 = .ok (.istore_n 1, 1) := by decide +kernel
theorem dX0_coloursUsed_2 : decode cX0_coloursUsed 2 = .ok (.iconst 0, 1) := by decide +kernel
theorem dX0_coloursUsed_3 : decode cX0_coloursUsed 3 = .ok (.istore_n 2, 1) := by decide +kernel
theorem dX0_coloursUsed_4 : decode cX0_coloursUsed 4 = .ok (.iload_n 2, 1) := by decide +kernel
theorem dX0_coloursUsed_5 : decode cX0_coloursUsed 5 = .ok (.aload_n 0, 1) := by decide +kernel
theorem dX0_coloursUsed_6 : decode cX0_coloursUsed 6 = .ok (.getfield 38, 3) := by decide +kernel
theorem dX0_coloursUsed_9 : decode cX0_coloursUsed 9 = .ok (.getfield 42, 3) := by decide +kernel
theorem dX0_coloursUsed_12 : decode cX0_coloursUsed 12 = .ok (.if_icmp .ge 20, 3) := by decide +kernel
theorem dX0_coloursUsed_15 : decode cX0_coloursUsed 15 = .ok (.iload_n 1, 1) := by decide +kernel
theorem dX0_coloursUsed_16 : decode cX0_coloursUsed 16 = .ok (.iconst 1, 1) := by decide +kernel
theorem dX0_coloursUsed_17 : decode cX0_coloursUsed 17 = .ok (.aload_n 0, 1) := by decide +kernel
theorem dX0_coloursUsed_18 : decode cX0_coloursUsed 18 = .ok (.getfield 9, 3) := by decide +kernel
theorem dX0_coloursUsed_21 : decode cX0_coloursUsed 21 = .ok (.iload_n 2, 1) := by decide +kernel
theorem dX0_coloursUsed_22 : decode cX0_coloursUsed 22 = .ok (.iaload, 1) := by decide +kernel
theorem dX0_coloursUsed_23 : decode cX0_coloursUsed 23 = .ok (.ishl, 1) := by decide +kernel
theorem dX0_coloursUsed_24 : decode cX0_coloursUsed 24 = .ok (.ior, 1) := by decide +kernel
theorem dX0_coloursUsed_25 : decode cX0_coloursUsed 25 = .ok (.istore_n 1, 1) := by decide +kernel
theorem dX0_coloursUsed_26 : decode cX0_coloursUsed 26 = .ok (.iinc 2 1, 3) := by decide +kernel
theorem dX0_coloursUsed_29 : decode cX0_coloursUsed 29 = .ok (.goto (-25), 3) := by decide +kernel
theorem dX0_coloursUsed_32 : decode cX0_coloursUsed 32 = .ok (.iload_n 1, 1) := by decide +kernel
theorem dX0_coloursUsed_33 : decode cX0_coloursUsed 33 = .ok (.iconst 1, 1) := by decide +kernel
theorem dX0_coloursUsed_34 : decode cX0_coloursUsed 34 = .ok (.ishr, 1) := by decide +kernel
theorem dX0_coloursUsed_35 : decode cX0_coloursUsed 35 = .ok (.invokestatic 100, 3) := by decide +kernel
theorem dX0_coloursUsed_38 : decode cX0_coloursUsed 38 = .ok (.ireturn, 1) := by decide +kernel
theorem dX0_equalEnds_0 : decode cX0_equalEnds 0 = .ok (.iconst 0, 1) := by decide +kernel
theorem dX0_equalEnds_1 : decode cX0_equalEnds 1 = .ok (.istore_n 1, 1) := by decide +kernel
theorem dX0_equalEnds_2 : decode cX0_equalEnds 2 = .ok (.iconst 0, 1) := by decide +kernel
theorem dX0_equalEnds_3 : decode cX0_equalEnds 3 = .ok (.istore_n 2, 1) := by decide +kernel
theorem dX0_equalEnds_4 : decode cX0_equalEnds 4 = .ok (.iload_n 2, 1) := by decide +kernel
theorem dX0_equalEnds_5 : decode cX0_equalEnds 5 = .ok (.aload_n 0, 1) := by decide +kernel
theorem dX0_equalEnds_6 : decode cX0_equalEnds 6 = .ok (.getfield 38, 3) := by decide +kernel
theorem dX0_equalEnds_9 : decode cX0_equalEnds 9 = .ok (.getfield 105, 3) := by decide +kernel
theorem dX0_equalEnds_12 : decode cX0_equalEnds 12 = .ok (.if_icmp .ge 67, 3) := by decide +kernel
theorem dX0_equalEnds_15 : decode cX0_equalEnds 15 = .ok (.aload_n 0, 1) := by decide +kernel
theorem dX0_equalEnds_16 : decode cX0_equalEnds 16 = .ok (.getfield 38, 3) := by decide +kernel
theorem dX0_equalEnds_19 : decode cX0_equalEnds 19 = .ok (.getfield 108, 3) := by decide +kernel
theorem dX0_equalEnds_22 : decode cX0_equalEnds 22 = .ok (.iload_n 2, 1) := by decide +kernel
theorem dX0_equalEnds_23 : decode cX0_equalEnds 23 = .ok (.baload, 1) := by decide +kernel
theorem dX0_equalEnds_24 : decode cX0_equalEnds 24 = .ok (.ifCond .eq 49, 3) := by decide +kernel
theorem dX0_equalEnds_27 : decode cX0_equalEnds 27 = .ok (.aload_n 0, 1) := by decide +kernel
theorem dX0_equalEnds_28 : decode cX0_equalEnds 28 = .ok (.getfield 9, 3) := by decide +kernel
theorem dX0_equalEnds_31 : decode cX0_equalEnds 31 = .ok (.aload_n 0, 1) := by decide +kernel
theorem dX0_equalEnds_32 : decode cX0_equalEnds 32 = .ok (.getfield 38, 3) := by decide +kernel
theorem dX0_equalEnds_35 : decode cX0_equalEnds 35 = .ok (.getfield 111, 3) := by decide +kernel
theorem dX0_equalEnds_38 : decode cX0_equalEnds 38 = .ok (.iconst 2, 1) := by decide +kernel
theorem dX0_equalEnds_39 : decode cX0_equalEnds 39 = .ok (.iload_n 2, 1) := by decide +kernel
theorem dX0_equalEnds_40 : decode cX0_equalEnds 40 = .ok (.imul, 1) := by decide +kernel
theorem dX0_equalEnds_41 : decode cX0_equalEnds 41 = .ok (.iaload, 1) := by decide +kernel
theorem dX0_equalEnds_42 : decode cX0_equalEnds 42 = .ok (.iaload, 1) := by decide +kernel
theorem dX0_equalEnds_43 : decode cX0_equalEnds 43 = .ok (.istore_n 3, 1) := by decide +kernel
theorem dX0_equalEnds_44 : decode cX0_equalEnds 44 = .ok (.iload_n 3, 1) := by decide +kernel
theorem dX0_equalEnds_45 : decode cX0_equalEnds 45 = .ok (.ifCond .eq 28, 3) := by decide +kernel
theorem dX0_equalEnds_48 : decode cX0_equalEnds 48 = .ok (.iload_n 3, 1) := by decide +kernel
theorem dX0_equalEnds_49 : decode cX0_equalEnds 49 = .ok (.aload_n 0, 1) := by decide +kernel
theorem dX0_equalEnds_50 : decode cX0_equalEnds 50 = .ok (.getfield 9, 3) := by decide +kernel
theorem dX0_equalEnds_53 : decode cX0_equalEnds 53 = .ok (.aload_n 0, 1) := by decide +kernel
theorem dX0_equalEnds_54 : decode cX0_equalEnds 54 = .ok (.getfield 38, 3) := by decide +kernel
theorem dX0_equalEnds_57 : decode cX0_equalEnds 57 = .ok (.getfield 111, 3) := by decide +kernel
theorem dX0_equalEnds_60 : decode cX0_equalEnds 60 = .ok (.iconst 2, 1) := by decide +kernel
theorem dX0_equalEnds_61 : decode cX0_equalEnds 61 = .ok (.iload_n 2, 1) := by decide +kernel
theorem dX0_equalEnds_62 : decode cX0_equalEnds 62 = .ok (.imul, 1) := by decide +kernel
theorem dX0_equalEnds_63 : decode cX0_equalEnds 63 = .ok (.iconst 1, 1) := by decide +kernel
theorem dX0_equalEnds_64 : decode cX0_equalEnds 64 = .ok (.iadd, 1) := by decide +kernel
theorem dX0_equalEnds_65 : decode cX0_equalEnds 65 = .ok (.iaload, 1) := by decide +kernel
theorem dX0_equalEnds_66 : decode cX0_equalEnds 66 = .ok (.iaload, 1) := by decide +kernel
theorem dX0_equalEnds_67 : decode cX0_equalEnds 67 = .ok (.if_icmp .ne 6, 3) := by decide +kernel
theorem dX0_equalEnds_70 : decode cX0_equalEnds 70 = .ok (.iinc 1 1, 3) := by decide +kernel
theorem dX0_equalEnds_73 : decode cX0_equalEnds 73 = .ok (.iinc 2 1, 3) := by decide +kernel
theorem dX0_equalEnds_76 : decode cX0_equalEnds 76 = .ok (.goto (-72), 3) := by decide +kernel
theorem dX0_equalEnds_79 : decode cX0_equalEnds 79 = .ok (.iload_n 1, 1) := by decide +kernel
theorem dX0_equalEnds_80 : decode cX0_equalEnds 80 = .ok (.ireturn, 1) := by decide +kernel
theorem dX1_init_0 : decode cX1_init 0 = .ok (.aload_n 0, 1) := by decide +kernel
theorem dX1_init_1 : decode cX1_init 1 = .ok (.invokespecial 3, 3) := by decide +kernel
theorem dX1_init_4 : decode cX1_init 4 = .ok (.aload_n 0, 1) := by decide +kernel
theorem dX1_init_5 : decode cX1_init 5 = .ok (.sipush 200, 3) := by decide +kernel
theorem dX1_init_8 : decode cX1_init 8 = .ok (.newarray .int, 2) := by decide +kernel
theorem dX1_init_10 : decode cX1_init 10 = .ok (.putfield 9, 3) := by decide +kernel
theorem dX1_init_13 : decode cX1_init 13 = .ok (.aload_n 0, 1) := by decide +kernel
theorem dX1_init_14 : decode cX1_init 14 = .ok (.sipush 200, 3) := by decide +kernel
theorem dX1_init_17 : decode cX1_init 17 = .ok (.newarray .int, 2) := by decide +kernel
theorem dX1_init_19 : decode cX1_init 19 = .ok (.putfield 15, 3) := by decide +kernel
theorem dX1_init_22 : decode cX1_init 22 = .ok (.aload_n 0, 1) := by decide +kernel
theorem dX1_init_23 : decode cX1_init 23 = .ok (.sipush 200, 3) := by decide +kernel
theorem dX1_init_26 : decode cX1_init 26 = .ok (.newarray .int, 2) := by decide +kernel
theorem dX1_init_28 : decode cX1_init 28 = .ok (.putfield 18, 3) := by decide +kernel
theorem dX1_init_31 : decode cX1_init 31 = .ok (.aload_n 0, 1) := by decide +kernel
theorem dX1_init_32 : decode cX1_init 32 = .ok (.iconst 0, 1) := by decide +kernel
theorem dX1_init_33 : decode cX1_init 33 = .ok (.putfield 21, 3) := by decide +kernel
theorem dX1_init_36 : decode cX1_init 36 = .ok (.aload_n 0, 1) := by decide +kernel
theorem dX1_init_37 : decode cX1_init 37 = .ok (.aload_n 1, 1) := by decide +kernel
theorem dX1_init_38 : decode cX1_init 38 = .ok (.putfield 25, 3) := by decide +kernel
theorem dX1_init_41 : decode cX1_init 41 = .ok (.return_, 1) := by decide +kernel
theorem dX1_survey_0 : decode cX1_survey 0 = .ok (.iconst 2, 1) := by decide +kernel
theorem dX1_survey_1 : decode cX1_survey 1 = .ok (.aload_n 0, 1) := by decide +kernel
theorem dX1_survey_2 : decode cX1_survey 2 = .ok (.getfield 25, 3) := by decide +kernel
theorem dX1_survey_5 : decode cX1_survey 5 = .ok (.getfield 29, 3) := by decide +kernel
theorem dX1_survey_8 : decode cX1_survey 8 = .ok (.imul, 1) := by decide +kernel
theorem dX1_survey_9 : decode cX1_survey 9 = .ok (.istore_n 1, 1) := by decide +kernel
theorem dX1_survey_10 : decode cX1_survey 10 = .ok (.iconst 0, 1) := by decide +kernel
theorem dX1_survey_11 : decode cX1_survey 11 = .ok (.istore_n 2, 1) := by decide +kernel
theorem dX1_survey_12 : decode cX1_survey 12 = .ok (.iload_n 2, 1) := by decide +kernel
theorem dX1_survey_13 : decode cX1_survey 13 = .ok (.iload_n 1, 1) := by decide +kernel
theorem dX1_survey_14 : decode cX1_survey 14 = .ok (.if_icmp .ge 16, 3) := by decide +kernel
theorem dX1_survey_17 : decode cX1_survey 17 = .ok (.aload_n 0, 1) := by decide +kernel
theorem dX1_survey_18 : decode cX1_survey 18 = .ok (.getfield 9, 3) := by decide +kernel
theorem dX1_survey_21 : decode cX1_survey 21 = .ok (.iload_n 2, 1) := by decide +kernel
theorem dX1_survey_22 : decode cX1_survey 22 = .ok (.iconst (-1), 1) := by decide +kernel
theorem dX1_survey_23 : decode cX1_survey 23 = .ok (.iastore, 1) := by decide +kernel
theorem dX1_survey_24 : decode cX1_survey 24 = .ok (.iinc 2 1, 3) := by decide +kernel
theorem dX1_survey_27 : decode cX1_survey 27 = .ok (.goto (-15), 3) := by decide +kernel
theorem dX1_survey_30 : decode cX1_survey 30 = .ok (.aload_n 0, 1) := by decide +kernel
theorem dX1_survey_31 : decode cX1_survey 31 = .ok (.iconst 0, 1) := by decide +kernel
theorem dX1_survey_32 : decode cX1_survey 32 = .ok (.putfield 21, 3) := by decide +kernel
theorem dX1_survey_35 : decode cX1_survey 35 = .ok (.iconst 0, 1) := by decide +kernel
theorem dX1_survey_36 : decode cX1_survey 36 = .ok (.istore_n 2, 1) := by decide +kernel
theorem dX1_survey_37 : decode cX1_survey 37 = .ok (.iload_n 2, 1) := by decide +kernel
theorem dX1_survey_38 : decode cX1_survey 38 = .ok (.iload_n 1, 1) := by decide +kernel
theorem dX1_survey_39 : decode cX1_survey 39 = .ok (.if_icmp .ge 38, 3) := by decide +kernel
theorem dX1_survey_42 : decode cX1_survey 42 = .ok (.aload_n 0, 1) := by decide +kernel
theorem dX1_survey_43 : decode cX1_survey 43 = .ok (.getfield 25, 3) := by decide +kernel
theorem dX1_survey_46 : decode cX1_survey 46 = .ok (.getfield 34, 3) := by decide +kernel
theorem dX1_survey_49 : decode cX1_survey 49 = .ok (.iload_n 2, 1) := by decide +kernel
theorem dX1_survey_50 : decode cX1_survey 50 = .ok (.iconst 2, 1) := by decide +kernel
theorem dX1_survey_51 : decode cX1_survey 51 = .ok (.idiv, 1) := by decide +kernel
theorem dX1_survey_52 : decode cX1_survey 52 = .ok (.baload, 1) := by decide +kernel
theorem dX1_survey_53 : decode cX1_survey 53 = .ok (.ifCond .eq 18, 3) := by decide +kernel
theorem dX1_survey_56 : decode cX1_survey 56 = .ok (.aload_n 0, 1) := by decide +kernel
theorem dX1_survey_57 : decode cX1_survey 57 = .ok (.getfield 9, 3) := by decide +kernel
theorem dX1_survey_60 : decode cX1_survey 60 = .ok (.iload_n 2, 1) := by decide +kernel
theorem dX1_survey_61 : decode cX1_survey 61 = .ok (.iaload, 1) := by decide +kernel
theorem dX1_survey_62 : decode cX1_survey 62 = .ok (.iconst (-1), 1) := by decide +kernel
theorem dX1_survey_63 : decode cX1_survey 63 = .ok (.if_icmp .ne 8, 3) := by decide +kernel
theorem dX1_survey_66 : decode cX1_survey 66 = .ok (.aload_n 0, 1) := by decide +kernel
theorem dX1_survey_67 : decode cX1_survey 67 = .ok (.iload_n 2, 1) := by decide +kernel
theorem dX1_survey_68 : decode cX1_survey 68 = .ok (.invokevirtual 38, 3) := by decide +kernel
theorem dX1_survey_71 : decode cX1_survey 71 = .ok (.iinc 2 1, 3) := by decide +kernel
theorem dX1_survey_74 : decode cX1_survey 74 = .ok (.goto (-37), 3) := by decide +kernel
theorem dX1_survey_77 : decode cX1_survey 77 = .ok (.return_, 1) := by decide +kernel
theorem dX1_walkFrom_0 : decode cX1_walkFrom 0 = .ok (.iload_n 1, 1) := by decide +kernel
theorem dX1_walkFrom_1 : decode cX1_walkFrom 1 = .ok (.istore_n 2, 1) := by decide +kernel
theorem dX1_walkFrom_2 : decode cX1_walkFrom 2 = .ok (.iconst 0, 1) := by decide +kernel
theorem dX1_walkFrom_3 : decode cX1_walkFrom 3 = .ok (.istore_n 3, 1) := by decide +kernel
theorem dX1_walkFrom_4 : decode cX1_walkFrom 4 = .ok (.aload_n 0, 1) := by decide +kernel
theorem dX1_walkFrom_5 : decode cX1_walkFrom 5 = .ok (.getfield 9, 3) := by decide +kernel
theorem dX1_walkFrom_8 : decode cX1_walkFrom 8 = .ok (.iload_n 2, 1) := by decide +kernel
theorem dX1_walkFrom_9 : decode cX1_walkFrom 9 = .ok (.aload_n 0, 1) := by decide +kernel
theorem dX1_walkFrom_10 : decode cX1_walkFrom 10 = .ok (.getfield 21, 3) := by decide +kernel
theorem dX1_walkFrom_13 : decode cX1_walkFrom 13 = .ok (.iastore, 1) := by decide +kernel
theorem dX1_walkFrom_14 : decode cX1_walkFrom 14 = .ok (.aload_n 0, 1) := by decide +kernel
theorem dX1_walkFrom_15 : decode cX1_walkFrom 15 = .ok (.getfield 25, 3) := by decide +kernel
theorem dX1_walkFrom_18 : decode cX1_walkFrom 18 = .ok (.iload_n 2, 1) := by decide +kernel
theorem dX1_walkFrom_19 : decode cX1_walkFrom 19 = .ok (.invokevirtual 42, 3) := by decide +kernel
theorem dX1_walkFrom_22 : decode cX1_walkFrom 22 = .ok (.istore_n 2, 1) := by decide +kernel
theorem dX1_walkFrom_23 : decode cX1_walkFrom 23 = .ok (.iinc 3 1, 3) := by decide +kernel
theorem dX1_walkFrom_26 : decode cX1_walkFrom 26 = .ok (.iload_n 2, 1) := by decide +kernel
theorem dX1_walkFrom_27 : decode cX1_walkFrom 27 = .ok (.iload_n 1, 1) := by decide +kernel
theorem dX1_walkFrom_28 : decode cX1_walkFrom 28 = .ok (.if_icmp .eq 10, 3) := by decide +kernel
theorem dX1_walkFrom_31 : decode cX1_walkFrom 31 = .ok (.iload_n 3, 1) := by decide +kernel
theorem dX1_walkFrom_32 : decode cX1_walkFrom 32 = .ok (.sipush 200, 3) := by decide +kernel
theorem dX1_walkFrom_35 : decode cX1_walkFrom 35 = .ok (.if_icmp .lt (-31), 3) := by decide +kernel
theorem dX1_walkFrom_38 : decode cX1_walkFrom 38 = .ok (.aload_n 0, 1) := by decide +kernel
theorem dX1_walkFrom_39 : decode cX1_walkFrom 39 = .ok (.getfield 15, 3) := by decide +kernel
theorem dX1_walkFrom_42 : decode cX1_walkFrom 42 = .ok (.aload_n 0, 1) := by decide +kernel
theorem dX1_walkFrom_43 : decode cX1_walkFrom 43 = .ok (.getfield 21, 3) := by decide +kernel
theorem dX1_walkFrom_46 : decode cX1_walkFrom 46 = .ok (.iload_n 1, 1) := by decide +kernel
theorem dX1_walkFrom_47 : decode cX1_walkFrom 47 = .ok (.iastore, 1) := by decide +kernel
theorem dX1_walkFrom_48 : decode cX1_walkFrom 48 = .ok (.aload_n 0, 1) := by decide +kernel
theorem dX1_walkFrom_49 : decode cX1_walkFrom 49 = .ok (.getfield 18, 3) := by decide +kernel
theorem dX1_walkFrom_52 : decode cX1_walkFrom 52 = .ok (.aload_n 0, 1) := by decide +kernel
theorem dX1_walkFrom_53 : decode cX1_walkFrom 53 = .ok (.getfield 21, 3) := by decide +kernel
theorem dX1_walkFrom_56 : decode cX1_walkFrom 56 = .ok (.iload_n 3, 1) := by decide +kernel
theorem dX1_walkFrom_57 : decode cX1_walkFrom 57 = .ok (.iastore, 1) := by decide +kernel
theorem dX1_walkFrom_58 : decode cX1_walkFrom 58 = .ok (.aload_n 0, 1) := by decide +kernel
theorem dX1_walkFrom_59 : decode cX1_walkFrom 59 = .ok (.dup, 1) := by decide +kernel
theorem dX1_walkFrom_60 : decode cX1_walkFrom 60 = .ok (.getfield 21, 3) := by decide +kernel
theorem dX1_walkFrom_63 : decode cX1_walkFrom 63 = .ok (.iconst 1, 1) := by decide +kernel
theorem dX1_walkFrom_64 : decode cX1_walkFrom 64 = .ok (.iadd, 1) := by decide +kernel
theorem dX1_walkFrom_65 : decode cX1_walkFrom 65 = .ok (.putfield 21, 3) := by decide +kernel
theorem dX1_walkFrom_68 : decode cX1_walkFrom 68 = .ok (.return_, 1) := by decide +kernel
theorem dX3_init_0 : decode cX3_init 0 = .ok (.aload_n 0, 1) := by decide +kernel
theorem dX3_init_1 : decode cX3_init 1 = .ok (.invokespecial 3, 3) := by decide +kernel
theorem dX3_init_4 : decode cX3_init 4 = .ok (.aload_n 0, 1) := by decide +kernel
theorem dX3_init_5 : decode cX3_init 5 = .ok (.bipush 30, 2) := by decide +kernel
theorem dX3_init_7 : decode cX3_init 7 = .ok (.newarray .boolean, 2) := by decide +kernel
theorem dX3_init_9 : decode cX3_init 9 = .ok (.putfield 9, 3) := by decide +kernel
theorem dX3_init_12 : decode cX3_init 12 = .ok (.aload_n 0, 1) := by decide +kernel
theorem dX3_init_13 : decode cX3_init 13 = .ok (.bipush 100, 2) := by decide +kernel
theorem dX3_init_15 : decode cX3_init 15 = .ok (.newarray .boolean, 2) := by decide +kernel
theorem dX3_init_17 : decode cX3_init 17 = .ok (.putfield 15, 3) := by decide +kernel
theorem dX3_init_20 : decode cX3_init 20 = .ok (.aload_n 0, 1) := by decide +kernel
theorem dX3_init_21 : decode cX3_init 21 = .ok (.sipush 200, 3) := by decide +kernel
theorem dX3_init_24 : decode cX3_init 24 = .ok (.newarray .boolean, 2) := by decide +kernel
theorem dX3_init_26 : decode cX3_init 26 = .ok (.putfield 18, 3) := by decide +kernel
theorem dX3_init_29 : decode cX3_init 29 = .ok (.aload_n 0, 1) := by decide +kernel
theorem dX3_init_30 : decode cX3_init 30 = .ok (.sipush 200, 3) := by decide +kernel
theorem dX3_init_33 : decode cX3_init 33 = .ok (.newarray .int, 2) := by decide +kernel
theorem dX3_init_35 : decode cX3_init 35 = .ok (.putfield 21, 3) := by decide +kernel
theorem dX3_init_38 : decode cX3_init 38 = .ok (.aload_n 0, 1) := by decide +kernel
theorem dX3_init_39 : decode cX3_init 39 = .ok (.iconst 0, 1) := by decide +kernel
theorem dX3_init_40 : decode cX3_init 40 = .ok (.putfield 25, 3) := by decide +kernel
theorem dX3_init_43 : decode cX3_init 43 = .ok (.aload_n 0, 1) := by decide +kernel
theorem dX3_init_44 : decode cX3_init 44 = .ok (.iconst 0, 1) := by decide +kernel
theorem dX3_init_45 : decode cX3_init 45 = .ok (.putfield 29, 3) := by decide +kernel
theorem dX3_init_48 : decode cX3_init 48 = .ok (.aload_n 0, 1) := by decide +kernel
theorem dX3_init_49 : decode cX3_init 49 = .ok (.iconst 0, 1) := by decide +kernel
theorem dX3_init_50 : decode cX3_init 50 = .ok (.putfield 32, 3) := by decide +kernel
theorem dX3_init_53 : decode cX3_init 53 = .ok (.aload_n 0, 1) := by decide +kernel
theorem dX3_init_54 : decode cX3_init 54 = .ok (.iconst 0, 1) := by decide +kernel
theorem dX3_init_55 : decode cX3_init 55 = .ok (.putfield 35, 3) := by decide +kernel
theorem dX3_init_58 : decode cX3_init 58 = .ok (.aload_n 0, 1) := by decide +kernel
theorem dX3_init_59 : decode cX3_init 59 = .ok (.aload_n 1, 1) := by decide +kernel
theorem dX3_init_60 : decode cX3_init 60 = .ok (.putfield 38, 3) := by decide +kernel
theorem dX3_init_63 : decode cX3_init 63 = .ok (.aload_n 0, 1) := by decide +kernel
theorem dX3_init_64 : decode cX3_init 64 = .ok (.aload_n 2, 1) := by decide +kernel
theorem dX3_init_65 : decode cX3_init 65 = .ok (.putfield 42, 3) := by decide +kernel
theorem dX3_init_68 : decode cX3_init 68 = .ok (.aload_n 0, 1) := by decide +kernel
theorem dX3_init_69 : decode cX3_init 69 = .ok (.aload_n 3, 1) := by decide +kernel
theorem dX3_init_70 : decode cX3_init 70 = .ok (.putfield 46, 3) := by decide +kernel
theorem dX3_init_73 : decode cX3_init 73 = .ok (.return_, 1) := by decide +kernel
theorem dX3_partBy_0 : decode cX3_partBy 0 = .ok (.aload_n 0, 1) := by decide +kernel
theorem dX3_partBy_1 : decode cX3_partBy 1 = .ok (.iload_n 1, 1) := by decide +kernel
theorem dX3_partBy_2 : decode cX3_partBy 2 = .ok (.invokevirtual 50, 3) := by decide +kernel
theorem dX3_partBy_5 : decode cX3_partBy 5 = .ok (.aload_n 0, 1) := by decide +kernel
theorem dX3_partBy_6 : decode cX3_partBy 6 = .ok (.aload_n 0, 1) := by decide +kernel
theorem dX3_partBy_7 : decode cX3_partBy 7 = .ok (.getfield 42, 3) := by decide +kernel
theorem dX3_partBy_10 : decode cX3_partBy 10 = .ok (.getfield 54, 3) := by decide +kernel
theorem dX3_partBy_13 : decode cX3_partBy 13 = .ok (.iconst 2, 1) := by decide +kernel
theorem dX3_partBy_14 : decode cX3_partBy 14 = .ok (.iload_n 1, 1) := by decide +kernel
theorem dX3_partBy_15 : decode cX3_partBy 15 = .ok (.imul, 1) := by decide +kernel
theorem dX3_partBy_16 : decode cX3_partBy 16 = .ok (.iaload, 1) := by decide +kernel
theorem dX3_partBy_17 : decode cX3_partBy 17 = .ok (.invokevirtual 59, 3) := by decide +kernel
theorem dX3_partBy_20 : decode cX3_partBy 20 = .ok (.aload_n 0, 1) := by decide +kernel
theorem dX3_partBy_21 : decode cX3_partBy 21 = .ok (.aload_n 0, 1) := by decide +kernel
theorem dX3_partBy_22 : decode cX3_partBy 22 = .ok (.getfield 46, 3) := by decide +kernel
theorem dX3_partBy_25 : decode cX3_partBy 25 = .ok (.getfield 62, 3) := by decide +kernel
theorem dX3_partBy_28 : decode cX3_partBy 28 = .ok (.aload_n 0, 1) := by decide +kernel
theorem dX3_partBy_29 : decode cX3_partBy 29 = .ok (.getfield 38, 3) := by decide +kernel
theorem dX3_partBy_32 : decode cX3_partBy 32 = .ok (.getfield 67, 3) := by decide +kernel
theorem dX3_partBy_35 : decode cX3_partBy 35 = .ok (.iconst 2, 1) := by decide +kernel
theorem dX3_partBy_36 : decode cX3_partBy 36 = .ok (.iload_n 1, 1) := by decide +kernel
theorem dX3_partBy_37 : decode cX3_partBy 37 = .ok (.imul, 1) := by decide +kernel
theorem dX3_partBy_38 : decode cX3_partBy 38 = .ok (.iaload, 1) := by decide +kernel
theorem dX3_partBy_39 : decode cX3_partBy 39 = .ok (.iaload, 1) := by decide +kernel
theorem dX3_partBy_40 : decode cX3_partBy 40 = .ok (.invokevirtual 72, 3) := by decide +kernel
theorem dX3_partBy_43 : decode cX3_partBy 43 = .ok (.return_, 1) := by decide +kernel
theorem dX3_markCycle_0 : decode cX3_markCycle 0 = .ok (.aload_n 0, 1) := by decide +kernel
theorem dX3_markCycle_1 : decode cX3_markCycle 1 = .ok (.invokevirtual 75, 3) := by decide +kernel
theorem dX3_markCycle_4 : decode cX3_markCycle 4 = .ok (.aload_n 0, 1) := by decide +kernel
theorem dX3_markCycle_5 : decode cX3_markCycle 5 = .ok (.getfield 15, 3) := by decide +kernel
theorem dX3_markCycle_8 : decode cX3_markCycle 8 = .ok (.iload_n 1, 1) := by decide +kernel
theorem dX3_markCycle_9 : decode cX3_markCycle 9 = .ok (.iconst 1, 1) := by decide +kernel
theorem dX3_markCycle_10 : decode cX3_markCycle 10 = .ok (.bastore, 1) := by decide +kernel
theorem dX3_markCycle_11 : decode cX3_markCycle 11 = .ok (.aload_n 0, 1) := by decide +kernel
theorem dX3_markCycle_12 : decode cX3_markCycle 12 = .ok (.getfield 38, 3) := by decide +kernel
theorem dX3_markCycle_15 : decode cX3_markCycle 15 = .ok (.getfield 67, 3) := by decide +kernel
theorem dX3_markCycle_18 : decode cX3_markCycle 18 = .ok (.iconst 2, 1) := by decide +kernel
theorem dX3_markCycle_19 : decode cX3_markCycle 19 = .ok (.iload_n 1, 1) := by decide +kernel
theorem dX3_markCycle_20 : decode cX3_markCycle 20 = .ok (.imul, 1) := by decide +kernel
theorem dX3_markCycle_21 : decode cX3_markCycle 21 = .ok (.iaload, 1) := by decide +kernel
theorem dX3_markCycle_22 : decode cX3_markCycle 22 = .ok (.istore_n 2, 1) := by decide +kernel
theorem dX3_markCycle_23 : decode cX3_markCycle 23 = .ok (.aload_n 0, 1) := by decide +kernel
theorem dX3_markCycle_24 : decode cX3_markCycle 24 = .ok (.getfield 38, 3) := by decide +kernel
theorem dX3_markCycle_27 : decode cX3_markCycle 27 = .ok (.getfield 67, 3) := by decide +kernel
theorem dX3_markCycle_30 : decode cX3_markCycle 30 = .ok (.iconst 2, 1) := by decide +kernel
theorem dX3_markCycle_31 : decode cX3_markCycle 31 = .ok (.iload_n 1, 1) := by decide +kernel
theorem dX3_markCycle_32 : decode cX3_markCycle 32 = .ok (.imul, 1) := by decide +kernel
theorem dX3_markCycle_33 : decode cX3_markCycle 33 = .ok (.iconst 1, 1) := by decide +kernel
theorem dX3_markCycle_34 : decode cX3_markCycle 34 = .ok (.iadd, 1) := by decide +kernel
theorem dX3_markCycle_35 : decode cX3_markCycle 35 = .ok (.iaload, 1) := by decide +kernel
theorem dX3_markCycle_36 : decode cX3_markCycle 36 = .ok (.istore_n 3, 1) := by decide +kernel
theorem dX3_markCycle_37 : decode cX3_markCycle 37 = .ok (.iconst 0, 1) := by decide +kernel
theorem dX3_markCycle_38 : decode cX3_markCycle 38 = .ok (.istore 4, 2) := by decide +kernel
theorem dX3_markCycle_40 : decode cX3_markCycle 40 = .ok (.iload_n 2, 1) := by decide +kernel
theorem dX3_markCycle_41 : decode cX3_markCycle 41 = .ok (.iload_n 3, 1) := by decide +kernel
theorem dX3_markCycle_42 : decode cX3_markCycle 42 = .ok (.if_icmp .eq 52, 3) := by decide +kernel
theorem dX3_markCycle_45 : decode cX3_markCycle 45 = .ok (.iload 4, 2) := by decide +kernel
theorem dX3_markCycle_47 : decode cX3_markCycle 47 = .ok (.bipush 30, 2) := by decide +kernel
theorem dX3_markCycle_49 : decode cX3_markCycle 49 = .ok (.if_icmp .ge 45, 3) := by decide +kernel
theorem dX3_markCycle_52 : decode cX3_markCycle 52 = .ok (.aload_n 0, 1) := by decide +kernel
theorem dX3_markCycle_53 : decode cX3_markCycle 53 = .ok (.getfield 46, 3) := by decide +kernel
theorem dX3_markCycle_56 : decode cX3_markCycle 56 = .ok (.getfield 78, 3) := by decide +kernel
theorem dX3_markCycle_59 : decode cX3_markCycle 59 = .ok (.iload_n 2, 1) := by decide +kernel
theorem dX3_markCycle_60 : decode cX3_markCycle 60 = .ok (.iaload, 1) := by decide +kernel
theorem dX3_markCycle_61 : decode cX3_markCycle 61 = .ok (.aload_n 0, 1) := by decide +kernel
theorem dX3_markCycle_62 : decode cX3_markCycle 62 = .ok (.getfield 46, 3) := by decide +kernel
theorem dX3_markCycle_65 : decode cX3_markCycle 65 = .ok (.getfield 78, 3) := by decide +kernel
theorem dX3_markCycle_68 : decode cX3_markCycle 68 = .ok (.iload_n 3, 1) := by decide +kernel
theorem dX3_markCycle_69 : decode cX3_markCycle 69 = .ok (.iaload, 1) := by decide +kernel
theorem dX3_markCycle_70 : decode cX3_markCycle 70 = .ok (.if_icmp .lt 12, 3) := by decide +kernel
theorem dX3_markCycle_73 : decode cX3_markCycle 73 = .ok (.aload_n 0, 1) := by decide +kernel
theorem dX3_markCycle_74 : decode cX3_markCycle 74 = .ok (.iload_n 2, 1) := by decide +kernel
theorem dX3_markCycle_75 : decode cX3_markCycle 75 = .ok (.invokevirtual 81, 3) := by decide +kernel
theorem dX3_markCycle_78 : decode cX3_markCycle 78 = .ok (.istore_n 2, 1) := by decide +kernel
theorem dX3_markCycle_79 : decode cX3_markCycle 79 = .ok (.goto 9, 3) := by decide +kernel
theorem dX3_markCycle_82 : decode cX3_markCycle 82 = .ok (.aload_n 0, 1) := by decide +kernel
theorem dX3_markCycle_83 : decode cX3_markCycle 83 = .ok (.iload_n 3, 1) := by decide +kernel
theorem dX3_markCycle_84 : decode cX3_markCycle 84 = .ok (.invokevirtual 81, 3) := by decide +kernel
theorem dX3_markCycle_87 : decode cX3_markCycle 87 = .ok (.istore_n 3, 1) := by decide +kernel
theorem dX3_markCycle_88 : decode cX3_markCycle 88 = .ok (.iinc 4 1, 3) := by decide +kernel
theorem dX3_markCycle_91 : decode cX3_markCycle 91 = .ok (.goto (-51), 3) := by decide +kernel
theorem dX3_markCycle_94 : decode cX3_markCycle 94 = .ok (.aload_n 0, 1) := by decide +kernel
theorem dX3_markCycle_95 : decode cX3_markCycle 95 = .ok (.getfield 9, 3) := by decide +kernel
theorem dX3_markCycle_98 : decode cX3_markCycle 98 = .ok (.iload_n 2, 1) := by decide +kernel
theorem dX3_markCycle_99 : decode cX3_markCycle 99 = .ok (.iconst 1, 1) := by decide +kernel
theorem dX3_markCycle_100 : decode cX3_markCycle 100 = .ok (.bastore, 1) := by decide +kernel
theorem dX3_markCycle_101 : decode cX3_markCycle 101 = .ok (.aload_n 0, 1) := by decide +kernel
theorem dX3_markCycle_102 : decode cX3_markCycle 102 = .ok (.dup, 1) := by decide +kernel
theorem dX3_markCycle_103 : decode cX3_markCycle 103 = .ok (.getfield 29, 3) := by decide +kernel
theorem dX3_markCycle_106 : decode cX3_markCycle 106 = .ok (.iconst 1, 1) := by decide +kernel
theorem dX3_markCycle_107 : decode cX3_markCycle 107 = .ok (.iadd, 1) := by decide +kernel
theorem dX3_markCycle_108 : decode cX3_markCycle 108 = .ok (.putfield 29, 3) := by decide +kernel
theorem dX3_markCycle_111 : decode cX3_markCycle 111 = .ok (.return_, 1) := by decide +kernel
theorem dX3_unmarkCycle_0 : decode cX3_unmarkCycle 0 = .ok (.iconst 0, 1) := by decide +kernel
theorem dX3_unmarkCycle_1 : decode cX3_unmarkCycle 1 = .ok (.istore_n 1, 1) := by decide +kernel
theorem dX3_unmarkCycle_2 : decode cX3_unmarkCycle 2 = .ok (.iload_n 1, 1) := by decide +kernel
theorem dX3_unmarkCycle_3 : decode cX3_unmarkCycle 3 = .ok (.aload_n 0, 1) := by decide +kernel
theorem dX3_unmarkCycle_4 : decode cX3_unmarkCycle 4 = .ok (.getfield 38, 3) := by decide +kernel
theorem dX3_unmarkCycle_7 : decode cX3_unmarkCycle 7 = .ok (.getfield 85, 3) := by decide +kernel
theorem dX3_unmarkCycle_10 : decode cX3_unmarkCycle 10 = .ok (.if_icmp .ge 16, 3) := by decide +kernel
theorem dX3_unmarkCycle_13 : decode cX3_unmarkCycle 13 = .ok (.aload_n 0, 1) := by decide +kernel
theorem dX3_unmarkCycle_14 : decode cX3_unmarkCycle 14 = .ok (.getfield 9, 3) := by decide +kernel
theorem dX3_unmarkCycle_17 : decode cX3_unmarkCycle 17 = .ok (.iload_n 1, 1) := by decide +kernel
theorem dX3_unmarkCycle_18 : decode cX3_unmarkCycle 18 = .ok (.iconst 0, 1) := by decide +kernel
theorem dX3_unmarkCycle_19 : decode cX3_unmarkCycle 19 = .ok (.bastore, 1) := by decide +kernel
theorem dX3_unmarkCycle_20 : decode cX3_unmarkCycle 20 = .ok (.iinc 1 1, 3) := by decide +kernel
theorem dX3_unmarkCycle_23 : decode cX3_unmarkCycle 23 = .ok (.goto (-21), 3) := by decide +kernel
theorem dX3_unmarkCycle_26 : decode cX3_unmarkCycle 26 = .ok (.iconst 0, 1) := by decide +kernel
theorem dX3_unmarkCycle_27 : decode cX3_unmarkCycle 27 = .ok (.istore_n 1, 1) := by decide +kernel
theorem dX3_unmarkCycle_28 : decode cX3_unmarkCycle 28 = .ok (.iload_n 1, 1) := by decide +kernel
theorem dX3_unmarkCycle_29 : decode cX3_unmarkCycle 29 = .ok (.aload_n 0, 1) := by decide +kernel
theorem dX3_unmarkCycle_30 : decode cX3_unmarkCycle 30 = .ok (.getfield 38, 3) := by decide +kernel
theorem dX3_unmarkCycle_33 : decode cX3_unmarkCycle 33 = .ok (.getfield 88, 3) := by decide +kernel
theorem dX3_unmarkCycle_36 : decode cX3_unmarkCycle 36 = .ok (.if_icmp .ge 16, 3) := by decide +kernel
theorem dX3_unmarkCycle_39 : decode cX3_unmarkCycle 39 = .ok (.aload_n 0, 1) := by decide +kernel
theorem dX3_unmarkCycle_40 : decode cX3_unmarkCycle 40 = .ok (.getfield 15, 3) := by decide +kernel
theorem dX3_unmarkCycle_43 : decode cX3_unmarkCycle 43 = .ok (.iload_n 1, 1) := by decide +kernel
theorem dX3_unmarkCycle_44 : decode cX3_unmarkCycle 44 = .ok (.iconst 0, 1) := by decide +kernel
theorem dX3_unmarkCycle_45 : decode cX3_unmarkCycle 45 = .ok (.bastore, 1) := by decide +kernel
theorem dX3_unmarkCycle_46 : decode cX3_unmarkCycle 46 = .ok (.iinc 1 1, 3) := by decide +kernel
theorem dX3_unmarkCycle_49 : decode cX3_unmarkCycle 49 = .ok (.goto (-21), 3) := by decide +kernel
theorem dX3_unmarkCycle_52 : decode cX3_unmarkCycle 52 = .ok (.aload_n 0, 1) := by decide +kernel
theorem dX3_unmarkCycle_53 : decode cX3_unmarkCycle 53 = .ok (.iconst 0, 1) := by decide +kernel
theorem dX3_unmarkCycle_54 : decode cX3_unmarkCycle 54 = .ok (.putfield 29, 3) := by decide +kernel
theorem dX3_unmarkCycle_57 : decode cX3_unmarkCycle 57 = .ok (.return_, 1) := by decide +kernel
theorem dX3_climbFrom_0 : decode cX3_climbFrom 0 = .ok (.aload_n 0, 1) := by decide +kernel
theorem dX3_climbFrom_1 : decode cX3_climbFrom 1 = .ok (.getfield 9, 3) := by decide +kernel
theorem dX3_climbFrom_4 : decode cX3_climbFrom 4 = .ok (.iload_n 1, 1) := by decide +kernel
theorem dX3_climbFrom_5 : decode cX3_climbFrom 5 = .ok (.iconst 1, 1) := by decide +kernel
theorem dX3_climbFrom_6 : decode cX3_climbFrom 6 = .ok (.bastore, 1) := by decide +kernel
theorem dX3_climbFrom_7 : decode cX3_climbFrom 7 = .ok (.aload_n 0, 1) := by decide +kernel
theorem dX3_climbFrom_8 : decode cX3_climbFrom 8 = .ok (.getfield 15, 3) := by decide +kernel
theorem dX3_climbFrom_11 : decode cX3_climbFrom 11 = .ok (.aload_n 0, 1) := by decide +kernel
theorem dX3_climbFrom_12 : decode cX3_climbFrom 12 = .ok (.getfield 46, 3) := by decide +kernel
theorem dX3_climbFrom_15 : decode cX3_climbFrom 15 = .ok (.getfield 91, 3) := by decide +kernel
theorem dX3_climbFrom_18 : decode cX3_climbFrom 18 = .ok (.iload_n 1, 1) := by decide +kernel
theorem dX3_climbFrom_19 : decode cX3_climbFrom 19 = .ok (.iaload, 1) := by decide +kernel
theorem dX3_climbFrom_20 : decode cX3_climbFrom 20 = .ok (.iconst 1, 1) := by decide +kernel
theorem dX3_climbFrom_21 : decode cX3_climbFrom 21 = .ok (.bastore, 1) := by decide +kernel
theorem dX3_climbFrom_22 : decode cX3_climbFrom 22 = .ok (.aload_n 0, 1) := by decide +kernel
theorem dX3_climbFrom_23 : decode cX3_climbFrom 23 = .ok (.dup, 1) := by decide +kernel
theorem dX3_climbFrom_24 : decode cX3_climbFrom 24 = .ok (.getfield 29, 3) := by decide +kernel
theorem dX3_climbFrom_27 : decode cX3_climbFrom 27 = .ok (.iconst 1, 1) := by decide +kernel
theorem dX3_climbFrom_28 : decode cX3_climbFrom 28 = .ok (.iadd, 1) := by decide +kernel
theorem dX3_climbFrom_29 : decode cX3_climbFrom 29 = .ok (.putfield 29, 3) := by decide +kernel
theorem dX3_climbFrom_32 : decode cX3_climbFrom 32 = .ok (.aload_n 0, 1) := by decide +kernel
theorem dX3_climbFrom_33 : decode cX3_climbFrom 33 = .ok (.getfield 46, 3) := by decide +kernel
theorem dX3_climbFrom_36 : decode cX3_climbFrom 36 = .ok (.getfield 94, 3) := by decide +kernel
theorem dX3_climbFrom_39 : decode cX3_climbFrom 39 = .ok (.iload_n 1, 1) := by decide +kernel
theorem dX3_climbFrom_40 : decode cX3_climbFrom 40 = .ok (.iaload, 1) := by decide +kernel
theorem dX3_climbFrom_41 : decode cX3_climbFrom 41 = .ok (.ireturn, 1) := by decide +kernel
theorem dX3_markFacesInside_0 : decode cX3_markFacesInside 0 = .ok (.iconst 0, 1) := by decide +kernel
theorem dX3_markFacesInside_1 : decode cX3_markFacesInside 1 = .ok (.istore_n 2, 1) := by decide +kernel
theorem dX3_markFacesInside_2 : decode cX3_markFacesInside 2 = .ok (.iload_n 2, 1) := by decide +kernel
theorem dX3_markFacesInside_3 : decode cX3_markFacesInside 3 = .ok (.aload_n 0, 1) := by decide +kernel
theorem dX3_markFacesInside_4 : decode cX3_markFacesInside 4 = .ok (.getfield 42, 3) := by decide +kernel
theorem dX3_markFacesInside_7 : decode cX3_markFacesInside 7 = .ok (.getfield 97, 3) := by decide +kernel
theorem dX3_markFacesInside_10 : decode cX3_markFacesInside 10 = .ok (.if_icmp .ge 16, 3) := by decide +kernel
theorem dX3_markFacesInside_13 : decode cX3_markFacesInside 13 = .ok (.aload_n 0, 1) := by decide +kernel
theorem dX3_markFacesInside_14 : decode cX3_markFacesInside 14 = .ok (.getfield 18, 3) := by decide +kernel
theorem dX3_markFacesInside_17 : decode cX3_markFacesInside 17 = .ok (.iload_n 2, 1) := by decide +kernel
theorem dX3_markFacesInside_18 : decode cX3_markFacesInside 18 = .ok (.iconst 0, 1) := by decide +kernel
theorem dX3_markFacesInside_19 : decode cX3_markFacesInside 19 = .ok (.bastore, 1) := by decide +kernel
theorem dX3_markFacesInside_20 : decode cX3_markFacesInside 20 = .ok (.iinc 2 1, 3) := by decide +kernel
theorem dX3_markFacesInside_23 : decode cX3_markFacesInside 23 = .ok (.goto (-21), 3) := by decide +kernel
theorem dX3_markFacesInside_26 : decode cX3_markFacesInside 26 = .ok (.aload_n 0, 1) := by decide +kernel
theorem dX3_markFacesInside_27 : decode cX3_markFacesInside 27 = .ok (.iconst 0, 1) := by decide +kernel
theorem dX3_markFacesInside_28 : decode cX3_markFacesInside 28 = .ok (.putfield 25, 3) := by decide +kernel
theorem dX3_markFacesInside_31 : decode cX3_markFacesInside 31 = .ok (.aload_n 0, 1) := by decide +kernel
theorem dX3_markFacesInside_32 : decode cX3_markFacesInside 32 = .ok (.iload_n 1, 1) := by decide +kernel
theorem dX3_markFacesInside_33 : decode cX3_markFacesInside 33 = .ok (.invokevirtual 100, 3) := by decide +kernel
theorem dX3_markFacesInside_36 : decode cX3_markFacesInside 36 = .ok (.iconst 0, 1) := by decide +kernel
theorem dX3_markFacesInside_37 : decode cX3_markFacesInside 37 = .ok (.istore_n 2, 1) := by decide +kernel
theorem dX3_markFacesInside_38 : decode cX3_markFacesInside 38 = .ok (.iload_n 2, 1) := by decide +kernel
theorem dX3_markFacesInside_39 : decode cX3_markFacesInside 39 = .ok (.aload_n 0, 1) := by decide +kernel
theorem dX3_markFacesInside_40 : decode cX3_markFacesInside 40 = .ok (.getfield 25, 3) := by decide +kernel
theorem dX3_markFacesInside_43 : decode cX3_markFacesInside 43 = .ok (.if_icmp .ge 26, 3) := by decide +kernel
theorem dX3_markFacesInside_46 : decode cX3_markFacesInside 46 = .ok (.iload_n 2, 1) := by decide +kernel
theorem dX3_markFacesInside_47 : decode cX3_markFacesInside 47 = .ok (.sipush 200, 3) := by decide +kernel
theorem dX3_markFacesInside_50 : decode cX3_markFacesInside 50 = .ok (.if_icmp .ge 19, 3) := by decide +kernel
theorem dX3_markFacesInside_53 : decode cX3_markFacesInside 53 = .ok (.aload_n 0, 1) := by decide +kernel
theorem dX3_markFacesInside_54 : decode cX3_markFacesInside 54 = .ok (.aload_n 0, 1) := by decide +kernel
theorem dX3_markFacesInside_55 : decode cX3_markFacesInside 55 = .ok (.getfield 21, 3) := by decide +kernel
theorem dX3_markFacesInside_58 : decode cX3_markFacesInside 58 = .ok (.iload_n 2, 1) := by decide +kernel
theorem dX3_markFacesInside_59 : decode cX3_markFacesInside 59 = .ok (.iaload, 1) := by decide +kernel
theorem dX3_markFacesInside_60 : decode cX3_markFacesInside 60 = .ok (.invokevirtual 103, 3) := by decide +kernel
theorem dX3_markFacesInside_63 : decode cX3_markFacesInside 63 = .ok (.iinc 2 1, 3) := by decide +kernel
theorem dX3_markFacesInside_66 : decode cX3_markFacesInside 66 = .ok (.goto (-28), 3) := by decide +kernel
theorem dX3_markFacesInside_69 : decode cX3_markFacesInside 69 = .ok (.return_, 1) := by decide +kernel
theorem dX3_addFacesBeside_0 : decode cX3_addFacesBeside 0 = .ok (.aload_n 0, 1) := by decide +kernel
theorem dX3_addFacesBeside_1 : decode cX3_addFacesBeside 1 = .ok (.getfield 42, 3) := by decide +kernel
theorem dX3_addFacesBeside_4 : decode cX3_addFacesBeside 4 = .ok (.getfield 106, 3) := by decide +kernel
theorem dX3_addFacesBeside_7 : decode cX3_addFacesBeside 7 = .ok (.iload_n 1, 1) := by decide +kernel
theorem dX3_addFacesBeside_8 : decode cX3_addFacesBeside 8 = .ok (.iaload, 1) := by decide +kernel
theorem dX3_addFacesBeside_9 : decode cX3_addFacesBeside 9 = .ok (.istore_n 2, 1) := by decide +kernel
theorem dX3_addFacesBeside_10 : decode cX3_addFacesBeside 10 = .ok (.iconst 0, 1) := by decide +kernel
theorem dX3_addFacesBeside_11 : decode cX3_addFacesBeside 11 = .ok (.istore_n 3, 1) := by decide +kernel
theorem dX3_addFacesBeside_12 : decode cX3_addFacesBeside 12 = .ok (.iload_n 3, 1) := by decide +kernel
theorem dX3_addFacesBeside_13 : decode cX3_addFacesBeside 13 = .ok (.aload_n 0, 1) := by decide +kernel
theorem dX3_addFacesBeside_14 : decode cX3_addFacesBeside 14 = .ok (.getfield 42, 3) := by decide +kernel
theorem dX3_addFacesBeside_17 : decode cX3_addFacesBeside 17 = .ok (.getfield 109, 3) := by decide +kernel
theorem dX3_addFacesBeside_20 : decode cX3_addFacesBeside 20 = .ok (.iload_n 1, 1) := by decide +kernel
theorem dX3_addFacesBeside_21 : decode cX3_addFacesBeside 21 = .ok (.iaload, 1) := by decide +kernel
theorem dX3_addFacesBeside_22 : decode cX3_addFacesBeside 22 = .ok (.if_icmp .ge 58, 3) := by decide +kernel
theorem dX3_addFacesBeside_25 : decode cX3_addFacesBeside 25 = .ok (.aload_n 0, 1) := by decide +kernel
theorem dX3_addFacesBeside_26 : decode cX3_addFacesBeside 26 = .ok (.getfield 42, 3) := by decide +kernel
theorem dX3_addFacesBeside_29 : decode cX3_addFacesBeside 29 = .ok (.getfield 54, 3) := by decide +kernel
theorem dX3_addFacesBeside_32 : decode cX3_addFacesBeside 32 = .ok (.iload_n 2, 1) := by decide +kernel
theorem dX3_addFacesBeside_33 : decode cX3_addFacesBeside 33 = .ok (.iconst 1, 1) := by decide +kernel
theorem dX3_addFacesBeside_34 : decode cX3_addFacesBeside 34 = .ok (.ixor, 1) := by decide +kernel
theorem dX3_addFacesBeside_35 : decode cX3_addFacesBeside 35 = .ok (.iaload, 1) := by decide +kernel
theorem dX3_addFacesBeside_36 : decode cX3_addFacesBeside 36 = .ok (.istore 4, 2) := by decide +kernel
theorem dX3_addFacesBeside_38 : decode cX3_addFacesBeside 38 = .ok (.aload_n 0, 1) := by decide +kernel
theorem dX3_addFacesBeside_39 : decode cX3_addFacesBeside 39 = .ok (.getfield 15, 3) := by decide +kernel
theorem dX3_addFacesBeside_42 : decode cX3_addFacesBeside 42 = .ok (.iload_n 2, 1) := by decide +kernel
theorem dX3_addFacesBeside_43 : decode cX3_addFacesBeside 43 = .ok (.iconst 2, 1) := by decide +kernel
theorem dX3_addFacesBeside_44 : decode cX3_addFacesBeside 44 = .ok (.idiv, 1) := by decide +kernel
theorem dX3_addFacesBeside_45 : decode cX3_addFacesBeside 45 = .ok (.baload, 1) := by decide +kernel
theorem dX3_addFacesBeside_46 : decode cX3_addFacesBeside 46 = .ok (.ifCond .ne 19, 3) := by decide +kernel
theorem dX3_addFacesBeside_49 : decode cX3_addFacesBeside 49 = .ok (.aload_n 0, 1) := by decide +kernel
theorem dX3_addFacesBeside_50 : decode cX3_addFacesBeside 50 = .ok (.getfield 18, 3) := by decide +kernel
theorem dX3_addFacesBeside_53 : decode cX3_addFacesBeside 53 = .ok (.iload 4, 2) := by decide +kernel
theorem dX3_addFacesBeside_55 : decode cX3_addFacesBeside 55 = .ok (.baload, 1) := by decide +kernel
theorem dX3_addFacesBeside_56 : decode cX3_addFacesBeside 56 = .ok (.ifCond .ne 9, 3) := by decide +kernel
theorem dX3_addFacesBeside_59 : decode cX3_addFacesBeside 59 = .ok (.aload_n 0, 1) := by decide +kernel
theorem dX3_addFacesBeside_60 : decode cX3_addFacesBeside 60 = .ok (.iload 4, 2) := by decide +kernel
theorem dX3_addFacesBeside_62 : decode cX3_addFacesBeside 62 = .ok (.invokevirtual 100, 3) := by decide +kernel
theorem dX3_addFacesBeside_65 : decode cX3_addFacesBeside 65 = .ok (.aload_n 0, 1) := by decide +kernel
theorem dX3_addFacesBeside_66 : decode cX3_addFacesBeside 66 = .ok (.getfield 38, 3) := by decide +kernel
theorem dX3_addFacesBeside_69 : decode cX3_addFacesBeside 69 = .ok (.iload_n 2, 1) := by decide +kernel
theorem dX3_addFacesBeside_70 : decode cX3_addFacesBeside 70 = .ok (.invokevirtual 112, 3) := by decide +kernel
theorem dX3_addFacesBeside_73 : decode cX3_addFacesBeside 73 = .ok (.istore_n 2, 1) := by decide +kernel
theorem dX3_addFacesBeside_74 : decode cX3_addFacesBeside 74 = .ok (.iinc 3 1, 3) := by decide +kernel
theorem dX3_addFacesBeside_77 : decode cX3_addFacesBeside 77 = .ok (.goto (-65), 3) := by decide +kernel
theorem dX3_addFacesBeside_80 : decode cX3_addFacesBeside 80 = .ok (.return_, 1) := by decide +kernel
theorem dX3_addInside_0 : decode cX3_addInside 0 = .ok (.aload_n 0, 1) := by decide +kernel
theorem dX3_addInside_1 : decode cX3_addInside 1 = .ok (.getfield 18, 3) := by decide +kernel
theorem dX3_addInside_4 : decode cX3_addInside 4 = .ok (.iload_n 1, 1) := by decide +kernel
theorem dX3_addInside_5 : decode cX3_addInside 5 = .ok (.iconst 1, 1) := by decide +kernel
theorem dX3_addInside_6 : decode cX3_addInside 6 = .ok (.bastore, 1) := by decide +kernel
theorem dX3_addInside_7 : decode cX3_addInside 7 = .ok (.aload_n 0, 1) := by decide +kernel
theorem dX3_addInside_8 : decode cX3_addInside 8 = .ok (.getfield 21, 3) := by decide +kernel
theorem dX3_addInside_11 : decode cX3_addInside 11 = .ok (.aload_n 0, 1) := by decide +kernel
theorem dX3_addInside_12 : decode cX3_addInside 12 = .ok (.getfield 25, 3) := by decide +kernel
theorem dX3_addInside_15 : decode cX3_addInside 15 = .ok (.iload_n 1, 1) := by decide +kernel
theorem dX3_addInside_16 : decode cX3_addInside 16 = .ok (.iastore, 1) := by decide +kernel
theorem dX3_addInside_17 : decode cX3_addInside 17 = .ok (.aload_n 0, 1) := by decide +kernel
theorem dX3_addInside_18 : decode cX3_addInside 18 = .ok (.dup, 1) := by decide +kernel
theorem dX3_addInside_19 : decode cX3_addInside 19 = .ok (.getfield 25, 3) := by decide +kernel
theorem dX3_addInside_22 : decode cX3_addInside 22 = .ok (.iconst 1, 1) := by decide +kernel
theorem dX3_addInside_23 : decode cX3_addInside 23 = .ok (.iadd, 1) := by decide +kernel
theorem dX3_addInside_24 : decode cX3_addInside 24 = .ok (.putfield 25, 3) := by decide +kernel
theorem dX3_addInside_27 : decode cX3_addInside 27 = .ok (.return_, 1) := by decide +kernel
theorem dX3_countVertices_0 : decode cX3_countVertices 0 = .ok (.aload_n 0, 1) := by decide +kernel
theorem dX3_countVertices_1 : decode cX3_countVertices 1 = .ok (.iconst 0, 1) := by decide +kernel
theorem dX3_countVertices_2 : decode cX3_countVertices 2 = .ok (.putfield 32, 3) := by decide +kernel
theorem dX3_countVertices_5 : decode cX3_countVertices 5 = .ok (.aload_n 0, 1) := by decide +kernel
theorem dX3_countVertices_6 : decode cX3_countVertices 6 = .ok (.iconst 0, 1) := by decide +kernel
theorem dX3_countVertices_7 : decode cX3_countVertices 7 = .ok (.putfield 35, 3) := by decide +kernel
theorem dX3_countVertices_10 : decode cX3_countVertices 10 = .ok (.iconst 0, 1) := by decide +kernel
theorem dX3_countVertices_11 : decode cX3_countVertices 11 = .ok (.istore_n 2, 1) := by decide +kernel
theorem dX3_countVertices_12 : decode cX3_countVertices 12 = .ok (.iload_n 2, 1) := by decide +kernel
theorem dX3_countVertices_13 : decode cX3_countVertices 13 = .ok (.aload_n 0, 1) := by decide +kernel
theorem dX3_countVertices_14 : decode cX3_countVertices 14 = .ok (.getfield 38, 3) := by decide +kernel
theorem dX3_countVertices_17 : decode cX3_countVertices 17 = .ok (.getfield 85, 3) := by decide +kernel
theorem dX3_countVertices_20 : decode cX3_countVertices 20 = .ok (.if_icmp .ge 82, 3) := by decide +kernel
theorem dX3_countVertices_23 : decode cX3_countVertices 23 = .ok (.aload_n 0, 1) := by decide +kernel
theorem dX3_countVertices_24 : decode cX3_countVertices 24 = .ok (.getfield 46, 3) := by decide +kernel
theorem dX3_countVertices_27 : decode cX3_countVertices 27 = .ok (.getfield 62, 3) := by decide +kernel
theorem dX3_countVertices_30 : decode cX3_countVertices 30 = .ok (.iload_n 2, 1) := by decide +kernel
theorem dX3_countVertices_31 : decode cX3_countVertices 31 = .ok (.iaload, 1) := by decide +kernel
theorem dX3_countVertices_32 : decode cX3_countVertices 32 = .ok (.iload_n 1, 1) := by decide +kernel
theorem dX3_countVertices_33 : decode cX3_countVertices 33 = .ok (.if_icmp .ne 63, 3) := by decide +kernel
theorem dX3_countVertices_36 : decode cX3_countVertices 36 = .ok (.aload_n 0, 1) := by decide +kernel
theorem dX3_countVertices_37 : decode cX3_countVertices 37 = .ok (.getfield 9, 3) := by decide +kernel
theorem dX3_countVertices_40 : decode cX3_countVertices 40 = .ok (.iload_n 2, 1) := by decide +kernel
theorem dX3_countVertices_41 : decode cX3_countVertices 41 = .ok (.baload, 1) := by decide +kernel
theorem dX3_countVertices_42 : decode cX3_countVertices 42 = .ok (.ifCond .eq 6, 3) := by decide +kernel
theorem dX3_countVertices_45 : decode cX3_countVertices 45 = .ok (.goto 51, 3) := by decide +kernel
theorem dX3_countVertices_48 : decode cX3_countVertices 48 = .ok (.aload_n 0, 1) := by decide +kernel
theorem dX3_countVertices_49 : decode cX3_countVertices 49 = .ok (.getfield 18, 3) := by decide +kernel
theorem dX3_countVertices_52 : decode cX3_countVertices 52 = .ok (.aload_n 0, 1) := by decide +kernel
theorem dX3_countVertices_53 : decode cX3_countVertices 53 = .ok (.getfield 42, 3) := by decide +kernel
theorem dX3_countVertices_56 : decode cX3_countVertices 56 = .ok (.getfield 54, 3) := by decide +kernel
theorem dX3_countVertices_59 : decode cX3_countVertices 59 = .ok (.aload_n 0, 1) := by decide +kernel
theorem dX3_countVertices_60 : decode cX3_countVertices 60 = .ok (.getfield 38, 3) := by decide +kernel
theorem dX3_countVertices_63 : decode cX3_countVertices 63 = .ok (.getfield 115, 3) := by decide +kernel
theorem dX3_countVertices_66 : decode cX3_countVertices 66 = .ok (.iload_n 2, 1) := by decide +kernel
theorem dX3_countVertices_67 : decode cX3_countVertices 67 = .ok (.iaload, 1) := by decide +kernel
theorem dX3_countVertices_68 : decode cX3_countVertices 68 = .ok (.iaload, 1) := by decide +kernel
theorem dX3_countVertices_69 : decode cX3_countVertices 69 = .ok (.baload, 1) := by decide +kernel
theorem dX3_countVertices_70 : decode cX3_countVertices 70 = .ok (.ifCond .eq 16, 3) := by decide +kernel
theorem dX3_countVertices_73 : decode cX3_countVertices 73 = .ok (.aload_n 0, 1) := by decide +kernel
theorem dX3_countVertices_74 : decode cX3_countVertices 74 = .ok (.dup, 1) := by decide +kernel
theorem dX3_countVertices_75 : decode cX3_countVertices 75 = .ok (.getfield 32, 3) := by decide +kernel
theorem dX3_countVertices_78 : decode cX3_countVertices 78 = .ok (.iconst 1, 1) := by decide +kernel
theorem dX3_countVertices_79 : decode cX3_countVertices 79 = .ok (.iadd, 1) := by decide +kernel
theorem dX3_countVertices_80 : decode cX3_countVertices 80 = .ok (.putfield 32, 3) := by decide +kernel
theorem dX3_countVertices_83 : decode cX3_countVertices 83 = .ok (.goto 13, 3) := by decide +kernel
theorem dX3_countVertices_86 : decode cX3_countVertices 86 = .ok (.aload_n 0, 1) := by decide +kernel
theorem dX3_countVertices_87 : decode cX3_countVertices 87 = .ok (.dup, 1) := by decide +kernel
theorem dX3_countVertices_88 : decode cX3_countVertices 88 = .ok (.getfield 35, 3) := by decide +kernel
theorem dX3_countVertices_91 : decode cX3_countVertices 91 = .ok (.iconst 1, 1) := by decide +kernel
theorem dX3_countVertices_92 : decode cX3_countVertices 92 = .ok (.iadd, 1) := by decide +kernel
theorem dX3_countVertices_93 : decode cX3_countVertices 93 = .ok (.putfield 35, 3) := by decide +kernel
theorem dX3_countVertices_96 : decode cX3_countVertices 96 = .ok (.iinc 2 1, 3) := by decide +kernel
theorem dX3_countVertices_99 : decode cX3_countVertices 99 = .ok (.goto (-87), 3) := by decide +kernel
theorem dX3_countVertices_102 : decode cX3_countVertices 102 = .ok (.return_, 1) := by decide +kernel
theorem dX4_init_0 : decode cX4_init 0 = .ok (.aload_n 0, 1) := by decide +kernel
theorem dX4_init_1 : decode cX4_init 1 = .ok (.invokespecial 3, 3) := by decide +kernel
theorem dX4_init_4 : decode cX4_init 4 = .ok (.aload_n 0, 1) := by decide +kernel
theorem dX4_init_5 : decode cX4_init 5 = .ok (.bipush 30, 2) := by decide +kernel
theorem dX4_init_7 : decode cX4_init 7 = .ok (.newarray .int, 2) := by decide +kernel
theorem dX4_init_9 : decode cX4_init 9 = .ok (.putfield 9, 3) := by decide +kernel
theorem dX4_init_12 : decode cX4_init 12 = .ok (.aload_n 0, 1) := by decide +kernel
theorem dX4_init_13 : decode cX4_init 13 = .ok (.bipush 30, 2) := by decide +kernel
theorem dX4_init_15 : decode cX4_init 15 = .ok (.newarray .int, 2) := by decide +kernel
theorem dX4_init_17 : decode cX4_init 17 = .ok (.putfield 15, 3) := by decide +kernel
theorem dX4_init_20 : decode cX4_init 20 = .ok (.aload_n 0, 1) := by decide +kernel
theorem dX4_init_21 : decode cX4_init 21 = .ok (.bipush 30, 2) := by decide +kernel
theorem dX4_init_23 : decode cX4_init 23 = .ok (.newarray .int, 2) := by decide +kernel
theorem dX4_init_25 : decode cX4_init 25 = .ok (.putfield 18, 3) := by decide +kernel
theorem dX4_init_28 : decode cX4_init 28 = .ok (.aload_n 0, 1) := by decide +kernel
theorem dX4_init_29 : decode cX4_init 29 = .ok (.bipush 30, 2) := by decide +kernel
theorem dX4_init_31 : decode cX4_init 31 = .ok (.newarray .int, 2) := by decide +kernel
theorem dX4_init_33 : decode cX4_init 33 = .ok (.putfield 21, 3) := by decide +kernel
theorem dX4_init_36 : decode cX4_init 36 = .ok (.aload_n 0, 1) := by decide +kernel
theorem dX4_init_37 : decode cX4_init 37 = .ok (.bipush 30, 2) := by decide +kernel
theorem dX4_init_39 : decode cX4_init 39 = .ok (.newarray .int, 2) := by decide +kernel
theorem dX4_init_41 : decode cX4_init 41 = .ok (.putfield 24, 3) := by decide +kernel
theorem dX4_init_44 : decode cX4_init 44 = .ok (.aload_n 0, 1) := by decide +kernel
theorem dX4_init_45 : decode cX4_init 45 = .ok (.iconst 0, 1) := by decide +kernel
theorem dX4_init_46 : decode cX4_init 46 = .ok (.putfield 27, 3) := by decide +kernel
theorem dX4_init_49 : decode cX4_init 49 = .ok (.aload_n 0, 1) := by decide +kernel
theorem dX4_init_50 : decode cX4_init 50 = .ok (.iconst 0, 1) := by decide +kernel
theorem dX4_init_51 : decode cX4_init 51 = .ok (.putfield 31, 3) := by decide +kernel
theorem dX4_init_54 : decode cX4_init 54 = .ok (.aload_n 0, 1) := by decide +kernel
theorem dX4_init_55 : decode cX4_init 55 = .ok (.aload_n 1, 1) := by decide +kernel
theorem dX4_init_56 : decode cX4_init 56 = .ok (.putfield 34, 3) := by decide +kernel
theorem dX4_init_59 : decode cX4_init 59 = .ok (.return_, 1) := by decide +kernel
theorem dX4_survey_0 : decode cX4_survey 0 = .ok (.iconst 0, 1) := by decide +kernel
theorem dX4_survey_1 : decode cX4_survey 1 = .ok (.istore_n 1, 1) := by decide +kernel
theorem dX4_survey_2 : decode cX4_survey 2 = .ok (.iload_n 1, 1) := by decide +kernel
theorem dX4_survey_3 : decode cX4_survey 3 = .ok (.aload_n 0, 1) := by decide +kernel
theorem dX4_survey_4 : decode cX4_survey 4 = .ok (.getfield 34, 3) := by decide +kernel
theorem dX4_survey_7 : decode cX4_survey 7 = .ok (.getfield 38, 3) := by decide +kernel
theorem dX4_survey_10 : decode cX4_survey 10 = .ok (.if_icmp .ge 16, 3) := by decide +kernel
theorem dX4_survey_13 : decode cX4_survey 13 = .ok (.aload_n 0, 1) := by decide +kernel
theorem dX4_survey_14 : decode cX4_survey 14 = .ok (.getfield 21, 3) := by decide +kernel
theorem dX4_survey_17 : decode cX4_survey 17 = .ok (.iload_n 1, 1) := by decide +kernel
theorem dX4_survey_18 : decode cX4_survey 18 = .ok (.iconst (-1), 1) := by decide +kernel
theorem dX4_survey_19 : decode cX4_survey 19 = .ok (.iastore, 1) := by decide +kernel
theorem dX4_survey_20 : decode cX4_survey 20 = .ok (.iinc 1 1, 3) := by decide +kernel
theorem dX4_survey_23 : decode cX4_survey 23 = .ok (.goto (-21), 3) := by decide +kernel
theorem dX4_survey_26 : decode cX4_survey 26 = .ok (.aload_n 0, 1) := by decide +kernel
theorem dX4_survey_27 : decode cX4_survey 27 = .ok (.iconst 0, 1) := by decide +kernel
theorem dX4_survey_28 : decode cX4_survey 28 = .ok (.putfield 31, 3) := by decide +kernel
theorem dX4_survey_31 : decode cX4_survey 31 = .ok (.iconst 0, 1) := by decide +kernel
theorem dX4_survey_32 : decode cX4_survey 32 = .ok (.istore_n 1, 1) := by decide +kernel
theorem dX4_survey_33 : decode cX4_survey 33 = .ok (.iload_n 1, 1) := by decide +kernel
theorem dX4_survey_34 : decode cX4_survey 34 = .ok (.aload_n 0, 1) := by decide +kernel
theorem dX4_survey_35 : decode cX4_survey 35 = .ok (.getfield 34, 3) := by decide +kernel
theorem dX4_survey_38 : decode cX4_survey 38 = .ok (.getfield 38, 3) := by decide +kernel
theorem dX4_survey_41 : decode cX4_survey 41 = .ok (.if_icmp .ge 34, 3) := by decide +kernel
theorem dX4_survey_44 : decode cX4_survey 44 = .ok (.aload_n 0, 1) := by decide +kernel
theorem dX4_survey_45 : decode cX4_survey 45 = .ok (.getfield 21, 3) := by decide +kernel
theorem dX4_survey_48 : decode cX4_survey 48 = .ok (.iload_n 1, 1) := by decide +kernel
theorem dX4_survey_49 : decode cX4_survey 49 = .ok (.iaload, 1) := by decide +kernel
theorem dX4_survey_50 : decode cX4_survey 50 = .ok (.iconst (-1), 1) := by decide +kernel
theorem dX4_survey_51 : decode cX4_survey 51 = .ok (.if_icmp .ne 18, 3) := by decide +kernel
theorem dX4_survey_54 : decode cX4_survey 54 = .ok (.aload_n 0, 1) := by decide +kernel
theorem dX4_survey_55 : decode cX4_survey 55 = .ok (.iload_n 1, 1) := by decide +kernel
theorem dX4_survey_56 : decode cX4_survey 56 = .ok (.invokevirtual 43, 3) := by decide +kernel
theorem dX4_survey_59 : decode cX4_survey 59 = .ok (.aload_n 0, 1) := by decide +kernel
theorem dX4_survey_60 : decode cX4_survey 60 = .ok (.dup, 1) := by decide +kernel
theorem dX4_survey_61 : decode cX4_survey 61 = .ok (.getfield 31, 3) := by decide +kernel
theorem dX4_survey_64 : decode cX4_survey 64 = .ok (.iconst 1, 1) := by decide +kernel
theorem dX4_survey_65 : decode cX4_survey 65 = .ok (.iadd, 1) := by decide +kernel
theorem dX4_survey_66 : decode cX4_survey 66 = .ok (.putfield 31, 3) := by decide +kernel
theorem dX4_survey_69 : decode cX4_survey 69 = .ok (.iinc 1 1, 3) := by decide +kernel
theorem dX4_survey_72 : decode cX4_survey 72 = .ok (.goto (-39), 3) := by decide +kernel
theorem dX4_survey_75 : decode cX4_survey 75 = .ok (.return_, 1) := by decide +kernel
theorem dX4_growFrom_0 : decode cX4_growFrom 0 = .ok (.aload_n 0, 1) := by decide +kernel
theorem dX4_growFrom_1 : decode cX4_growFrom 1 = .ok (.iconst 0, 1) := by decide +kernel
theorem dX4_growFrom_2 : decode cX4_growFrom 2 = .ok (.putfield 27, 3) := by decide +kernel
theorem dX4_growFrom_5 : decode cX4_growFrom 5 = .ok (.aload_n 0, 1) := by decide +kernel
theorem dX4_growFrom_6 : decode cX4_growFrom 6 = .ok (.iload_n 1, 1) := by decide +kernel
theorem dX4_growFrom_7 : decode cX4_growFrom 7 = .ok (.iconst (-1), 1) := by decide +kernel
theorem dX4_growFrom_8 : decode cX4_growFrom 8 = .ok (.iconst (-1), 1) := by decide +kernel
theorem dX4_growFrom_9 : decode cX4_growFrom 9 = .ok (.iconst 0, 1) := by decide +kernel
theorem dX4_growFrom_10 : decode cX4_growFrom 10 = .ok (.invokevirtual 47, 3) := by decide +kernel
theorem dX4_growFrom_13 : decode cX4_growFrom 13 = .ok (.iconst 0, 1) := by decide +kernel
theorem dX4_growFrom_14 : decode cX4_growFrom 14 = .ok (.istore_n 2, 1) := by decide +kernel
theorem dX4_growFrom_15 : decode cX4_growFrom 15 = .ok (.iload_n 2, 1) := by decide +kernel
theorem dX4_growFrom_16 : decode cX4_growFrom 16 = .ok (.aload_n 0, 1) := by decide +kernel
theorem dX4_growFrom_17 : decode cX4_growFrom 17 = .ok (.getfield 27, 3) := by decide +kernel
theorem dX4_growFrom_20 : decode cX4_growFrom 20 = .ok (.if_icmp .ge 25, 3) := by decide +kernel
theorem dX4_growFrom_23 : decode cX4_growFrom 23 = .ok (.iload_n 2, 1) := by decide +kernel
theorem dX4_growFrom_24 : decode cX4_growFrom 24 = .ok (.bipush 30, 2) := by decide +kernel
theorem dX4_growFrom_26 : decode cX4_growFrom 26 = .ok (.if_icmp .ge 19, 3) := by decide +kernel
theorem dX4_growFrom_29 : decode cX4_growFrom 29 = .ok (.aload_n 0, 1) := by decide +kernel
theorem dX4_growFrom_30 : decode cX4_growFrom 30 = .ok (.aload_n 0, 1) := by decide +kernel
theorem dX4_growFrom_31 : decode cX4_growFrom 31 = .ok (.getfield 24, 3) := by decide +kernel
theorem dX4_growFrom_34 : decode cX4_growFrom 34 = .ok (.iload_n 2, 1) := by decide +kernel
theorem dX4_growFrom_35 : decode cX4_growFrom 35 = .ok (.iaload, 1) := by decide +kernel
theorem dX4_growFrom_36 : decode cX4_growFrom 36 = .ok (.invokevirtual 51, 3) := by decide +kernel
theorem dX4_growFrom_39 : decode cX4_growFrom 39 = .ok (.iinc 2 1, 3) := by decide +kernel
theorem dX4_growFrom_42 : decode cX4_growFrom 42 = .ok (.goto (-27), 3) := by decide +kernel
theorem dX4_growFrom_45 : decode cX4_growFrom 45 = .ok (.return_, 1) := by decide +kernel
theorem dX4_reachNeighbours_0 : decode cX4_reachNeighbours 0 = .ok (.aload_n 0, 1) := by decide +kernel
theorem dX4_reachNeighbours_1 : decode cX4_reachNeighbours 1 = .ok (.getfield 34, 3) := by decide +kernel
theorem dX4_reachNeighbours_4 : decode cX4_reachNeighbours 4 = .ok (.getfield 54, 3) := by decide +kernel
theorem dX4_reachNeighbours_7 : decode cX4_reachNeighbours 7 = .ok (.iload_n 1, 1) := by decide +kernel
theorem dX4_reachNeighbours_8 : decode cX4_reachNeighbours 8 = .ok (.iaload, 1) := by decide +kernel
theorem dX4_reachNeighbours_9 : decode cX4_reachNeighbours 9 = .ok (.istore_n 2, 1) := by decide +kernel
theorem dX4_reachNeighbours_10 : decode cX4_reachNeighbours 10 = .ok (.iconst 0, 1) := by decide +kernel
theorem dX4_reachNeighbours_11 : decode cX4_reachNeighbours 11 = .ok (.istore_n 3, 1) := by decide +kernel
theorem dX4_reachNeighbours_12 : decode cX4_reachNeighbours 12 = .ok (.iload_n 3, 1) := by decide +kernel
theorem dX4_reachNeighbours_13 : decode cX4_reachNeighbours 13 = .ok (.aload_n 0, 1) := by decide +kernel
theorem dX4_reachNeighbours_14 : decode cX4_reachNeighbours 14 = .ok (.getfield 34, 3) := by decide +kernel
theorem dX4_reachNeighbours_17 : decode cX4_reachNeighbours 17 = .ok (.getfield 57, 3) := by decide +kernel
theorem dX4_reachNeighbours_20 : decode cX4_reachNeighbours 20 = .ok (.iload_n 1, 1) := by decide +kernel
theorem dX4_reachNeighbours_21 : decode cX4_reachNeighbours 21 = .ok (.iaload, 1) := by decide +kernel
theorem dX4_reachNeighbours_22 : decode cX4_reachNeighbours 22 = .ok (.if_icmp .ge 58, 3) := by decide +kernel
theorem dX4_reachNeighbours_25 : decode cX4_reachNeighbours 25 = .ok (.aload_n 0, 1) := by decide +kernel
theorem dX4_reachNeighbours_26 : decode cX4_reachNeighbours 26 = .ok (.getfield 34, 3) := by decide +kernel
theorem dX4_reachNeighbours_29 : decode cX4_reachNeighbours 29 = .ok (.iload_n 2, 1) := by decide +kernel
theorem dX4_reachNeighbours_30 : decode cX4_reachNeighbours 30 = .ok (.invokevirtual 60, 3) := by decide +kernel
theorem dX4_reachNeighbours_33 : decode cX4_reachNeighbours 33 = .ok (.istore 4, 2) := by decide +kernel
theorem dX4_reachNeighbours_35 : decode cX4_reachNeighbours 35 = .ok (.aload_n 0, 1) := by decide +kernel
theorem dX4_reachNeighbours_36 : decode cX4_reachNeighbours 36 = .ok (.getfield 21, 3) := by decide +kernel
theorem dX4_reachNeighbours_39 : decode cX4_reachNeighbours 39 = .ok (.iload 4, 2) := by decide +kernel
theorem dX4_reachNeighbours_41 : decode cX4_reachNeighbours 41 = .ok (.iaload, 1) := by decide +kernel
theorem dX4_reachNeighbours_42 : decode cX4_reachNeighbours 42 = .ok (.iconst (-1), 1) := by decide +kernel
theorem dX4_reachNeighbours_43 : decode cX4_reachNeighbours 43 = .ok (.if_icmp .ne 21, 3) := by decide +kernel
theorem dX4_reachNeighbours_46 : decode cX4_reachNeighbours 46 = .ok (.aload_n 0, 1) := by decide +kernel
theorem dX4_reachNeighbours_47 : decode cX4_reachNeighbours 47 = .ok (.iload 4, 2) := by decide +kernel
theorem dX4_reachNeighbours_49 : decode cX4_reachNeighbours 49 = .ok (.iload_n 1, 1) := by decide +kernel
theorem dX4_reachNeighbours_50 : decode cX4_reachNeighbours 50 = .ok (.iload_n 2, 1) := by decide +kernel
theorem dX4_reachNeighbours_51 : decode cX4_reachNeighbours 51 = .ok (.iconst 2, 1) := by decide +kernel
theorem dX4_reachNeighbours_52 : decode cX4_reachNeighbours 52 = .ok (.idiv, 1) := by decide +kernel
theorem dX4_reachNeighbours_53 : decode cX4_reachNeighbours 53 = .ok (.aload_n 0, 1) := by decide +kernel
theorem dX4_reachNeighbours_54 : decode cX4_reachNeighbours 54 = .ok (.getfield 18, 3) := by decide +kernel
theorem dX4_reachNeighbours_57 : decode cX4_reachNeighbours 57 = .ok (.iload_n 1, 1) := by decide +kernel
theorem dX4_reachNeighbours_58 : decode cX4_reachNeighbours 58 = .ok (.iaload, 1) := by decide +kernel
theorem dX4_reachNeighbours_59 : decode cX4_reachNeighbours 59 = .ok (.iconst 1, 1) := by decide +kernel
theorem dX4_reachNeighbours_60 : decode cX4_reachNeighbours 60 = .ok (.iadd, 1) := by decide +kernel
theorem dX4_reachNeighbours_61 : decode cX4_reachNeighbours 61 = .ok (.invokevirtual 47, 3) := by decide +kernel
theorem dX4_reachNeighbours_64 : decode cX4_reachNeighbours 64 = .ok (.aload_n 0, 1) := by decide +kernel
theorem dX4_reachNeighbours_65 : decode cX4_reachNeighbours 65 = .ok (.getfield 34, 3) := by decide +kernel
theorem dX4_reachNeighbours_68 : decode cX4_reachNeighbours 68 = .ok (.getfield 64, 3) := by decide +kernel
theorem dX4_reachNeighbours_71 : decode cX4_reachNeighbours 71 = .ok (.iload_n 2, 1) := by decide +kernel
theorem dX4_reachNeighbours_72 : decode cX4_reachNeighbours 72 = .ok (.iaload, 1) := by decide +kernel
theorem dX4_reachNeighbours_73 : decode cX4_reachNeighbours 73 = .ok (.istore_n 2, 1) := by decide +kernel
theorem dX4_reachNeighbours_74 : decode cX4_reachNeighbours 74 = .ok (.iinc 3 1, 3) := by decide +kernel
theorem dX4_reachNeighbours_77 : decode cX4_reachNeighbours 77 = .ok (.goto (-65), 3) := by decide +kernel
theorem dX4_reachNeighbours_80 : decode cX4_reachNeighbours 80 = .ok (.return_, 1) := by decide +kernel
theorem dX4_reach_0 : decode cX4_reach 0 = .ok (.aload_n 0, 1) := by decide +kernel
theorem dX4_reach_1 : decode cX4_reach 1 = .ok (.getfield 9, 3) := by decide +kernel
theorem dX4_reach_4 : decode cX4_reach 4 = .ok (.iload_n 1, 1) := by decide +kernel
theorem dX4_reach_5 : decode cX4_reach 5 = .ok (.iload_n 2, 1) := by decide +kernel
theorem dX4_reach_6 : decode cX4_reach 6 = .ok (.iastore, 1) := by decide +kernel
theorem dX4_reach_7 : decode cX4_reach 7 = .ok (.aload_n 0, 1) := by decide +kernel
theorem dX4_reach_8 : decode cX4_reach 8 = .ok (.getfield 15, 3) := by decide +kernel
theorem dX4_reach_11 : decode cX4_reach 11 = .ok (.iload_n 1, 1) := by decide +kernel
theorem dX4_reach_12 : decode cX4_reach 12 = .ok (.iload_n 3, 1) := by decide +kernel
theorem dX4_reach_13 : decode cX4_reach 13 = .ok (.iastore, 1) := by decide +kernel
theorem dX4_reach_14 : decode cX4_reach 14 = .ok (.aload_n 0, 1) := by decide +kernel
theorem dX4_reach_15 : decode cX4_reach 15 = .ok (.getfield 18, 3) := by decide +kernel
theorem dX4_reach_18 : decode cX4_reach 18 = .ok (.iload_n 1, 1) := by decide +kernel
theorem dX4_reach_19 : decode cX4_reach 19 = .ok (.iload 4, 2) := by decide +kernel
theorem dX4_reach_21 : decode cX4_reach 21 = .ok (.iastore, 1) := by decide +kernel
theorem dX4_reach_22 : decode cX4_reach 22 = .ok (.aload_n 0, 1) := by decide +kernel
theorem dX4_reach_23 : decode cX4_reach 23 = .ok (.getfield 21, 3) := by decide +kernel
theorem dX4_reach_26 : decode cX4_reach 26 = .ok (.iload_n 1, 1) := by decide +kernel
theorem dX4_reach_27 : decode cX4_reach 27 = .ok (.aload_n 0, 1) := by decide +kernel
theorem dX4_reach_28 : decode cX4_reach 28 = .ok (.getfield 31, 3) := by decide +kernel
theorem dX4_reach_31 : decode cX4_reach 31 = .ok (.iastore, 1) := by decide +kernel
theorem dX4_reach_32 : decode cX4_reach 32 = .ok (.aload_n 0, 1) := by decide +kernel
theorem dX4_reach_33 : decode cX4_reach 33 = .ok (.getfield 24, 3) := by decide +kernel
theorem dX4_reach_36 : decode cX4_reach 36 = .ok (.aload_n 0, 1) := by decide +kernel
theorem dX4_reach_37 : decode cX4_reach 37 = .ok (.getfield 27, 3) := by decide +kernel
theorem dX4_reach_40 : decode cX4_reach 40 = .ok (.iload_n 1, 1) := by decide +kernel
theorem dX4_reach_41 : decode cX4_reach 41 = .ok (.iastore, 1) := by decide +kernel
theorem dX4_reach_42 : decode cX4_reach 42 = .ok (.aload_n 0, 1) := by decide +kernel
theorem dX4_reach_43 : decode cX4_reach 43 = .ok (.dup, 1) := by decide +kernel
theorem dX4_reach_44 : decode cX4_reach 44 = .ok (.getfield 27, 3) := by decide +kernel
theorem dX4_reach_47 : decode cX4_reach 47 = .ok (.iconst 1, 1) := by decide +kernel
theorem dX4_reach_48 : decode cX4_reach 48 = .ok (.iadd, 1) := by decide +kernel
theorem dX4_reach_49 : decode cX4_reach 49 = .ok (.putfield 27, 3) := by decide +kernel
theorem dX4_reach_52 : decode cX4_reach 52 = .ok (.return_, 1) := by decide +kernel
theorem dX4_holds_0 : decode cX4_holds 0 = .ok (.aload_n 0, 1) := by decide +kernel
theorem dX4_holds_1 : decode cX4_holds 1 = .ok (.getfield 15, 3) := by decide +kernel
theorem dX4_holds_4 : decode cX4_holds 4 = .ok (.aload_n 0, 1) := by decide +kernel
theorem dX4_holds_5 : decode cX4_holds 5 = .ok (.getfield 34, 3) := by decide +kernel
theorem dX4_holds_8 : decode cX4_holds 8 = .ok (.getfield 67, 3) := by decide +kernel
theorem dX4_holds_11 : decode cX4_holds 11 = .ok (.iconst 2, 1) := by decide +kernel
theorem dX4_holds_12 : decode cX4_holds 12 = .ok (.iload_n 1, 1) := by decide +kernel
theorem dX4_holds_13 : decode cX4_holds 13 = .ok (.imul, 1) := by decide +kernel
theorem dX4_holds_14 : decode cX4_holds 14 = .ok (.iaload, 1) := by decide +kernel
theorem dX4_holds_15 : decode cX4_holds 15 = .ok (.iaload, 1) := by decide +kernel
theorem dX4_holds_16 : decode cX4_holds 16 = .ok (.iload_n 1, 1) := by decide +kernel
theorem dX4_holds_17 : decode cX4_holds 17 = .ok (.if_icmp .eq 25, 3) := by decide +kernel
theorem dX4_holds_20 : decode cX4_holds 20 = .ok (.aload_n 0, 1) := by decide +kernel
theorem dX4_holds_21 : decode cX4_holds 21 = .ok (.getfield 15, 3) := by decide +kernel
theorem dX4_holds_24 : decode cX4_holds 24 = .ok (.aload_n 0, 1) := by decide +kernel
theorem dX4_holds_25 : decode cX4_holds 25 = .ok (.getfield 34, 3) := by decide +kernel
theorem dX4_holds_28 : decode cX4_holds 28 = .ok (.getfield 67, 3) := by decide +kernel
theorem dX4_holds_31 : decode cX4_holds 31 = .ok (.iconst 2, 1) := by decide +kernel
theorem dX4_holds_32 : decode cX4_holds 32 = .ok (.iload_n 1, 1) := by decide +kernel
theorem dX4_holds_33 : decode cX4_holds 33 = .ok (.imul, 1) := by decide +kernel
theorem dX4_holds_34 : decode cX4_holds 34 = .ok (.iconst 1, 1) := by decide +kernel
theorem dX4_holds_35 : decode cX4_holds 35 = .ok (.iadd, 1) := by decide +kernel
theorem dX4_holds_36 : decode cX4_holds 36 = .ok (.iaload, 1) := by decide +kernel
theorem dX4_holds_37 : decode cX4_holds 37 = .ok (.iaload, 1) := by decide +kernel
theorem dX4_holds_38 : decode cX4_holds 38 = .ok (.iload_n 1, 1) := by decide +kernel
theorem dX4_holds_39 : decode cX4_holds 39 = .ok (.if_icmp .ne 7, 3) := by decide +kernel
theorem dX4_holds_42 : decode cX4_holds 42 = .ok (.iconst 1, 1) := by decide +kernel
theorem dX4_holds_43 : decode cX4_holds 43 = .ok (.goto 4, 3) := by decide +kernel
theorem dX4_holds_46 : decode cX4_holds 46 = .ok (.iconst 0, 1) := by decide +kernel
theorem dX4_holds_47 : decode cX4_holds 47 = .ok (.ireturn, 1) := by decide +kernel
theorem dX5_init_0 : decode cX5_init 0 = .ok (.aload_n 0, 1) := by decide +kernel
theorem dX5_init_1 : decode cX5_init 1 = .ok (.invokespecial 3, 3) := by decide +kernel
theorem dX5_init_4 : decode cX5_init 4 = .ok (.aload_n 0, 1) := by decide +kernel
theorem dX5_init_5 : decode cX5_init 5 = .ok (.new 9, 3) := by decide +kernel
theorem dX5_init_8 : decode cX5_init 8 = .ok (.dup, 1) := by decide +kernel
theorem dX5_init_9 : decode cX5_init 9 = .ok (.invokespecial 11, 3) := by decide +kernel
theorem dX5_init_12 : decode cX5_init 12 = .ok (.putfield 12, 3) := by decide +kernel
theorem dX5_init_15 : decode cX5_init 15 = .ok (.aload_n 0, 1) := by decide +kernel
theorem dX5_init_16 : decode cX5_init 16 = .ok (.new 16, 3) := by decide +kernel
theorem dX5_init_19 : decode cX5_init 19 = .ok (.dup, 1) := by decide +kernel
theorem dX5_init_20 : decode cX5_init 20 = .ok (.aload_n 0, 1) := by decide +kernel
theorem dX5_init_21 : decode cX5_init 21 = .ok (.getfield 12, 3) := by decide +kernel
theorem dX5_init_24 : decode cX5_init 24 = .ok (.invokespecial 18, 3) := by decide +kernel
theorem dX5_init_27 : decode cX5_init 27 = .ok (.putfield 21, 3) := by decide +kernel
theorem dX5_init_30 : decode cX5_init 30 = .ok (.aload_n 0, 1) := by decide +kernel
theorem dX5_init_31 : decode cX5_init 31 = .ok (.new 25, 3) := by decide +kernel
theorem dX5_init_34 : decode cX5_init 34 = .ok (.dup, 1) := by decide +kernel
theorem dX5_init_35 : decode cX5_init 35 = .ok (.aload_n 0, 1) := by decide +kernel
theorem dX5_init_36 : decode cX5_init 36 = .ok (.getfield 12, 3) := by decide +kernel
theorem dX5_init_39 : decode cX5_init 39 = .ok (.invokespecial 27, 3) := by decide +kernel
theorem dX5_init_42 : decode cX5_init 42 = .ok (.putfield 28, 3) := by decide +kernel
theorem dX5_init_45 : decode cX5_init 45 = .ok (.aload_n 0, 1) := by decide +kernel
theorem dX5_init_46 : decode cX5_init 46 = .ok (.new 32, 3) := by decide +kernel
theorem dX5_init_49 : decode cX5_init 49 = .ok (.dup, 1) := by decide +kernel
theorem dX5_init_50 : decode cX5_init 50 = .ok (.aload_n 0, 1) := by decide +kernel
theorem dX5_init_51 : decode cX5_init 51 = .ok (.getfield 12, 3) := by decide +kernel
theorem dX5_init_54 : decode cX5_init 54 = .ok (.invokespecial 34, 3) := by decide +kernel
theorem dX5_init_57 : decode cX5_init 57 = .ok (.putfield 35, 3) := by decide +kernel
theorem dX5_init_60 : decode cX5_init 60 = .ok (.aload_n 0, 1) := by decide +kernel
theorem dX5_init_61 : decode cX5_init 61 = .ok (.new 39, 3) := by decide +kernel
theorem dX5_init_64 : decode cX5_init 64 = .ok (.dup, 1) := by decide +kernel
theorem dX5_init_65 : decode cX5_init 65 = .ok (.aload_n 0, 1) := by decide +kernel
theorem dX5_init_66 : decode cX5_init 66 = .ok (.getfield 12, 3) := by decide +kernel
theorem dX5_init_69 : decode cX5_init 69 = .ok (.aload_n 0, 1) := by decide +kernel
theorem dX5_init_70 : decode cX5_init 70 = .ok (.getfield 21, 3) := by decide +kernel
theorem dX5_init_73 : decode cX5_init 73 = .ok (.aload_n 0, 1) := by decide +kernel
theorem dX5_init_74 : decode cX5_init 74 = .ok (.getfield 28, 3) := by decide +kernel
theorem dX5_init_77 : decode cX5_init 77 = .ok (.invokespecial 41, 3) := by decide +kernel
theorem dX5_init_80 : decode cX5_init 80 = .ok (.putfield 44, 3) := by decide +kernel
theorem dX5_init_83 : decode cX5_init 83 = .ok (.return_, 1) := by decide +kernel
theorem dX5_vertex_0 : decode cX5_vertex 0 = .ok (.aload_n 0, 1) := by decide +kernel
theorem dX5_vertex_1 : decode cX5_vertex 1 = .ok (.getfield 12, 3) := by decide +kernel
theorem dX5_vertex_4 : decode cX5_vertex 4 = .ok (.getfield 48, 3) := by decide +kernel
theorem dX5_vertex_7 : decode cX5_vertex 7 = .ok (.bipush 30, 2) := by decide +kernel
theorem dX5_vertex_9 : decode cX5_vertex 9 = .ok (.if_icmp .lt 13, 3) := by decide +kernel
theorem dX5_vertex_12 : decode cX5_vertex 12 = .ok (.new 52, 3) := by decide +kernel
theorem dX5_vertex_15 : decode cX5_vertex 15 = .ok (.dup, 1) := by decide +kernel
theorem dX5_vertex_16 : decode cX5_vertex 16 = .ok (.ldc 54, 2) := by decide +kernel
theorem dX5_vertex_18 : decode cX5_vertex 18 = .ok (.invokespecial 56, 3) := by decide +kernel
theorem dX5_vertex_21 : decode cX5_vertex 21 = .ok (.athrow, 1) := by decide +kernel
theorem dX5_vertex_22 : decode cX5_vertex 22 = .ok (.aload_n 0, 1) := by decide +kernel
theorem dX5_vertex_23 : decode cX5_vertex 23 = .ok (.getfield 12, 3) := by decide +kernel
theorem dX5_vertex_26 : decode cX5_vertex 26 = .ok (.invokevirtual 59, 3) := by decide +kernel
theorem dX5_vertex_29 : decode cX5_vertex 29 = .ok (.istore_n 1, 1) := by decide +kernel
theorem dX5_vertex_30 : decode cX5_vertex 30 = .ok (.aload_n 0, 1) := by decide +kernel
theorem dX5_vertex_31 : decode cX5_vertex 31 = .ok (.getfield 35, 3) := by decide +kernel
theorem dX5_vertex_34 : decode cX5_vertex 34 = .ok (.getfield 63, 3) := by decide +kernel
theorem dX5_vertex_37 : decode cX5_vertex 37 = .ok (.iload_n 1, 1) := by decide +kernel
theorem dX5_vertex_38 : decode cX5_vertex 38 = .ok (.iconst 0, 1) := by decide +kernel
theorem dX5_vertex_39 : decode cX5_vertex 39 = .ok (.iastore, 1) := by decide +kernel
theorem dX5_vertex_40 : decode cX5_vertex 40 = .ok (.aload_n 0, 1) := by decide +kernel
theorem dX5_vertex_41 : decode cX5_vertex 41 = .ok (.invokevirtual 67, 3) := by decide +kernel
theorem dX5_vertex_44 : decode cX5_vertex 44 = .ok (.iload_n 1, 1) := by decide +kernel
theorem dX5_vertex_45 : decode cX5_vertex 45 = .ok (.ireturn, 1) := by decide +kernel
theorem dX5_edge_0 : decode cX5_edge 0 = .ok (.aload_n 0, 1) := by decide +kernel
theorem dX5_edge_1 : decode cX5_edge 1 = .ok (.iload_n 1, 1) := by decide +kernel
theorem dX5_edge_2 : decode cX5_edge 2 = .ok (.invokevirtual 70, 3) := by decide +kernel
theorem dX5_edge_5 : decode cX5_edge 5 = .ok (.aload_n 0, 1) := by decide +kernel
theorem dX5_edge_6 : decode cX5_edge 6 = .ok (.iload_n 2, 1) := by decide +kernel
theorem dX5_edge_7 : decode cX5_edge 7 = .ok (.invokevirtual 70, 3) := by decide +kernel
theorem dX5_edge_10 : decode cX5_edge 10 = .ok (.aload_n 0, 1) := by decide +kernel
theorem dX5_edge_11 : decode cX5_edge 11 = .ok (.iload_n 3, 1) := by decide +kernel
theorem dX5_edge_12 : decode cX5_edge 12 = .ok (.invokevirtual 74, 3) := by decide +kernel
theorem dX5_edge_15 : decode cX5_edge 15 = .ok (.aload_n 0, 1) := by decide +kernel
theorem dX5_edge_16 : decode cX5_edge 16 = .ok (.iload 4, 2) := by decide +kernel
theorem dX5_edge_18 : decode cX5_edge 18 = .ok (.invokevirtual 74, 3) := by decide +kernel
theorem dX5_edge_21 : decode cX5_edge 21 = .ok (.iload_n 1, 1) := by decide +kernel
theorem dX5_edge_22 : decode cX5_edge 22 = .ok (.iload_n 2, 1) := by decide +kernel
theorem dX5_edge_23 : decode cX5_edge 23 = .ok (.if_icmp .eq 15, 3) := by decide +kernel
theorem dX5_edge_26 : decode cX5_edge 26 = .ok (.aload_n 0, 1) := by decide +kernel
theorem dX5_edge_27 : decode cX5_edge 27 = .ok (.getfield 12, 3) := by decide +kernel
theorem dX5_edge_30 : decode cX5_edge 30 = .ok (.iload_n 1, 1) := by decide +kernel
theorem dX5_edge_31 : decode cX5_edge 31 = .ok (.iload_n 2, 1) := by decide +kernel
theorem dX5_edge_32 : decode cX5_edge 32 = .ok (.invokevirtual 77, 3) := by decide +kernel
theorem dX5_edge_35 : decode cX5_edge 35 = .ok (.ifCond .eq 13, 3) := by decide +kernel
theorem dX5_edge_38 : decode cX5_edge 38 = .ok (.new 81, 3) := by decide +kernel
theorem dX5_edge_41 : decode cX5_edge 41 = .ok (.dup, 1) := by decide +kernel
theorem dX5_edge_42 : decode cX5_edge 42 = .ok (.ldc 83, 2) := by decide +kernel
theorem dX5_edge_44 : decode cX5_edge 44 = .ok (.invokespecial 85, 3) := by decide +kernel
theorem dX5_edge_47 : decode cX5_edge 47 = .ok (.athrow, 1) := by decide +kernel
theorem dX5_edge_48 : decode cX5_edge 48 = .ok (.aload_n 0, 1) := by decide +kernel
theorem dX5_edge_49 : decode cX5_edge 49 = .ok (.getfield 12, 3) := by decide +kernel
theorem dX5_edge_52 : decode cX5_edge 52 = .ok (.iload_n 1, 1) := by decide +kernel
theorem dX5_edge_53 : decode cX5_edge 53 = .ok (.iload_n 3, 1) := by decide +kernel
theorem dX5_edge_54 : decode cX5_edge 54 = .ok (.invokevirtual 86, 3) := by decide +kernel
theorem dX5_edge_57 : decode cX5_edge 57 = .ok (.ifCond .eq 16, 3) := by decide +kernel
theorem dX5_edge_60 : decode cX5_edge 60 = .ok (.aload_n 0, 1) := by decide +kernel
theorem dX5_edge_61 : decode cX5_edge 61 = .ok (.getfield 12, 3) := by decide +kernel
theorem dX5_edge_64 : decode cX5_edge 64 = .ok (.iload_n 2, 1) := by decide +kernel
theorem dX5_edge_65 : decode cX5_edge 65 = .ok (.iload 4, 2) := by decide +kernel
theorem dX5_edge_67 : decode cX5_edge 67 = .ok (.invokevirtual 86, 3) := by decide +kernel
theorem dX5_edge_70 : decode cX5_edge 70 = .ok (.ifCond .ne 13, 3) := by decide +kernel
theorem dX5_edge_73 : decode cX5_edge 73 = .ok (.new 81, 3) := by decide +kernel
theorem dX5_edge_76 : decode cX5_edge 76 = .ok (.dup, 1) := by decide +kernel
theorem dX5_edge_77 : decode cX5_edge 77 = .ok (.ldc 89, 2) := by decide +kernel
theorem dX5_edge_79 : decode cX5_edge 79 = .ok (.invokespecial 85, 3) := by decide +kernel
theorem dX5_edge_82 : decode cX5_edge 82 = .ok (.athrow, 1) := by decide +kernel
theorem dX5_edge_83 : decode cX5_edge 83 = .ok (.aload_n 0, 1) := by decide +kernel
theorem dX5_edge_84 : decode cX5_edge 84 = .ok (.getfield 12, 3) := by decide +kernel
theorem dX5_edge_87 : decode cX5_edge 87 = .ok (.getfield 91, 3) := by decide +kernel
theorem dX5_edge_90 : decode cX5_edge 90 = .ok (.bipush 100, 2) := by decide +kernel
theorem dX5_edge_92 : decode cX5_edge 92 = .ok (.if_icmp .lt 13, 3) := by decide +kernel
theorem dX5_edge_95 : decode cX5_edge 95 = .ok (.new 52, 3) := by decide +kernel
theorem dX5_edge_98 : decode cX5_edge 98 = .ok (.dup, 1) := by decide +kernel
theorem dX5_edge_99 : decode cX5_edge 99 = .ok (.ldc 94, 2) := by decide +kernel
theorem dX5_edge_101 : decode cX5_edge 101 = .ok (.invokespecial 56, 3) := by decide +kernel
theorem dX5_edge_104 : decode cX5_edge 104 = .ok (.athrow, 1) := by decide +kernel
theorem dX5_edge_105 : decode cX5_edge 105 = .ok (.aload_n 0, 1) := by decide +kernel
theorem dX5_edge_106 : decode cX5_edge 106 = .ok (.getfield 12, 3) := by decide +kernel
theorem dX5_edge_109 : decode cX5_edge 109 = .ok (.iload_n 1, 1) := by decide +kernel
theorem dX5_edge_110 : decode cX5_edge 110 = .ok (.iload_n 2, 1) := by decide +kernel
theorem dX5_edge_111 : decode cX5_edge 111 = .ok (.iload_n 3, 1) := by decide +kernel
theorem dX5_edge_112 : decode cX5_edge 112 = .ok (.iload 4, 2) := by decide +kernel
theorem dX5_edge_114 : decode cX5_edge 114 = .ok (.invokevirtual 96, 3) := by decide +kernel
theorem dX5_edge_117 : decode cX5_edge 117 = .ok (.istore 5, 2) := by decide +kernel
theorem dX5_edge_119 : decode cX5_edge 119 = .ok (.aload_n 0, 1) := by decide +kernel
theorem dX5_edge_120 : decode cX5_edge 120 = .ok (.getfield 35, 3) := by decide +kernel
theorem dX5_edge_123 : decode cX5_edge 123 = .ok (.invokevirtual 100, 3) := by decide +kernel
theorem dX5_edge_126 : decode cX5_edge 126 = .ok (.aload_n 0, 1) := by decide +kernel
theorem dX5_edge_127 : decode cX5_edge 127 = .ok (.invokevirtual 67, 3) := by decide +kernel
theorem dX5_edge_130 : decode cX5_edge 130 = .ok (.iload 5, 2) := by decide +kernel
theorem dX5_edge_132 : decode cX5_edge 132 = .ok (.ireturn, 1) := by decide +kernel
theorem dX5_remove_0 : decode cX5_remove 0 = .ok (.aload_n 0, 1) := by decide +kernel
theorem dX5_remove_1 : decode cX5_remove 1 = .ok (.iload_n 1, 1) := by decide +kernel
theorem dX5_remove_2 : decode cX5_remove 2 = .ok (.invokevirtual 103, 3) := by decide +kernel
theorem dX5_remove_5 : decode cX5_remove 5 = .ok (.aload_n 0, 1) := by decide +kernel
theorem dX5_remove_6 : decode cX5_remove 6 = .ok (.getfield 12, 3) := by decide +kernel
theorem dX5_remove_9 : decode cX5_remove 9 = .ok (.iload_n 1, 1) := by decide +kernel
theorem dX5_remove_10 : decode cX5_remove 10 = .ok (.invokevirtual 106, 3) := by decide +kernel
theorem dX5_remove_13 : decode cX5_remove 13 = .ok (.aload_n 0, 1) := by decide +kernel
theorem dX5_remove_14 : decode cX5_remove 14 = .ok (.getfield 35, 3) := by decide +kernel
theorem dX5_remove_17 : decode cX5_remove 17 = .ok (.invokevirtual 100, 3) := by decide +kernel
theorem dX5_remove_20 : decode cX5_remove 20 = .ok (.aload_n 0, 1) := by decide +kernel
theorem dX5_remove_21 : decode cX5_remove 21 = .ok (.invokevirtual 67, 3) := by decide +kernel
theorem dX5_remove_24 : decode cX5_remove 24 = .ok (.aload_n 0, 1) := by decide +kernel
theorem dX5_remove_25 : decode cX5_remove 25 = .ok (.getfield 12, 3) := by decide +kernel
theorem dX5_remove_28 : decode cX5_remove 28 = .ok (.getfield 109, 3) := by decide +kernel
theorem dX5_remove_31 : decode cX5_remove 31 = .ok (.ireturn, 1) := by decide +kernel
theorem dX5_degree_0 : decode cX5_degree 0 = .ok (.aload_n 0, 1) := by decide +kernel
theorem dX5_degree_1 : decode cX5_degree 1 = .ok (.iload_n 1, 1) := by decide +kernel
theorem dX5_degree_2 : decode cX5_degree 2 = .ok (.invokevirtual 70, 3) := by decide +kernel
theorem dX5_degree_5 : decode cX5_degree 5 = .ok (.aload_n 0, 1) := by decide +kernel
theorem dX5_degree_6 : decode cX5_degree 6 = .ok (.getfield 12, 3) := by decide +kernel
theorem dX5_degree_9 : decode cX5_degree 9 = .ok (.getfield 112, 3) := by decide +kernel
theorem dX5_degree_12 : decode cX5_degree 12 = .ok (.iload_n 1, 1) := by decide +kernel
theorem dX5_degree_13 : decode cX5_degree 13 = .ok (.iaload, 1) := by decide +kernel
theorem dX5_degree_14 : decode cX5_degree 14 = .ok (.ireturn, 1) := by decide +kernel
theorem dX5_round_0 : decode cX5_round 0 = .ok (.aload_n 0, 1) := by decide +kernel
theorem dX5_round_1 : decode cX5_round 1 = .ok (.iload_n 1, 1) := by decide +kernel
theorem dX5_round_2 : decode cX5_round 2 = .ok (.invokevirtual 70, 3) := by decide +kernel
theorem dX5_round_5 : decode cX5_round 5 = .ok (.iload_n 2, 1) := by decide +kernel
theorem dX5_round_6 : decode cX5_round 6 = .ok (.ifCond .lt 16, 3) := by decide +kernel
theorem dX5_round_9 : decode cX5_round 9 = .ok (.iload_n 2, 1) := by decide +kernel
theorem dX5_round_10 : decode cX5_round 10 = .ok (.aload_n 0, 1) := by decide +kernel
theorem dX5_round_11 : decode cX5_round 11 = .ok (.getfield 12, 3) := by decide +kernel
theorem dX5_round_14 : decode cX5_round 14 = .ok (.getfield 112, 3) := by decide +kernel
theorem dX5_round_17 : decode cX5_round 17 = .ok (.iload_n 1, 1) := by decide +kernel
theorem dX5_round_18 : decode cX5_round 18 = .ok (.iaload, 1) := by decide +kernel
theorem dX5_round_19 : decode cX5_round 19 = .ok (.if_icmp .lt 13, 3) := by decide +kernel
theorem dX5_round_22 : decode cX5_round 22 = .ok (.new 115, 3) := by decide +kernel
theorem dX5_round_25 : decode cX5_round 25 = .ok (.dup, 1) := by decide +kernel
theorem dX5_round_26 : decode cX5_round 26 = .ok (.ldc 117, 2) := by decide +kernel
theorem dX5_round_28 : decode cX5_round 28 = .ok (.invokespecial 119, 3) := by decide +kernel
theorem dX5_round_31 : decode cX5_round 31 = .ok (.athrow, 1) := by decide +kernel
theorem dX5_round_32 : decode cX5_round 32 = .ok (.aload_n 0, 1) := by decide +kernel
theorem dX5_round_33 : decode cX5_round 33 = .ok (.getfield 12, 3) := by decide +kernel
theorem dX5_round_36 : decode cX5_round 36 = .ok (.getfield 120, 3) := by decide +kernel
theorem dX5_round_39 : decode cX5_round 39 = .ok (.iload_n 1, 1) := by decide +kernel
theorem dX5_round_40 : decode cX5_round 40 = .ok (.iaload, 1) := by decide +kernel
theorem dX5_round_41 : decode cX5_round 41 = .ok (.istore_n 3, 1) := by decide +kernel
theorem dX5_round_42 : decode cX5_round 42 = .ok (.iconst 0, 1) := by decide +kernel
theorem dX5_round_43 : decode cX5_round 43 = .ok (.istore 4, 2) := by decide +kernel
theorem dX5_round_45 : decode cX5_round 45 = .ok (.iload 4, 2) := by decide +kernel
theorem dX5_round_47 : decode cX5_round 47 = .ok (.iload_n 2, 1) := by decide +kernel
theorem dX5_round_48 : decode cX5_round 48 = .ok (.if_icmp .ge 19, 3) := by decide +kernel
theorem dX5_round_51 : decode cX5_round 51 = .ok (.aload_n 0, 1) := by decide +kernel
theorem dX5_round_52 : decode cX5_round 52 = .ok (.getfield 12, 3) := by decide +kernel
theorem dX5_round_55 : decode cX5_round 55 = .ok (.getfield 123, 3) := by decide +kernel
theorem dX5_round_58 : decode cX5_round 58 = .ok (.iload_n 3, 1) := by decide +kernel
theorem dX5_round_59 : decode cX5_round 59 = .ok (.iaload, 1) := by decide +kernel
theorem dX5_round_60 : decode cX5_round 60 = .ok (.istore_n 3, 1) := by decide +kernel
theorem dX5_round_61 : decode cX5_round 61 = .ok (.iinc 4 1, 3) := by decide +kernel
theorem dX5_round_64 : decode cX5_round 64 = .ok (.goto (-19), 3) := by decide +kernel
theorem dX5_round_67 : decode cX5_round 67 = .ok (.iload_n 3, 1) := by decide +kernel
theorem dX5_round_68 : decode cX5_round 68 = .ok (.iconst 2, 1) := by decide +kernel
theorem dX5_round_69 : decode cX5_round 69 = .ok (.idiv, 1) := by decide +kernel
theorem dX5_round_70 : decode cX5_round 70 = .ok (.ireturn, 1) := by decide +kernel
theorem dX5_end_0 : decode cX5_end 0 = .ok (.aload_n 0, 1) := by decide +kernel
theorem dX5_end_1 : decode cX5_end 1 = .ok (.iload_n 1, 1) := by decide +kernel
theorem dX5_end_2 : decode cX5_end 2 = .ok (.invokevirtual 103, 3) := by decide +kernel
theorem dX5_end_5 : decode cX5_end 5 = .ok (.aload_n 0, 1) := by decide +kernel
theorem dX5_end_6 : decode cX5_end 6 = .ok (.getfield 12, 3) := by decide +kernel
theorem dX5_end_9 : decode cX5_end 9 = .ok (.getfield 126, 3) := by decide +kernel
theorem dX5_end_12 : decode cX5_end 12 = .ok (.iload_n 2, 1) := by decide +kernel
theorem dX5_end_13 : decode cX5_end 13 = .ok (.ifCond .eq 11, 3) := by decide +kernel
theorem dX5_end_16 : decode cX5_end 16 = .ok (.iconst 2, 1) := by decide +kernel
theorem dX5_end_17 : decode cX5_end 17 = .ok (.iload_n 1, 1) := by decide +kernel
theorem dX5_end_18 : decode cX5_end 18 = .ok (.imul, 1) := by decide +kernel
theorem dX5_end_19 : decode cX5_end 19 = .ok (.iconst 1, 1) := by decide +kernel
theorem dX5_end_20 : decode cX5_end 20 = .ok (.iadd, 1) := by decide +kernel
theorem dX5_end_21 : decode cX5_end 21 = .ok (.goto 6, 3) := by decide +kernel
theorem dX5_end_24 : decode cX5_end 24 = .ok (.iconst 2, 1) := by decide +kernel
theorem dX5_end_25 : decode cX5_end 25 = .ok (.iload_n 1, 1) := by decide +kernel
theorem dX5_end_26 : decode cX5_end 26 = .ok (.imul, 1) := by decide +kernel
theorem dX5_end_27 : decode cX5_end 27 = .ok (.iaload, 1) := by decide +kernel
theorem dX5_end_28 : decode cX5_end 28 = .ok (.ireturn, 1) := by decide +kernel
theorem dX5_faces_0 : decode cX5_faces 0 = .ok (.aload_n 0, 1) := by decide +kernel
theorem dX5_faces_1 : decode cX5_faces 1 = .ok (.getfield 21, 3) := by decide +kernel
theorem dX5_faces_4 : decode cX5_faces 4 = .ok (.getfield 129, 3) := by decide +kernel
theorem dX5_faces_7 : decode cX5_faces 7 = .ok (.ireturn, 1) := by decide +kernel
theorem dX5_sides_0 : decode cX5_sides 0 = .ok (.aload_n 0, 1) := by decide +kernel
theorem dX5_sides_1 : decode cX5_sides 1 = .ok (.iload_n 1, 1) := by decide +kernel
theorem dX5_sides_2 : decode cX5_sides 2 = .ok (.invokevirtual 132, 3) := by decide +kernel
theorem dX5_sides_5 : decode cX5_sides 5 = .ok (.aload_n 0, 1) := by decide +kernel
theorem dX5_sides_6 : decode cX5_sides 6 = .ok (.getfield 21, 3) := by decide +kernel
theorem dX5_sides_9 : decode cX5_sides 9 = .ok (.getfield 135, 3) := by decide +kernel
theorem dX5_sides_12 : decode cX5_sides 12 = .ok (.iload_n 1, 1) := by decide +kernel
theorem dX5_sides_13 : decode cX5_sides 13 = .ok (.iaload, 1) := by decide +kernel
theorem dX5_sides_14 : decode cX5_sides 14 = .ok (.ireturn, 1) := by decide +kernel
theorem dX5_from_0 : decode cX5_from 0 = .ok (.aload_n 0, 1) := by decide +kernel
theorem dX5_from_1 : decode cX5_from 1 = .ok (.iload_n 1, 1) := by decide +kernel
theorem dX5_from_2 : decode cX5_from 2 = .ok (.invokevirtual 132, 3) := by decide +kernel
theorem dX5_from_5 : decode cX5_from 5 = .ok (.iload_n 2, 1) := by decide +kernel
theorem dX5_from_6 : decode cX5_from 6 = .ok (.ifCond .lt 16, 3) := by decide +kernel
theorem dX5_from_9 : decode cX5_from 9 = .ok (.iload_n 2, 1) := by decide +kernel
theorem dX5_from_10 : decode cX5_from 10 = .ok (.aload_n 0, 1) := by decide +kernel
theorem dX5_from_11 : decode cX5_from 11 = .ok (.getfield 21, 3) := by decide +kernel
theorem dX5_from_14 : decode cX5_from 14 = .ok (.getfield 135, 3) := by decide +kernel
theorem dX5_from_17 : decode cX5_from 17 = .ok (.iload_n 1, 1) := by decide +kernel
theorem dX5_from_18 : decode cX5_from 18 = .ok (.iaload, 1) := by decide +kernel
theorem dX5_from_19 : decode cX5_from 19 = .ok (.if_icmp .lt 13, 3) := by decide +kernel
theorem dX5_from_22 : decode cX5_from 22 = .ok (.new 115, 3) := by decide +kernel
theorem dX5_from_25 : decode cX5_from 25 = .ok (.dup, 1) := by decide +kernel
theorem dX5_from_26 : decode cX5_from 26 = .ok (.ldc 138, 2) := by decide +kernel
theorem dX5_from_28 : decode cX5_from 28 = .ok (.invokespecial 119, 3) := by decide +kernel
theorem dX5_from_31 : decode cX5_from 31 = .ok (.athrow, 1) := by decide +kernel
theorem dX5_from_32 : decode cX5_from 32 = .ok (.aload_n 0, 1) := by decide +kernel
theorem dX5_from_33 : decode cX5_from 33 = .ok (.getfield 21, 3) := by decide +kernel
theorem dX5_from_36 : decode cX5_from 36 = .ok (.getfield 140, 3) := by decide +kernel
theorem dX5_from_39 : decode cX5_from 39 = .ok (.iload_n 1, 1) := by decide +kernel
theorem dX5_from_40 : decode cX5_from 40 = .ok (.iaload, 1) := by decide +kernel
theorem dX5_from_41 : decode cX5_from 41 = .ok (.istore_n 3, 1) := by decide +kernel
theorem dX5_from_42 : decode cX5_from 42 = .ok (.iconst 0, 1) := by decide +kernel
theorem dX5_from_43 : decode cX5_from 43 = .ok (.istore 4, 2) := by decide +kernel
theorem dX5_from_45 : decode cX5_from 45 = .ok (.iload 4, 2) := by decide +kernel
theorem dX5_from_47 : decode cX5_from 47 = .ok (.iload_n 2, 1) := by decide +kernel
theorem dX5_from_48 : decode cX5_from 48 = .ok (.if_icmp .ge 18, 3) := by decide +kernel
theorem dX5_from_51 : decode cX5_from 51 = .ok (.aload_n 0, 1) := by decide +kernel
theorem dX5_from_52 : decode cX5_from 52 = .ok (.getfield 12, 3) := by decide +kernel
theorem dX5_from_55 : decode cX5_from 55 = .ok (.iload_n 3, 1) := by decide +kernel
theorem dX5_from_56 : decode cX5_from 56 = .ok (.invokevirtual 143, 3) := by decide +kernel
theorem dX5_from_59 : decode cX5_from 59 = .ok (.istore_n 3, 1) := by decide +kernel
theorem dX5_from_60 : decode cX5_from 60 = .ok (.iinc 4 1, 3) := by decide +kernel
theorem dX5_from_63 : decode cX5_from 63 = .ok (.goto (-18), 3) := by decide +kernel
theorem dX5_from_66 : decode cX5_from 66 = .ok (.aload_n 0, 1) := by decide +kernel
theorem dX5_from_67 : decode cX5_from 67 = .ok (.getfield 12, 3) := by decide +kernel
theorem dX5_from_70 : decode cX5_from 70 = .ok (.getfield 126, 3) := by decide +kernel
theorem dX5_from_73 : decode cX5_from 73 = .ok (.iload_n 3, 1) := by decide +kernel
theorem dX5_from_74 : decode cX5_from 74 = .ok (.iaload, 1) := by decide +kernel
theorem dX5_from_75 : decode cX5_from 75 = .ok (.ireturn, 1) := by decide +kernel
theorem dX5_parts_0 : decode cX5_parts 0 = .ok (.aload_n 0, 1) := by decide +kernel
theorem dX5_parts_1 : decode cX5_parts 1 = .ok (.getfield 28, 3) := by decide +kernel
theorem dX5_parts_4 : decode cX5_parts 4 = .ok (.getfield 147, 3) := by decide +kernel
theorem dX5_parts_7 : decode cX5_parts 7 = .ok (.ireturn, 1) := by decide +kernel
theorem dX5_genus_0 : decode cX5_genus 0 = .ok (.aload_n 0, 1) := by decide +kernel
theorem dX5_genus_1 : decode cX5_genus 1 = .ok (.getfield 21, 3) := by decide +kernel
theorem dX5_genus_4 : decode cX5_genus 4 = .ok (.getfield 129, 3) := by decide +kernel
theorem dX5_genus_7 : decode cX5_genus 7 = .ok (.aload_n 0, 1) := by decide +kernel
theorem dX5_genus_8 : decode cX5_genus 8 = .ok (.getfield 12, 3) := by decide +kernel
theorem dX5_genus_11 : decode cX5_genus 11 = .ok (.invokevirtual 148, 3) := by decide +kernel
theorem dX5_genus_14 : decode cX5_genus 14 = .ok (.iadd, 1) := by decide +kernel
theorem dX5_genus_15 : decode cX5_genus 15 = .ok (.istore_n 1, 1) := by decide +kernel
theorem dX5_genus_16 : decode cX5_genus 16 = .ok (.aload_n 0, 1) := by decide +kernel
theorem dX5_genus_17 : decode cX5_genus 17 = .ok (.getfield 28, 3) := by decide +kernel
theorem dX5_genus_20 : decode cX5_genus 20 = .ok (.getfield 147, 3) := by decide +kernel
theorem dX5_genus_23 : decode cX5_genus 23 = .ok (.aload_n 0, 1) := by decide +kernel
theorem dX5_genus_24 : decode cX5_genus 24 = .ok (.getfield 12, 3) := by decide +kernel
theorem dX5_genus_27 : decode cX5_genus 27 = .ok (.getfield 48, 3) := by decide +kernel
theorem dX5_genus_30 : decode cX5_genus 30 = .ok (.aload_n 0, 1) := by decide +kernel
theorem dX5_genus_31 : decode cX5_genus 31 = .ok (.getfield 12, 3) := by decide +kernel
theorem dX5_genus_34 : decode cX5_genus 34 = .ok (.getfield 109, 3) := by decide +kernel
theorem dX5_genus_37 : decode cX5_genus 37 = .ok (.isub, 1) := by decide +kernel
theorem dX5_genus_38 : decode cX5_genus 38 = .ok (.iload_n 1, 1) := by decide +kernel
theorem dX5_genus_39 : decode cX5_genus 39 = .ok (.iadd, 1) := by decide +kernel
theorem dX5_genus_40 : decode cX5_genus 40 = .ok (.iconst 2, 1) := by decide +kernel
theorem dX5_genus_41 : decode cX5_genus 41 = .ok (.idiv, 1) := by decide +kernel
theorem dX5_genus_42 : decode cX5_genus 42 = .ok (.isub, 1) := by decide +kernel
theorem dX5_genus_43 : decode cX5_genus 43 = .ok (.ireturn, 1) := by decide +kernel
theorem dX5_colour_0 : decode cX5_colour 0 = .ok (.aload_n 0, 1) := by decide +kernel
theorem dX5_colour_1 : decode cX5_colour 1 = .ok (.invokevirtual 151, 3) := by decide +kernel
theorem dX5_colour_4 : decode cX5_colour 4 = .ok (.aload_n 0, 1) := by decide +kernel
theorem dX5_colour_5 : decode cX5_colour 5 = .ok (.getfield 35, 3) := by decide +kernel
theorem dX5_colour_8 : decode cX5_colour 8 = .ok (.invokevirtual 154, 3) := by decide +kernel
theorem dX5_colour_11 : decode cX5_colour 11 = .ok (.aload_n 0, 1) := by decide +kernel
theorem dX5_colour_12 : decode cX5_colour 12 = .ok (.getfield 35, 3) := by decide +kernel
theorem dX5_colour_15 : decode cX5_colour 15 = .ok (.invokevirtual 157, 3) := by decide +kernel
theorem dX5_colour_18 : decode cX5_colour 18 = .ok (.ireturn, 1) := by decide +kernel
theorem dX5_colourOf_0 : decode cX5_colourOf 0 = .ok (.aload_n 0, 1) := by decide +kernel
theorem dX5_colourOf_1 : decode cX5_colourOf 1 = .ok (.iload_n 1, 1) := by decide +kernel
theorem dX5_colourOf_2 : decode cX5_colourOf 2 = .ok (.invokevirtual 70, 3) := by decide +kernel
theorem dX5_colourOf_5 : decode cX5_colourOf 5 = .ok (.aload_n 0, 1) := by decide +kernel
theorem dX5_colourOf_6 : decode cX5_colourOf 6 = .ok (.getfield 35, 3) := by decide +kernel
theorem dX5_colourOf_9 : decode cX5_colourOf 9 = .ok (.getfield 63, 3) := by decide +kernel
theorem dX5_colourOf_12 : decode cX5_colourOf 12 = .ok (.iload_n 1, 1) := by decide +kernel
theorem dX5_colourOf_13 : decode cX5_colourOf 13 = .ok (.iaload, 1) := by decide +kernel
theorem dX5_colourOf_14 : decode cX5_colourOf 14 = .ok (.ireturn, 1) := by decide +kernel
theorem dX5_exchanges_0 : decode cX5_exchanges 0 = .ok (.aload_n 0, 1) := by decide +kernel
theorem dX5_exchanges_1 : decode cX5_exchanges 1 = .ok (.getfield 35, 3) := by decide +kernel
theorem dX5_exchanges_4 : decode cX5_exchanges 4 = .ok (.getfield 160, 3) := by decide +kernel
theorem dX5_exchanges_7 : decode cX5_exchanges 7 = .ok (.ireturn, 1) := by decide +kernel
theorem dX5_exchange_0 : decode cX5_exchange 0 = .ok (.aload_n 0, 1) := by decide +kernel
theorem dX5_exchange_1 : decode cX5_exchange 1 = .ok (.iload_n 1, 1) := by decide +kernel
theorem dX5_exchange_2 : decode cX5_exchange 2 = .ok (.invokevirtual 70, 3) := by decide +kernel
theorem dX5_exchange_5 : decode cX5_exchange 5 = .ok (.aload_n 0, 1) := by decide +kernel
theorem dX5_exchange_6 : decode cX5_exchange 6 = .ok (.getfield 35, 3) := by decide +kernel
theorem dX5_exchange_9 : decode cX5_exchange 9 = .ok (.getfield 63, 3) := by decide +kernel
theorem dX5_exchange_12 : decode cX5_exchange 12 = .ok (.iload_n 1, 1) := by decide +kernel
theorem dX5_exchange_13 : decode cX5_exchange 13 = .ok (.iaload, 1) := by decide +kernel
theorem dX5_exchange_14 : decode cX5_exchange 14 = .ok (.istore_n 3, 1) := by decide +kernel
theorem dX5_exchange_15 : decode cX5_exchange 15 = .ok (.iload_n 3, 1) := by decide +kernel
theorem dX5_exchange_16 : decode cX5_exchange 16 = .ok (.ifCond .ne 13, 3) := by decide +kernel
theorem dX5_exchange_19 : decode cX5_exchange 19 = .ok (.new 81, 3) := by decide +kernel
theorem dX5_exchange_22 : decode cX5_exchange 22 = .ok (.dup, 1) := by decide +kernel
theorem dX5_exchange_23 : decode cX5_exchange 23 = .ok (.ldc 163, 2) := by decide +kernel
theorem dX5_exchange_25 : decode cX5_exchange 25 = .ok (.invokespecial 85, 3) := by decide +kernel
theorem dX5_exchange_28 : decode cX5_exchange 28 = .ok (.athrow, 1) := by decide +kernel
theorem dX5_exchange_29 : decode cX5_exchange 29 = .ok (.iload_n 2, 1) := by decide +kernel
theorem dX5_exchange_30 : decode cX5_exchange 30 = .ok (.iconst 1, 1) := by decide +kernel
theorem dX5_exchange_31 : decode cX5_exchange 31 = .ok (.if_icmp .lt 13, 3) := by decide +kernel
theorem dX5_exchange_34 : decode cX5_exchange 34 = .ok (.iload_n 2, 1) := by decide +kernel
theorem dX5_exchange_35 : decode cX5_exchange 35 = .ok (.iconst 5, 1) := by decide +kernel
theorem dX5_exchange_36 : decode cX5_exchange 36 = .ok (.if_icmp .gt 8, 3) := by decide +kernel
theorem dX5_exchange_39 : decode cX5_exchange 39 = .ok (.iload_n 2, 1) := by decide +kernel
theorem dX5_exchange_40 : decode cX5_exchange 40 = .ok (.iload_n 3, 1) := by decide +kernel
theorem dX5_exchange_41 : decode cX5_exchange 41 = .ok (.if_icmp .ne 13, 3) := by decide +kernel
theorem dX5_exchange_44 : decode cX5_exchange 44 = .ok (.new 81, 3) := by decide +kernel
theorem dX5_exchange_47 : decode cX5_exchange 47 = .ok (.dup, 1) := by decide +kernel
theorem dX5_exchange_48 : decode cX5_exchange 48 = .ok (.ldc 165, 2) := by decide +kernel
theorem dX5_exchange_50 : decode cX5_exchange 50 = .ok (.invokespecial 85, 3) := by decide +kernel
theorem dX5_exchange_53 : decode cX5_exchange 53 = .ok (.athrow, 1) := by decide +kernel
theorem dX5_exchange_54 : decode cX5_exchange 54 = .ok (.aload_n 0, 1) := by decide +kernel
theorem dX5_exchange_55 : decode cX5_exchange 55 = .ok (.getfield 35, 3) := by decide +kernel
theorem dX5_exchange_58 : decode cX5_exchange 58 = .ok (.iload_n 1, 1) := by decide +kernel
theorem dX5_exchange_59 : decode cX5_exchange 59 = .ok (.iload_n 2, 1) := by decide +kernel
theorem dX5_exchange_60 : decode cX5_exchange 60 = .ok (.invokevirtual 167, 3) := by decide +kernel
theorem dX5_exchange_63 : decode cX5_exchange 63 = .ok (.aload_n 0, 1) := by decide +kernel
theorem dX5_exchange_64 : decode cX5_exchange 64 = .ok (.getfield 35, 3) := by decide +kernel
theorem dX5_exchange_67 : decode cX5_exchange 67 = .ok (.iload_n 3, 1) := by decide +kernel
theorem dX5_exchange_68 : decode cX5_exchange 68 = .ok (.iload_n 2, 1) := by decide +kernel
theorem dX5_exchange_69 : decode cX5_exchange 69 = .ok (.invokevirtual 171, 3) := by decide +kernel
theorem dX5_exchange_72 : decode cX5_exchange 72 = .ok (.aload_n 0, 1) := by decide +kernel
theorem dX5_exchange_73 : decode cX5_exchange 73 = .ok (.getfield 35, 3) := by decide +kernel
theorem dX5_exchange_76 : decode cX5_exchange 76 = .ok (.getfield 174, 3) := by decide +kernel
theorem dX5_exchange_79 : decode cX5_exchange 79 = .ok (.ireturn, 1) := by decide +kernel
theorem dX5_clashes_0 : decode cX5_clashes 0 = .ok (.aload_n 0, 1) := by decide +kernel
theorem dX5_clashes_1 : decode cX5_clashes 1 = .ok (.getfield 35, 3) := by decide +kernel
theorem dX5_clashes_4 : decode cX5_clashes 4 = .ok (.invokevirtual 177, 3) := by decide +kernel
theorem dX5_clashes_7 : decode cX5_clashes 7 = .ok (.ireturn, 1) := by decide +kernel
theorem dX5_above_0 : decode cX5_above 0 = .ok (.aload_n 0, 1) := by decide +kernel
theorem dX5_above_1 : decode cX5_above 1 = .ok (.iload_n 1, 1) := by decide +kernel
theorem dX5_above_2 : decode cX5_above 2 = .ok (.invokevirtual 70, 3) := by decide +kernel
theorem dX5_above_5 : decode cX5_above 5 = .ok (.aload_n 0, 1) := by decide +kernel
theorem dX5_above_6 : decode cX5_above 6 = .ok (.getfield 28, 3) := by decide +kernel
theorem dX5_above_9 : decode cX5_above 9 = .ok (.getfield 180, 3) := by decide +kernel
theorem dX5_above_12 : decode cX5_above 12 = .ok (.iload_n 1, 1) := by decide +kernel
theorem dX5_above_13 : decode cX5_above 13 = .ok (.iaload, 1) := by decide +kernel
theorem dX5_above_14 : decode cX5_above 14 = .ok (.ireturn, 1) := by decide +kernel
theorem dX5_cycle_0 : decode cX5_cycle 0 = .ok (.aload_n 0, 1) := by decide +kernel
theorem dX5_cycle_1 : decode cX5_cycle 1 = .ok (.iload_n 1, 1) := by decide +kernel
theorem dX5_cycle_2 : decode cX5_cycle 2 = .ok (.invokevirtual 103, 3) := by decide +kernel
theorem dX5_cycle_5 : decode cX5_cycle 5 = .ok (.aload_n 0, 1) := by decide +kernel
theorem dX5_cycle_6 : decode cX5_cycle 6 = .ok (.getfield 28, 3) := by decide +kernel
theorem dX5_cycle_9 : decode cX5_cycle 9 = .ok (.iload_n 1, 1) := by decide +kernel
theorem dX5_cycle_10 : decode cX5_cycle 10 = .ok (.invokevirtual 183, 3) := by decide +kernel
theorem dX5_cycle_13 : decode cX5_cycle 13 = .ok (.ifCond .eq 5, 3) := by decide +kernel
theorem dX5_cycle_16 : decode cX5_cycle 16 = .ok (.iconst 0, 1) := by decide +kernel
theorem dX5_cycle_17 : decode cX5_cycle 17 = .ok (.ireturn, 1) := by decide +kernel
theorem dX5_cycle_18 : decode cX5_cycle 18 = .ok (.aload_n 0, 1) := by decide +kernel
theorem dX5_cycle_19 : decode cX5_cycle 19 = .ok (.getfield 44, 3) := by decide +kernel
theorem dX5_cycle_22 : decode cX5_cycle 22 = .ok (.iload_n 1, 1) := by decide +kernel
theorem dX5_cycle_23 : decode cX5_cycle 23 = .ok (.invokevirtual 187, 3) := by decide +kernel
theorem dX5_cycle_26 : decode cX5_cycle 26 = .ok (.aload_n 0, 1) := by decide +kernel
theorem dX5_cycle_27 : decode cX5_cycle 27 = .ok (.getfield 44, 3) := by decide +kernel
theorem dX5_cycle_30 : decode cX5_cycle 30 = .ok (.getfield 190, 3) := by decide +kernel
theorem dX5_cycle_33 : decode cX5_cycle 33 = .ok (.ireturn, 1) := by decide +kernel
theorem dX5_side_0 : decode cX5_side 0 = .ok (.aload_n 0, 1) := by decide +kernel
theorem dX5_side_1 : decode cX5_side 1 = .ok (.iload_n 1, 1) := by decide +kernel
theorem dX5_side_2 : decode cX5_side 2 = .ok (.invokevirtual 103, 3) := by decide +kernel
theorem dX5_side_5 : decode cX5_side 5 = .ok (.aload_n 0, 1) := by decide +kernel
theorem dX5_side_6 : decode cX5_side 6 = .ok (.invokevirtual 151, 3) := by decide +kernel
theorem dX5_side_9 : decode cX5_side 9 = .ok (.aload_n 0, 1) := by decide +kernel
theorem dX5_side_10 : decode cX5_side 10 = .ok (.getfield 28, 3) := by decide +kernel
theorem dX5_side_13 : decode cX5_side 13 = .ok (.iload_n 1, 1) := by decide +kernel
theorem dX5_side_14 : decode cX5_side 14 = .ok (.invokevirtual 183, 3) := by decide +kernel
theorem dX5_side_17 : decode cX5_side 17 = .ok (.ifCond .eq 5, 3) := by decide +kernel
theorem dX5_side_20 : decode cX5_side 20 = .ok (.iconst 0, 1) := by decide +kernel
theorem dX5_side_21 : decode cX5_side 21 = .ok (.ireturn, 1) := by decide +kernel
theorem dX5_side_22 : decode cX5_side 22 = .ok (.aload_n 0, 1) := by decide +kernel
theorem dX5_side_23 : decode cX5_side 23 = .ok (.getfield 44, 3) := by decide +kernel
theorem dX5_side_26 : decode cX5_side 26 = .ok (.iload_n 1, 1) := by decide +kernel
theorem dX5_side_27 : decode cX5_side 27 = .ok (.invokevirtual 193, 3) := by decide +kernel
theorem dX5_side_30 : decode cX5_side 30 = .ok (.iload_n 2, 1) := by decide +kernel
theorem dX5_side_31 : decode cX5_side 31 = .ok (.ifCond .eq 13, 3) := by decide +kernel
theorem dX5_side_34 : decode cX5_side 34 = .ok (.aload_n 0, 1) := by decide +kernel
theorem dX5_side_35 : decode cX5_side 35 = .ok (.getfield 44, 3) := by decide +kernel
theorem dX5_side_38 : decode cX5_side 38 = .ok (.getfield 196, 3) := by decide +kernel
theorem dX5_side_41 : decode cX5_side 41 = .ok (.goto 10, 3) := by decide +kernel
theorem dX5_side_44 : decode cX5_side 44 = .ok (.aload_n 0, 1) := by decide +kernel
theorem dX5_side_45 : decode cX5_side 45 = .ok (.getfield 44, 3) := by decide +kernel
theorem dX5_side_48 : decode cX5_side 48 = .ok (.getfield 199, 3) := by decide +kernel
theorem dX5_side_51 : decode cX5_side 51 = .ok (.ireturn, 1) := by decide +kernel
theorem dX5_best_0 : decode cX5_best 0 = .ok (.aload_n 0, 1) := by decide +kernel
theorem dX5_best_1 : decode cX5_best 1 = .ok (.invokevirtual 151, 3) := by decide +kernel
theorem dX5_best_4 : decode cX5_best 4 = .ok (.iconst (-1), 1) := by decide +kernel
theorem dX5_best_5 : decode cX5_best 5 = .ok (.istore_n 1, 1) := by decide +kernel
theorem dX5_best_6 : decode cX5_best 6 = .ok (.iconst 0, 1) := by decide +kernel
theorem dX5_best_7 : decode cX5_best 7 = .ok (.istore_n 2, 1) := by decide +kernel
theorem dX5_best_8 : decode cX5_best 8 = .ok (.iconst 0, 1) := by decide +kernel
theorem dX5_best_9 : decode cX5_best 9 = .ok (.istore_n 3, 1) := by decide +kernel
theorem dX5_best_10 : decode cX5_best 10 = .ok (.iconst 0, 1) := by decide +kernel
theorem dX5_best_11 : decode cX5_best 11 = .ok (.istore 4, 2) := by decide +kernel
theorem dX5_best_13 : decode cX5_best 13 = .ok (.iload 4, 2) := by decide +kernel
theorem dX5_best_15 : decode cX5_best 15 = .ok (.aload_n 0, 1) := by decide +kernel
theorem dX5_best_16 : decode cX5_best 16 = .ok (.getfield 12, 3) := by decide +kernel
theorem dX5_best_19 : decode cX5_best 19 = .ok (.getfield 91, 3) := by decide +kernel
theorem dX5_best_22 : decode cX5_best 22 = .ok (.if_icmp .ge 119, 3) := by decide +kernel
theorem dX5_best_25 : decode cX5_best 25 = .ok (.aload_n 0, 1) := by decide +kernel
theorem dX5_best_26 : decode cX5_best 26 = .ok (.getfield 12, 3) := by decide +kernel
theorem dX5_best_29 : decode cX5_best 29 = .ok (.getfield 202, 3) := by decide +kernel
theorem dX5_best_32 : decode cX5_best 32 = .ok (.iload 4, 2) := by decide +kernel
theorem dX5_best_34 : decode cX5_best 34 = .ok (.baload, 1) := by decide +kernel
theorem dX5_best_35 : decode cX5_best 35 = .ok (.ifCond .eq 100, 3) := by decide +kernel
theorem dX5_best_38 : decode cX5_best 38 = .ok (.aload_n 0, 1) := by decide +kernel
theorem dX5_best_39 : decode cX5_best 39 = .ok (.getfield 28, 3) := by decide +kernel
theorem dX5_best_42 : decode cX5_best 42 = .ok (.iload 4, 2) := by decide +kernel
theorem dX5_best_44 : decode cX5_best 44 = .ok (.invokevirtual 183, 3) := by decide +kernel
theorem dX5_best_47 : decode cX5_best 47 = .ok (.ifCond .eq 6, 3) := by decide +kernel
theorem dX5_best_50 : decode cX5_best 50 = .ok (.goto 85, 3) := by decide +kernel
theorem dX5_best_53 : decode cX5_best 53 = .ok (.aload_n 0, 1) := by decide +kernel
theorem dX5_best_54 : decode cX5_best 54 = .ok (.getfield 44, 3) := by decide +kernel
theorem dX5_best_57 : decode cX5_best 57 = .ok (.iload 4, 2) := by decide +kernel
theorem dX5_best_59 : decode cX5_best 59 = .ok (.invokevirtual 193, 3) := by decide +kernel
theorem dX5_best_62 : decode cX5_best 62 = .ok (.aload_n 0, 1) := by decide +kernel
theorem dX5_best_63 : decode cX5_best 63 = .ok (.getfield 44, 3) := by decide +kernel
theorem dX5_best_66 : decode cX5_best 66 = .ok (.getfield 196, 3) := by decide +kernel
theorem dX5_best_69 : decode cX5_best 69 = .ok (.aload_n 0, 1) := by decide +kernel
theorem dX5_best_70 : decode cX5_best 70 = .ok (.getfield 44, 3) := by decide +kernel
theorem dX5_best_73 : decode cX5_best 73 = .ok (.getfield 199, 3) := by decide +kernel
theorem dX5_best_76 : decode cX5_best 76 = .ok (.invokestatic 206, 3) := by decide +kernel
theorem dX5_best_79 : decode cX5_best 79 = .ok (.istore 5, 2) := by decide +kernel
theorem dX5_best_81 : decode cX5_best 81 = .ok (.iload 5, 2) := by decide +kernel
theorem dX5_best_83 : decode cX5_best 83 = .ok (.iload_n 2, 1) := by decide +kernel
theorem dX5_best_84 : decode cX5_best 84 = .ok (.if_icmp .lt 20, 3) := by decide +kernel
theorem dX5_best_87 : decode cX5_best 87 = .ok (.iload 5, 2) := by decide +kernel
theorem dX5_best_89 : decode cX5_best 89 = .ok (.iload_n 2, 1) := by decide +kernel
theorem dX5_best_90 : decode cX5_best 90 = .ok (.if_icmp .ne 18, 3) := by decide +kernel
theorem dX5_best_93 : decode cX5_best 93 = .ok (.aload_n 0, 1) := by decide +kernel
theorem dX5_best_94 : decode cX5_best 94 = .ok (.getfield 44, 3) := by decide +kernel
theorem dX5_best_97 : decode cX5_best 97 = .ok (.getfield 190, 3) := by decide +kernel
theorem dX5_best_100 : decode cX5_best 100 = .ok (.iload_n 3, 1) := by decide +kernel
theorem dX5_best_101 : decode cX5_best 101 = .ok (.if_icmp .ge 7, 3) := by decide +kernel
theorem dX5_best_104 : decode cX5_best 104 = .ok (.iconst 1, 1) := by decide +kernel
theorem dX5_best_105 : decode cX5_best 105 = .ok (.goto 4, 3) := by decide +kernel
theorem dX5_best_108 : decode cX5_best 108 = .ok (.iconst 0, 1) := by decide +kernel
theorem dX5_best_109 : decode cX5_best 109 = .ok (.istore 6, 2) := by decide +kernel
theorem dX5_best_111 : decode cX5_best 111 = .ok (.iload_n 1, 1) := by decide +kernel
theorem dX5_best_112 : decode cX5_best 112 = .ok (.iconst (-1), 1) := by decide +kernel
theorem dX5_best_113 : decode cX5_best 113 = .ok (.if_icmp .eq 8, 3) := by decide +kernel
theorem dX5_best_116 : decode cX5_best 116 = .ok (.iload 6, 2) := by decide +kernel
theorem dX5_best_118 : decode cX5_best 118 = .ok (.ifCond .eq 17, 3) := by decide +kernel
theorem dX5_best_121 : decode cX5_best 121 = .ok (.iload 4, 2) := by decide +kernel
theorem dX5_best_123 : decode cX5_best 123 = .ok (.istore_n 1, 1) := by decide +kernel
theorem dX5_best_124 : decode cX5_best 124 = .ok (.iload 5, 2) := by decide +kernel
theorem dX5_best_126 : decode cX5_best 126 = .ok (.istore_n 2, 1) := by decide +kernel
theorem dX5_best_127 : decode cX5_best 127 = .ok (.aload_n 0, 1) := by decide +kernel
theorem dX5_best_128 : decode cX5_best 128 = .ok (.getfield 44, 3) := by decide +kernel
theorem dX5_best_131 : decode cX5_best 131 = .ok (.getfield 190, 3) := by decide +kernel
theorem dX5_best_134 : decode cX5_best 134 = .ok (.istore_n 3, 1) := by decide +kernel
theorem dX5_best_135 : decode cX5_best 135 = .ok (.iinc 4 1, 3) := by decide +kernel
theorem dX5_best_138 : decode cX5_best 138 = .ok (.goto (-125), 3) := by decide +kernel
theorem dX5_best_141 : decode cX5_best 141 = .ok (.iload_n 1, 1) := by decide +kernel
theorem dX5_best_142 : decode cX5_best 142 = .ok (.ireturn, 1) := by decide +kernel
theorem dX5_told_0 : decode cX5_told 0 = .ok (.iload_n 1, 1) := by decide +kernel
theorem dX5_told_1 : decode cX5_told 1 = .ok (.tableswitch 68 0 3 #[31, 39, 47, 60], 31) := by decide +kernel
theorem dX5_told_32 : decode cX5_told 32 = .ok (.aload_n 0, 1) := by decide +kernel
theorem dX5_told_33 : decode cX5_told 33 = .ok (.getfield 12, 3) := by decide +kernel
theorem dX5_told_36 : decode cX5_told 36 = .ok (.getfield 48, 3) := by decide +kernel
theorem dX5_told_39 : decode cX5_told 39 = .ok (.ireturn, 1) := by decide +kernel
theorem dX5_told_40 : decode cX5_told 40 = .ok (.aload_n 0, 1) := by decide +kernel
theorem dX5_told_41 : decode cX5_told 41 = .ok (.getfield 12, 3) := by decide +kernel
theorem dX5_told_44 : decode cX5_told 44 = .ok (.getfield 109, 3) := by decide +kernel
theorem dX5_told_47 : decode cX5_told 47 = .ok (.ireturn, 1) := by decide +kernel
theorem dX5_told_48 : decode cX5_told 48 = .ok (.aload_n 0, 1) := by decide +kernel
theorem dX5_told_49 : decode cX5_told 49 = .ok (.invokevirtual 212, 3) := by decide +kernel
theorem dX5_told_52 : decode cX5_told 52 = .ok (.ifCond .eq 7, 3) := by decide +kernel
theorem dX5_told_55 : decode cX5_told 55 = .ok (.iconst 1, 1) := by decide +kernel
theorem dX5_told_56 : decode cX5_told 56 = .ok (.goto 4, 3) := by decide +kernel
theorem dX5_told_59 : decode cX5_told 59 = .ok (.iconst 0, 1) := by decide +kernel
theorem dX5_told_60 : decode cX5_told 60 = .ok (.ireturn, 1) := by decide +kernel
theorem dX5_told_61 : decode cX5_told 61 = .ok (.aload_n 0, 1) := by decide +kernel
theorem dX5_told_62 : decode cX5_told 62 = .ok (.getfield 35, 3) := by decide +kernel
theorem dX5_told_65 : decode cX5_told 65 = .ok (.invokevirtual 157, 3) := by decide +kernel
theorem dX5_told_68 : decode cX5_told 68 = .ok (.ireturn, 1) := by decide +kernel
theorem dX5_told_69 : decode cX5_told 69 = .ok (.iconst (-1), 1) := by decide +kernel
theorem dX5_told_70 : decode cX5_told 70 = .ok (.ireturn, 1) := by decide +kernel
theorem dX5_clear_0 : decode cX5_clear 0 = .ok (.aload_n 0, 1) := by decide +kernel
theorem dX5_clear_1 : decode cX5_clear 1 = .ok (.getfield 35, 3) := by decide +kernel
theorem dX5_clear_4 : decode cX5_clear 4 = .ok (.invokevirtual 100, 3) := by decide +kernel
theorem dX5_clear_7 : decode cX5_clear 7 = .ok (.aload_n 0, 1) := by decide +kernel
theorem dX5_clear_8 : decode cX5_clear 8 = .ok (.getfield 12, 3) := by decide +kernel
theorem dX5_clear_11 : decode cX5_clear 11 = .ok (.invokevirtual 216, 3) := by decide +kernel
theorem dX5_clear_14 : decode cX5_clear 14 = .ok (.aload_n 0, 1) := by decide +kernel
theorem dX5_clear_15 : decode cX5_clear 15 = .ok (.invokevirtual 67, 3) := by decide +kernel
theorem dX5_clear_18 : decode cX5_clear 18 = .ok (.return_, 1) := by decide +kernel
theorem dX5_surveyAgain_0 : decode cX5_surveyAgain 0 = .ok (.aload_n 0, 1) := by decide +kernel
theorem dX5_surveyAgain_1 : decode cX5_surveyAgain 1 = .ok (.getfield 21, 3) := by decide +kernel
theorem dX5_surveyAgain_4 : decode cX5_surveyAgain 4 = .ok (.invokevirtual 219, 3) := by decide +kernel
theorem dX5_surveyAgain_7 : decode cX5_surveyAgain 7 = .ok (.aload_n 0, 1) := by decide +kernel
theorem dX5_surveyAgain_8 : decode cX5_surveyAgain 8 = .ok (.getfield 28, 3) := by decide +kernel
theorem dX5_surveyAgain_11 : decode cX5_surveyAgain 11 = .ok (.invokevirtual 222, 3) := by decide +kernel
theorem dX5_surveyAgain_14 : decode cX5_surveyAgain 14 = .ok (.return_, 1) := by decide +kernel
theorem dX5_isPlane_0 : decode cX5_isPlane 0 = .ok (.aload_n 0, 1) := by decide +kernel
theorem dX5_isPlane_1 : decode cX5_isPlane 1 = .ok (.invokevirtual 223, 3) := by decide +kernel
theorem dX5_isPlane_4 : decode cX5_isPlane 4 = .ok (.ifCond .ne 7, 3) := by decide +kernel
theorem dX5_isPlane_7 : decode cX5_isPlane 7 = .ok (.iconst 1, 1) := by decide +kernel
theorem dX5_isPlane_8 : decode cX5_isPlane 8 = .ok (.goto 4, 3) := by decide +kernel
theorem dX5_isPlane_11 : decode cX5_isPlane 11 = .ok (.iconst 0, 1) := by decide +kernel
theorem dX5_isPlane_12 : decode cX5_isPlane 12 = .ok (.ireturn, 1) := by decide +kernel
theorem dX5_checkPlane_0 : decode cX5_checkPlane 0 = .ok (.aload_n 0, 1) := by decide +kernel
theorem dX5_checkPlane_1 : decode cX5_checkPlane 1 = .ok (.invokevirtual 212, 3) := by decide +kernel
theorem dX5_checkPlane_4 : decode cX5_checkPlane 4 = .ok (.ifCond .ne 13, 3) := by decide +kernel
theorem dX5_checkPlane_7 : decode cX5_checkPlane 7 = .ok (.new 226, 3) := by decide +kernel
theorem dX5_checkPlane_10 : decode cX5_checkPlane 10 = .ok (.dup, 1) := by decide +kernel
theorem dX5_checkPlane_11 : decode cX5_checkPlane 11 = .ok (.ldc 228, 2) := by decide +kernel
theorem dX5_checkPlane_13 : decode cX5_checkPlane 13 = .ok (.invokespecial 230, 3) := by decide +kernel
theorem dX5_checkPlane_16 : decode cX5_checkPlane 16 = .ok (.athrow, 1) := by decide +kernel
theorem dX5_checkPlane_17 : decode cX5_checkPlane 17 = .ok (.return_, 1) := by decide +kernel
theorem dX5_checkVertex_0 : decode cX5_checkVertex 0 = .ok (.iload_n 1, 1) := by decide +kernel
theorem dX5_checkVertex_1 : decode cX5_checkVertex 1 = .ok (.ifCond .lt 14, 3) := by decide +kernel
theorem dX5_checkVertex_4 : decode cX5_checkVertex 4 = .ok (.iload_n 1, 1) := by decide +kernel
theorem dX5_checkVertex_5 : decode cX5_checkVertex 5 = .ok (.aload_n 0, 1) := by decide +kernel
theorem dX5_checkVertex_6 : decode cX5_checkVertex 6 = .ok (.getfield 12, 3) := by decide +kernel
theorem dX5_checkVertex_9 : decode cX5_checkVertex 9 = .ok (.getfield 48, 3) := by decide +kernel
theorem dX5_checkVertex_12 : decode cX5_checkVertex 12 = .ok (.if_icmp .lt 13, 3) := by decide +kernel
theorem dX5_checkVertex_15 : decode cX5_checkVertex 15 = .ok (.new 115, 3) := by decide +kernel
theorem dX5_checkVertex_18 : decode cX5_checkVertex 18 = .ok (.dup, 1) := by decide +kernel
theorem dX5_checkVertex_19 : decode cX5_checkVertex 19 = .ok (.ldc 231, 2) := by decide +kernel
theorem dX5_checkVertex_21 : decode cX5_checkVertex 21 = .ok (.invokespecial 119, 3) := by decide +kernel
theorem dX5_checkVertex_24 : decode cX5_checkVertex 24 = .ok (.athrow, 1) := by decide +kernel
theorem dX5_checkVertex_25 : decode cX5_checkVertex 25 = .ok (.return_, 1) := by decide +kernel
theorem dX5_checkEdge_0 : decode cX5_checkEdge 0 = .ok (.iload_n 1, 1) := by decide +kernel
theorem dX5_checkEdge_1 : decode cX5_checkEdge 1 = .ok (.ifCond .lt 26, 3) := by decide +kernel
theorem dX5_checkEdge_4 : decode cX5_checkEdge 4 = .ok (.iload_n 1, 1) := by decide +kernel
theorem dX5_checkEdge_5 : decode cX5_checkEdge 5 = .ok (.aload_n 0, 1) := by decide +kernel
theorem dX5_checkEdge_6 : decode cX5_checkEdge 6 = .ok (.getfield 12, 3) := by decide +kernel
theorem dX5_checkEdge_9 : decode cX5_checkEdge 9 = .ok (.getfield 91, 3) := by decide +kernel
theorem dX5_checkEdge_12 : decode cX5_checkEdge 12 = .ok (.if_icmp .ge 15, 3) := by decide +kernel
theorem dX5_checkEdge_15 : decode cX5_checkEdge 15 = .ok (.aload_n 0, 1) := by decide +kernel
theorem dX5_checkEdge_16 : decode cX5_checkEdge 16 = .ok (.getfield 12, 3) := by decide +kernel
theorem dX5_checkEdge_19 : decode cX5_checkEdge 19 = .ok (.getfield 202, 3) := by decide +kernel
theorem dX5_checkEdge_22 : decode cX5_checkEdge 22 = .ok (.iload_n 1, 1) := by decide +kernel
theorem dX5_checkEdge_23 : decode cX5_checkEdge 23 = .ok (.baload, 1) := by decide +kernel
theorem dX5_checkEdge_24 : decode cX5_checkEdge 24 = .ok (.ifCond .ne 13, 3) := by decide +kernel
theorem dX5_checkEdge_27 : decode cX5_checkEdge 27 = .ok (.new 115, 3) := by decide +kernel
theorem dX5_checkEdge_30 : decode cX5_checkEdge 30 = .ok (.dup, 1) := by decide +kernel
theorem dX5_checkEdge_31 : decode cX5_checkEdge 31 = .ok (.ldc 233, 2) := by decide +kernel
theorem dX5_checkEdge_33 : decode cX5_checkEdge 33 = .ok (.invokespecial 119, 3) := by decide +kernel
theorem dX5_checkEdge_36 : decode cX5_checkEdge 36 = .ok (.athrow, 1) := by decide +kernel
theorem dX5_checkEdge_37 : decode cX5_checkEdge 37 = .ok (.return_, 1) := by decide +kernel
theorem dX5_checkEdgeOrNone_0 : decode cX5_checkEdgeOrNone 0 = .ok (.iload_n 1, 1) := by decide +kernel
theorem dX5_checkEdgeOrNone_1 : decode cX5_checkEdgeOrNone 1 = .ok (.iconst (-1), 1) := by decide +kernel
theorem dX5_checkEdgeOrNone_2 : decode cX5_checkEdgeOrNone 2 = .ok (.if_icmp .eq 8, 3) := by decide +kernel
theorem dX5_checkEdgeOrNone_5 : decode cX5_checkEdgeOrNone 5 = .ok (.aload_n 0, 1) := by decide +kernel
theorem dX5_checkEdgeOrNone_6 : decode cX5_checkEdgeOrNone 6 = .ok (.iload_n 1, 1) := by decide +kernel
theorem dX5_checkEdgeOrNone_7 : decode cX5_checkEdgeOrNone 7 = .ok (.invokevirtual 103, 3) := by decide +kernel
theorem dX5_checkEdgeOrNone_10 : decode cX5_checkEdgeOrNone 10 = .ok (.return_, 1) := by decide +kernel
theorem dX5_checkFace_0 : decode cX5_checkFace 0 = .ok (.iload_n 1, 1) := by decide +kernel
theorem dX5_checkFace_1 : decode cX5_checkFace 1 = .ok (.ifCond .lt 14, 3) := by decide +kernel
theorem dX5_checkFace_4 : decode cX5_checkFace 4 = .ok (.iload_n 1, 1) := by decide +kernel
theorem dX5_checkFace_5 : decode cX5_checkFace 5 = .ok (.aload_n 0, 1) := by decide +kernel
theorem dX5_checkFace_6 : decode cX5_checkFace 6 = .ok (.getfield 21, 3) := by decide +kernel
theorem dX5_checkFace_9 : decode cX5_checkFace 9 = .ok (.getfield 129, 3) := by decide +kernel
theorem dX5_checkFace_12 : decode cX5_checkFace 12 = .ok (.if_icmp .lt 13, 3) := by decide +kernel
theorem dX5_checkFace_15 : decode cX5_checkFace 15 = .ok (.new 115, 3) := by decide +kernel
theorem dX5_checkFace_18 : decode cX5_checkFace 18 = .ok (.dup, 1) := by decide +kernel
theorem dX5_checkFace_19 : decode cX5_checkFace 19 = .ok (.ldc 235, 2) := by decide +kernel
theorem dX5_checkFace_21 : decode cX5_checkFace 21 = .ok (.invokespecial 119, 3) := by decide +kernel
theorem dX5_checkFace_24 : decode cX5_checkFace 24 = .ok (.athrow, 1) := by decide +kernel
theorem dX5_checkFace_25 : decode cX5_checkFace 25 = .ok (.return_, 1) := by decide +kernel
theorem dJ6_bitCount_0f7a4_0 : decode cJ6_bitCount_0f7a4 0 = .ok (.iload_n 0, 1) := by decide +kernel
theorem dJ6_bitCount_0f7a4_1 : decode cJ6_bitCount_0f7a4 1 = .ok (.iload_n 0, 1) := by decide +kernel
theorem dJ6_bitCount_0f7a4_2 : decode cJ6_bitCount_0f7a4 2 = .ok (.iconst 1, 1) := by decide +kernel
theorem dJ6_bitCount_0f7a4_3 : decode cJ6_bitCount_0f7a4 3 = .ok (.iushr, 1) := by decide +kernel
theorem dJ6_bitCount_0f7a4_4 : decode cJ6_bitCount_0f7a4 4 = .ok (.ldc_w 265, 3) := by decide +kernel
theorem dJ6_bitCount_0f7a4_7 : decode cJ6_bitCount_0f7a4 7 = .ok (.iand, 1) := by decide +kernel
theorem dJ6_bitCount_0f7a4_8 : decode cJ6_bitCount_0f7a4 8 = .ok (.isub, 1) := by decide +kernel
theorem dJ6_bitCount_0f7a4_9 : decode cJ6_bitCount_0f7a4 9 = .ok (.istore_n 0, 1) := by decide +kernel
theorem dJ6_bitCount_0f7a4_10 : decode cJ6_bitCount_0f7a4 10 = .ok (.iload_n 0, 1) := by decide +kernel
theorem dJ6_bitCount_0f7a4_11 : decode cJ6_bitCount_0f7a4 11 = .ok (.ldc_w 266, 3) := by decide +kernel
theorem dJ6_bitCount_0f7a4_14 : decode cJ6_bitCount_0f7a4 14 = .ok (.iand, 1) := by decide +kernel
theorem dJ6_bitCount_0f7a4_15 : decode cJ6_bitCount_0f7a4 15 = .ok (.iload_n 0, 1) := by decide +kernel
theorem dJ6_bitCount_0f7a4_16 : decode cJ6_bitCount_0f7a4 16 = .ok (.iconst 2, 1) := by decide +kernel
theorem dJ6_bitCount_0f7a4_17 : decode cJ6_bitCount_0f7a4 17 = .ok (.iushr, 1) := by decide +kernel
theorem dJ6_bitCount_0f7a4_18 : decode cJ6_bitCount_0f7a4 18 = .ok (.ldc_w 266, 3) := by decide +kernel
theorem dJ6_bitCount_0f7a4_21 : decode cJ6_bitCount_0f7a4 21 = .ok (.iand, 1) := by decide +kernel
theorem dJ6_bitCount_0f7a4_22 : decode cJ6_bitCount_0f7a4 22 = .ok (.iadd, 1) := by decide +kernel
theorem dJ6_bitCount_0f7a4_23 : decode cJ6_bitCount_0f7a4 23 = .ok (.istore_n 0, 1) := by decide +kernel
theorem dJ6_bitCount_0f7a4_24 : decode cJ6_bitCount_0f7a4 24 = .ok (.iload_n 0, 1) := by decide +kernel
theorem dJ6_bitCount_0f7a4_25 : decode cJ6_bitCount_0f7a4 25 = .ok (.iload_n 0, 1) := by decide +kernel
theorem dJ6_bitCount_0f7a4_26 : decode cJ6_bitCount_0f7a4 26 = .ok (.iconst 4, 1) := by decide +kernel
theorem dJ6_bitCount_0f7a4_27 : decode cJ6_bitCount_0f7a4 27 = .ok (.iushr, 1) := by decide +kernel
theorem dJ6_bitCount_0f7a4_28 : decode cJ6_bitCount_0f7a4 28 = .ok (.iadd, 1) := by decide +kernel
theorem dJ6_bitCount_0f7a4_29 : decode cJ6_bitCount_0f7a4 29 = .ok (.ldc_w 267, 3) := by decide +kernel
theorem dJ6_bitCount_0f7a4_32 : decode cJ6_bitCount_0f7a4 32 = .ok (.iand, 1) := by decide +kernel
theorem dJ6_bitCount_0f7a4_33 : decode cJ6_bitCount_0f7a4 33 = .ok (.istore_n 0, 1) := by decide +kernel
theorem dJ6_bitCount_0f7a4_34 : decode cJ6_bitCount_0f7a4 34 = .ok (.iload_n 0, 1) := by decide +kernel
theorem dJ6_bitCount_0f7a4_35 : decode cJ6_bitCount_0f7a4 35 = .ok (.iload_n 0, 1) := by decide +kernel
theorem dJ6_bitCount_0f7a4_36 : decode cJ6_bitCount_0f7a4 36 = .ok (.bipush 8, 2) := by decide +kernel
theorem dJ6_bitCount_0f7a4_38 : decode cJ6_bitCount_0f7a4 38 = .ok (.iushr, 1) := by decide +kernel
theorem dJ6_bitCount_0f7a4_39 : decode cJ6_bitCount_0f7a4 39 = .ok (.iadd, 1) := by decide +kernel
theorem dJ6_bitCount_0f7a4_40 : decode cJ6_bitCount_0f7a4 40 = .ok (.istore_n 0, 1) := by decide +kernel
theorem dJ6_bitCount_0f7a4_41 : decode cJ6_bitCount_0f7a4 41 = .ok (.iload_n 0, 1) := by decide +kernel
theorem dJ6_bitCount_0f7a4_42 : decode cJ6_bitCount_0f7a4 42 = .ok (.iload_n 0, 1) := by decide +kernel
theorem dJ6_bitCount_0f7a4_43 : decode cJ6_bitCount_0f7a4 43 = .ok (.bipush 16, 2) := by decide +kernel
theorem dJ6_bitCount_0f7a4_45 : decode cJ6_bitCount_0f7a4 45 = .ok (.iushr, 1) := by decide +kernel
theorem dJ6_bitCount_0f7a4_46 : decode cJ6_bitCount_0f7a4 46 = .ok (.iadd, 1) := by decide +kernel
theorem dJ6_bitCount_0f7a4_47 : decode cJ6_bitCount_0f7a4 47 = .ok (.istore_n 0, 1) := by decide +kernel
theorem dJ6_bitCount_0f7a4_48 : decode cJ6_bitCount_0f7a4 48 = .ok (.iload_n 0, 1) := by decide +kernel
theorem dJ6_bitCount_0f7a4_49 : decode cJ6_bitCount_0f7a4 49 = .ok (.bipush 63, 2) := by decide +kernel
theorem dJ6_bitCount_0f7a4_51 : decode cJ6_bitCount_0f7a4 51 = .ok (.iand, 1) := by decide +kernel
theorem dJ6_bitCount_0f7a4_52 : decode cJ6_bitCount_0f7a4 52 = .ok (.ireturn, 1) := by decide +kernel
end
section
/-! THE ENGINE: one uniform world for the class, the reference and the law's own array; numbers are Int, in range; a judgement Wh over it, one row an instruction -/
/-- heap picture: cell number, place: value -/
abbrev Hp : Type := Nat → Int → Int
/-- a value: an int, a long, a reference to a cell of the world by its number -/
abbrev Vv : Type := Int ⊕ (Int ⊕ Nat)
abbrev vi (x : Int) : Vv := .inl x
abbrev vl (x : Int) : Vv := .inr (.inl x)
abbrev vr (k : Nat) : Vv := .inr (.inr k)
def i32 (x : Int) : Int32 := Int32.ofInt x
def i64 (x : Int) : Int64 := Int64.ofInt x
def InR (x : Int) : Prop := -2147483648 ≤ x ∧ x ≤ 2147483647
theorem i32_toInt {x : Int} (h : InR x) : (i32 x).toInt = x := Int32.toInt_ofInt_of_le (by have := h.1; omega) (by have := h.2; omega)
theorem i32_of (z : Int32) : i32 z.toInt = z := Int32.ofInt_toInt z
theorem inR_toInt (z : Int32) : InR z.toInt := by
  have h1 := z.toInt_lt
  have h2 := z.le_toInt
  constructor <;> omega
theorem i32_add (x y : Int) : i32 (x + y) = i32 x + i32 y := Int32.ofInt_add x y
theorem i32_sub (x y : Int) : i32 (x - y) = i32 x - i32 y := Int32.ofInt_sub x y
theorem i32_mul (x y : Int) : i32 (x * y) = i32 x * i32 y := Int32.ofInt_mul x y
theorem i32_lt {x y : Int} (hx : InR x) (hy : InR y) : i32 x < i32 y ↔ x < y := by rw [Int32.lt_iff_toInt_lt, i32_toInt hx, i32_toInt hy]
theorem i32_le {x y : Int} (hx : InR x) (hy : InR y) : i32 x ≤ i32 y ↔ x ≤ y := by rw [Int32.le_iff_toInt_le, i32_toInt hx, i32_toInt hy]
theorem i32_eq {x y : Int} (hx : InR x) (hy : InR y) : i32 x = i32 y ↔ x = y := by rw [← Int32.toInt_inj, i32_toInt hx, i32_toInt hy]
theorem inR_0 : InR 0 := ⟨by decide, by decide⟩
theorem i32_0 : i32 0 = 0 := rfl
theorem i32_clamp {x : Int} (h : InR x) : (i32 x).toNatClampNeg = x.toNat := by
  show (i32 x).toInt.toNat = x.toNat
  rw [i32_toInt h]
theorem i32_in {x : Int} {n : Nat} (h : InR x) (h0 : 0 ≤ x) (h1 : x < n) : vp_in (i32 x) n := by
  rw [vp_in_iff, i32_toInt h]
  exact ⟨h0, h1⟩
/-- the layout: an array (kind 0 ints, 1 booleans, 2 longs; length), or an object (class, slots: none an int, some r a reference to cell r) -/
abbrev Ly : Type := (Nat × Nat) ⊕ (Nat × List (Option Nat))
def lay : List Ly := [
  .inr (5, [some 1, some 2, some 3, some 4, some 5]),
  .inr (2, [some 6, some 7, some 8, some 9, some 10, some 11, none, none, none]),
  .inr (1, [some 1, some 12, some 13, some 14, none]),
  .inr (4, [some 1, some 15, some 16, some 17, some 18, some 19, none, none]),
  .inr (0, [some 1, some 20, some 21, some 22, some 23, some 24, some 25, none, none]),
  .inr (3, [some 1, some 2, some 3, some 26, some 27, some 28, some 29, none, none, none, none]),
  .inl (0, 200), .inl (0, 200), .inl (0, 200), .inl (1, 100), .inl (0, 30), .inl (0, 30),
  .inl (0, 200), .inl (0, 200), .inl (0, 200),
  .inl (0, 30), .inl (0, 30), .inl (0, 30), .inl (0, 30), .inl (0, 30),
  .inl (0, 30), .inl (1, 30), .inl (0, 30), .inl (0, 5), .inl (1, 30), .inl (0, 30),
  .inl (1, 30), .inl (1, 100), .inl (1, 200), .inl (0, 200),
  .inr (6, [none, none, none, none, some 31, some 32, some 33, some 34, some 35, some 36, none, some 37, none, some 38, some 39, some 40, none, some 41, some 42, some 43, none, some 44, some 45, some 46]),
  .inl (0, 100), .inl (0, 100), .inl (1, 100), .inl (0, 900), .inl (0, 30), .inl (0, 30), .inl (0, 200),
  .inl (0, 30), .inl (0, 30), .inl (0, 30), .inl (0, 30), .inl (1, 30), .inl (1, 30), .inl (1, 30), .inl (1, 100), .inl (1, 200),
  .inl (2, 1)]
def cV (ad : Nat → Nat) (v : Vv) : Value := match v with
  | .inl x => .int (i32 x)
  | .inr (.inl x) => .long (i64 x)
  | .inr (.inr k) => .ref (ad k)
def fC (ad : Nat → Nat) (g : Int → Int) : Nat → List (Option Nat) → List Value
  | _, [] => []
  | i, none :: r => .int (i32 (g i)) :: fC ad g (i + 1) r
  | i, some q :: r => .ref (ad q) :: fC ad g (i + 1) r
def eC (cI cZ cJ : ClassId) (ad : Nat → Nat) (h : Hp) (k : Nat) (y : Ly) : va_E := match y with
  | .inl (0, n) => .inl (cI, n, .inl (fun j => i32 (h k j)))
  | .inl (1, n) => .inl (cZ, n, .inl (fun j => i32 (h k j)))
  | .inl (_, n) => .inl (cJ, n, .inr (.inl (fun j => i64 (h k j))))
  | .inr (ci, fs) => .inr (ci, fC ad (h k) 0 fs)
def wC (cI cZ cJ : ClassId) (ad : Nat → Nat) (h : Hp) : va_W := lay.mapIdx (fun k y => (ad k, eC cI cZ cJ ad h k y))
def hup (h : Hp) (k : Nat) (j v : Int) : Hp := fun a b => if a = k ∧ b = j then v else h a b
theorem hup_s (h : Hp) (k : Nat) (j v : Int) : hup h k j v k j = v := if_pos ⟨rfl, rfl⟩
theorem hup_o {h : Hp} {k a : Nat} {j v b : Int} (hn : ¬ (a = k ∧ b = j)) : hup h k j v a b = h a b := if_neg hn
theorem hup_k {h : Hp} {k a : Nat} {j v : Int} (hn : a ≠ k) : hup h k j v a = h a := by
  funext b
  exact if_neg (fun q => hn q.1)
theorem wC_at {cI cZ cJ : ClassId} {ad : Nat → Nat} {h : Hp} {k : Nat} {y : Ly} (hk : lay[k]? = some y) : (wC cI cZ cJ ad h)[k]? = some (ad k, eC cI cZ cJ ad h k y) := by
  unfold wC
  rw [List.getElem?_mapIdx, hk]
  rfl
theorem wC_inv {cI cZ cJ : ClassId} {ad : Nat → Nat} {h : Hp} {k : Nat} {q : Nat × va_E} (hk : (wC cI cZ cJ ad h)[k]? = some q) : ∃ y, lay[k]? = some y ∧ q = (ad k, eC cI cZ cJ ad h k y) := by
  unfold wC at hk
  rw [List.getElem?_mapIdx] at hk
  cases hl : lay[k]? with
  | none => rw [hl] at hk; cases hk
  | some y =>
    rw [hl] at hk
    exact ⟨y, rfl, (Option.some.inj hk).symm⟩
theorem fC_at (ad : Nat → Nat) (g : Int → Int) : ∀ (fs : List (Option Nat)) (i j : Nat), (fC ad g i fs)[j]? = (fs[j]?).map (fun o => match o with | none => Value.int (i32 (g ((i + j : Nat) : Int))) | some q => .ref (ad q)) := by
  intro fs
  induction fs with
  | nil => intro i j; simp [fC]
  | cons o r ih =>
    intro i j
    cases o with
    | none =>
      cases j with
      | zero => simp [fC]
      | succ j => simp only [fC, List.getElem?_cons_succ]; rw [ih (i + 1) j]; congr 1; funext o; cases o <;> simp; congr 2; omega
    | some q =>
      cases j with
      | zero => simp [fC]
      | succ j => simp only [fC, List.getElem?_cons_succ]; rw [ih (i + 1) j]; congr 1; funext o; cases o <;> simp; congr 2; omega
theorem fC_len (ad : Nat → Nat) (g : Int → Int) : ∀ (fs : List (Option Nat)) (i : Nat), (fC ad g i fs).length = fs.length := by
  intro fs
  induction fs with
  | nil => intro i; rfl
  | cons o r ih => intro i; cases o <;> simp [fC, ih]
/-- the picture with one cell's functions changed at one place -/
theorem wC_set {cI cZ cJ : ClassId} {ad : Nat → Nat} {h h' : Hp} {k : Nat} {y : Ly} {e : va_E} (hk : lay[k]? = some y) (ho : ∀ a, a ≠ k → h' a = h a) (he : e = eC cI cZ cJ ad h' k y) : (wC cI cZ cJ ad h).set k (ad k, e) = wC cI cZ cJ ad h' := by
  have hlt : k < lay.length := (List.getElem?_eq_some_iff.mp hk).1
  apply List.ext_getElem?
  intro i
  by_cases hi : i = k
  · subst hi
    rw [List.getElem?_set_self (by unfold wC; rw [List.length_mapIdx]; exact hlt), wC_at hk, he]
  · rw [List.getElem?_set_ne (Ne.symm hi)]
    unfold wC
    rw [List.getElem?_mapIdx, List.getElem?_mapIdx]
    cases hy : lay[i]? with
    | none => rfl
    | some z =>
      show some (ad i, _) = some (ad i, _)
      congr 2
      obtain ⟨a, n⟩ | ⟨ci, fs⟩ := z
      · rcases a with _ | _ | a <;> simp only [eC] <;> rw [ho i hi]
      · simp only [eC]; rw [ho i hi]
/-- everything in range -/
def RH (h : Hp) : Prop := ∀ k j, InR (h k j)
theorem RH.up {h : Hp} {k : Nat} {j v : Int} (hr : RH h) (hv : InR v) : RH (hup h k j v) := by
  intro a b
  unfold hup
  by_cases q : a = k ∧ b = j
  · rw [if_pos q]; exact hv
  · rw [if_neg q]; exact hr a b
/-- cells that aren't listed are as they were -/
def Fr (M : List Nat) (h0 h : Hp) : Prop := ∀ k, k ∉ M → h k = h0 k
theorem Fr.rf {M : List Nat} {h : Hp} : Fr M h h := fun _ _ => rfl
theorem Fr.trans {M M' : List Nat} {h0 h h1 : Hp} (a : Fr M h0 h) (b : Fr M' h h1) (hs : ∀ k ∈ M', k ∈ M) : Fr M h0 h1 := fun k hk => (b k (fun q => hk (hs k q))).trans (a k hk)
theorem Fr.up {M : List Nat} {h0 h : Hp} {k : Nat} {j v : Int} (a : Fr M h0 h) (hk : k ∈ M) : Fr M h0 (hup h k j v) := by
  intro i hi
  rw [hup_k (fun q => hi (by rw [q]; exact hk))]
  exact a i hi
def okV (v : Vv) : Prop := match v with
  | .inl x => InR x
  | .inr (.inl x) => InR x
  | .inr (.inr _) => True
def okL (v : Vv) : Prop := match v with
  | .inl x => InR x
  | .inr (.inl _) => False
  | .inr (.inr _) => True
abbrev tyL (cI cZ cJ : ClassId) : List (ClassId × FieldType) := [(cI, .int), (cZ, .boolean), (cJ, .long)]
/-- what a state holds: the picture, the tables -/
def bW (D : va_G) (cI cZ cJ : ClassId) (ad : Nat → Nat) (A : Nat → Prop) (h : Hp) (t : State) : Prop := va_P D vwCl (wC cI cZ cJ ad h) t.heap ∧ va_K D vwCl (tyL cI cZ cJ) t ∧ va_D A (wC cI cZ cJ ad h)
def QcX (D : va_G) (cI cZ cJ : ClassId) (ad : Nat → Nat) (A : Nat → Prop) (h0 : Hp) (M : List Nat) (post : Int → Hp → Prop) (ret : Option FieldType) : Array Value → State → Outcome → State → Prop := match ret with
  | none => va_Qv (fun u : Hp => Fr M h0 u ∧ RH u ∧ post 0 u) (fun u t => bW D cI cZ cJ ad A u t) A
  | some _ => va_Qi (fun (r : Int32) (u : Int × Hp) => r = i32 u.1 ∧ InR u.1 ∧ Fr M h0 u.2 ∧ RH u.2 ∧ post u.1 u.2) (fun u t => bW D cI cZ cJ ad A u.2 t) A
def XcX (D : va_G) (cI cZ cJ : ClassId) (ad : Nat → Nat) (A : Nat → Prop) (h0 : Hp) (px : String → Prop) : String → State → State → Prop := vx_X (fun _ : Unit => True) (fun E _ t => px E ∧ bW D cI cZ cJ ad A h0 t) A
/-- program, launch, env, room, start, method, args, below, meth, code; tables' map, addresses, array classes; what may change; start picture, changed cells, what is owed at a return, at a throw, cells, return type -/
abbrev CxT : Type := Program × Launch × Env × Room × State × MethodId × Array Value × List Frame × Method × Code × va_G × (Nat → Nat) × ClassId × ClassId × ClassId × (Nat → Prop) × Hp × List Nat × (Int → Hp → Prop) × (String → Prop) × Nat × Option FieldType
def Wh (X : CxT) (pc : Nat) (L : List (Nat × Vv)) (st : List Vv) (h : Hp) (k : Nat) : Prop := match X with
  | (p, l, e, R, s, m, args, below, meth, c, D, ad, cI, cZ, cJ, A, h0, M, post, px, mc, ret) =>
    ∀ (H : Heap) (locs : List Loc) (ls : Array Slot), va_P D vwCl (wC cI cZ cJ ad h) H → va_D A (wC cI cZ cJ ad h) → va_S A s.heap H locs → RH h → Fr M h0 h → (∀ q ∈ L, okL q.2) → (∀ v ∈ st, okV v) →
      lv_has ls c.maxLocals (L.map (fun q => (q.1, cV ad q.2))) →
      W p l e R s m args below meth c H locs k (6 * k) (vx_MQ below (QcX D cI cZ cJ ad A h0 M post ret) (XcX D cI cZ cJ ad A h0 px) args s mc (6 * mc) A) (F0 m pc ls (st.map (cV ad)))
/-- statics and words that a throw needs -/
def EVw : List Cond := []
def EV (A : Nat → Prop) (U : State) (H : Heap) : Prop := vx_Zq Bundle.tN "UNASSIGNED_STACK" Bundle.steD A U H ∧ vx_Zq Bundle.tN "SUPPRESSED_SENTINEL" Bundle.listD A U H ∧ ∀ w ∈ EVw, va_Nw w U
/-- what holds all along in a body: the machine, the code, the words, the tables, room for f frames and n words more -/
def CX (X : CxT) (cc : ByteArray) (own : String) (f n nL : Nat) : Prop := match X with
  | (p, _, _, R, s, m, args, _, meth, c, D, _, cI, cZ, cJ, A, _, _, _, _, mc, ret) =>
    p.tables.exec = Jvm.exec ∧ c.code = cc ∧ s.vm.findClass own = some m.cls ∧ (∀ w ∈ wsL_law, w.before args s = true) ∧ va_K D vwCl (tyL cI cZ cJ) s ∧ meth.locks = false ∧ meth.sig.returnType = ret ∧ (∀ x ∈ c.exceptionTable.toList, False) ∧ (∀ q, s.heap.size ≤ q → A q) ∧ f ≤ R.frames ∧ n ≤ R.locals ∧ R.cells = mc ∧ R.slots = 6 * mc ∧ EV A s s.heap ∧ c.maxLocals = nL
section EngineRows
variable {X : CxT} {cc : ByteArray} {own : String} {f n nL pc k : Nat} {L : List (Nat × Vv)} {st : List Vv} {h : Hp}
theorem lvL {ls : Array Slot} {nn : Nat} {ad : Nat → Nat} {L : List (Nat × Vv)} (hl : lv_has ls nn (L.map (fun q => (q.1, cV ad q.2)))) {j i : Nat} {v : Vv} (hj : L[j]? = some (i, v)) : ls[i]? = some (.val (cV ad v)) :=
  lv_at hl j (by rw [List.getElem?_map, hj]; rfl)
theorem okS1 {v : Vv} {st : List Vv} (hv : okV v) (hs : ∀ w ∈ st, okV w) : ∀ w ∈ v :: st, okV w := fun w hw => (List.mem_cons.mp hw).elim (fun q => by rw [q]; exact hv) (hs w)
theorem okT {v : Vv} {st : List Vv} (hs : ∀ w ∈ v :: st, okV w) : ∀ w ∈ st, okV w := fun w hw => hs w (List.mem_cons_of_mem _ hw)
theorem okH {v : Vv} {st : List Vv} (hs : ∀ w ∈ v :: st, okV w) : okV v := hs v List.mem_cons_self
theorem okLV {v : Vv} (hv : okL v) : okV v := by
  obtain x | x | x := v
  · exact hv
  · exact absurd hv (by exact id)
  · exact trivial
theorem r_iconst {z : Int} (C : CX X cc own f n nL) (d : decode cc pc = .ok (.iconst z, 1)) (o : InR z) (kk : Wh X (pc + 1) L (vi z :: st) h k) : Wh X pc L st h k := by
  obtain ⟨p, l, e, R, s, m, args, below, meth, c, D, ad, cI, cZ, cJ, A, h0, M, post, px, mc, ret⟩ := X
  intro H locs ls a1 a2 a3 a4 a5 a6 a7 a8
  obtain ⟨hx, hb, -⟩ := C
  exact lv_iconst (v := i32 z) hx hb d rfl (kk H locs ls a1 a2 a3 a4 a5 a6 (okS1 o a7) a8)
theorem r_bipush {z : Int} (C : CX X cc own f n nL) (d : decode cc pc = .ok (.bipush z, 2)) (o : InR z) (hz : (Int8.ofInt z).toInt32 = i32 z) (kk : Wh X (pc + 2) L (vi z :: st) h k) : Wh X pc L st h k := by
  obtain ⟨p, l, e, R, s, m, args, below, meth, c, D, ad, cI, cZ, cJ, A, h0, M, post, px, mc, ret⟩ := X
  intro H locs ls a1 a2 a3 a4 a5 a6 a7 a8
  obtain ⟨hx, hb, -⟩ := C
  exact lv_bipush (v := i32 z) hx hb d hz (kk H locs ls a1 a2 a3 a4 a5 a6 (okS1 o a7) a8)
theorem r_sipush {z : Int} (C : CX X cc own f n nL) (d : decode cc pc = .ok (.sipush z, 3)) (o : InR z) (hz : (Int16.ofInt z).toInt32 = i32 z) (kk : Wh X (pc + 3) L (vi z :: st) h k) : Wh X pc L st h k := by
  obtain ⟨p, l, e, R, s, m, args, below, meth, c, D, ad, cI, cZ, cJ, A, h0, M, post, px, mc, ret⟩ := X
  intro H locs ls a1 a2 a3 a4 a5 a6 a7 a8
  obtain ⟨hx, hb, -⟩ := C
  exact lv_sipush (v := i32 z) hx hb d hz (kk H locs ls a1 a2 a3 a4 a5 a6 (okS1 o a7) a8)
theorem r_iload_n {q : Fin 4} {x : Int} (j : Nat) (C : CX X cc own f n nL) (d : decode cc pc = .ok (.iload_n q, 1)) (hj : L[j]? = some ((q : Nat), vi x)) (kk : Wh X (pc + 1) L (vi x :: st) h k) : Wh X pc L st h k := by
  obtain ⟨p, l, e, R, s, m, args, below, meth, c, D, ad, cI, cZ, cJ, A, h0, M, post, px, mc, ret⟩ := X
  intro H locs ls a1 a2 a3 a4 a5 a6 a7 a8
  obtain ⟨hx, hb, -⟩ := C
  exact lv_iload_n hx hb d rfl (lvL a8 hj) (kk H locs ls a1 a2 a3 a4 a5 a6 (okS1 (okLV (a6 _ (List.mem_of_getElem? hj))) a7) a8)
theorem r_iload {i : Nat} {x : Int} (j : Nat) (C : CX X cc own f n nL) (d : decode cc pc = .ok (.iload i, 2)) (hj : L[j]? = some (i, vi x)) (kk : Wh X (pc + 2) L (vi x :: st) h k) : Wh X pc L st h k := by
  obtain ⟨p, l, e, R, s, m, args, below, meth, c, D, ad, cI, cZ, cJ, A, h0, M, post, px, mc, ret⟩ := X
  intro H locs ls a1 a2 a3 a4 a5 a6 a7 a8
  obtain ⟨hx, hb, -⟩ := C
  exact lv_iload hx hb d (lvL a8 hj) (kk H locs ls a1 a2 a3 a4 a5 a6 (okS1 (okLV (a6 _ (List.mem_of_getElem? hj))) a7) a8)
theorem r_aload_n {q : Fin 4} {x : Nat} (j : Nat) (C : CX X cc own f n nL) (d : decode cc pc = .ok (.aload_n q, 1)) (hj : L[j]? = some ((q : Nat), vr x)) (kk : Wh X (pc + 1) L (vr x :: st) h k) : Wh X pc L st h k := by
  obtain ⟨p, l, e, R, s, m, args, below, meth, c, D, ad, cI, cZ, cJ, A, h0, M, post, px, mc, ret⟩ := X
  intro H locs ls a1 a2 a3 a4 a5 a6 a7 a8
  obtain ⟨hx, hb, -⟩ := C
  exact lv_aload_n hx hb d rfl (lvL a8 hj) (kk H locs ls a1 a2 a3 a4 a5 a6 (okS1 trivial a7) a8)
theorem lvSt {ls : Array Slot} {nn i : Nat} {ad : Nat → Nat} {L L' : List (Nat × Vv)} {v : Vv} (hL : ∀ q ∈ L, okL q.2) (h : lv_has ls nn ((i, cV ad v) :: (L.map (fun q => (q.1, cV ad q.2))).filter (fun q => !(q.1 == i) && !(q.1 + 1 == i && q.2.category == 2)))) (hl : (i, v) :: L.filter (fun q => !(q.1 == i)) = L') : lv_has ls nn (L'.map (fun q => (q.1, cV ad q.2))) := by
  refine ⟨h.1, h.2.1, fun q hq => ?_⟩
  subst hl
  refine h.2.2 q ?_
  rw [List.map_cons] at hq
  rcases List.mem_cons.mp hq with e | e
  · rw [e]; exact List.mem_cons_self
  · obtain ⟨w, hw, rfl⟩ := List.mem_map.mp e
    obtain ⟨h1, h2⟩ := List.mem_filter.mp hw
    refine List.mem_cons_of_mem _ (List.mem_filter.mpr ⟨List.mem_map.mpr ⟨w, h1, rfl⟩, ?_⟩)
    have h3 := hL w h1
    obtain ⟨i', x | x | x⟩ := w
    · simp only [cV, Value.category] at h2 ⊢; simpa using h2
    · exact absurd h3 (by exact id)
    · simp only [cV, Value.category] at h2 ⊢; simpa using h2
theorem okLst {L L' : List (Nat × Vv)} {i : Nat} {v : Vv} (hL : ∀ q ∈ L, okL q.2) (hv : okL v) (hl : (i, v) :: L.filter (fun q => !(q.1 == i)) = L') : ∀ q ∈ L', okL q.2 := by
  subst hl
  intro q hq
  rcases List.mem_cons.mp hq with e | e
  · rw [e]; exact hv
  · exact hL q (List.mem_filter.mp e).1
theorem r_istore_n {q : Fin 4} {x : Int} {L' : List (Nat × Vv)} (C : CX X cc own f n nL) (d : decode cc pc = .ok (.istore_n q, 1)) (hn : (q : Nat) < nL) (hl : ((q : Nat), vi x) :: L.filter (fun w => !(w.1 == (q : Nat))) = L') (kk : Wh X (pc + 1) L' st h k) : Wh X pc L (vi x :: st) h k := by
  obtain ⟨p, l, e, R, s, m, args, below, meth, c, D, ad, cI, cZ, cJ, A, h0, M, post, px, mc, ret⟩ := X
  intro H locs ls a1 a2 a3 a4 a5 a6 a7 a8
  obtain ⟨hx, hb, -, -, -, -, -, -, -, -, -, -, -, -, hml⟩ := C
  exact lv_istore_n (x := i32 x) hx hb d rfl a8 (by rw [hml]; exact hn) rfl (fun ls' h' => kk H locs ls' a1 a2 a3 a4 a5 (okLst (v := vi x) a6 (show InR x from okH a7) hl) (okT a7) (lvSt (v := vi x) a6 h' hl))
theorem r_istore {i : Nat} {x : Int} {L' : List (Nat × Vv)} (C : CX X cc own f n nL) (d : decode cc pc = .ok (.istore i, 2)) (hn : i < nL) (hl : (i, vi x) :: L.filter (fun w => !(w.1 == i)) = L') (kk : Wh X (pc + 2) L' st h k) : Wh X pc L (vi x :: st) h k := by
  obtain ⟨p, l, e, R, s, m, args, below, meth, c, D, ad, cI, cZ, cJ, A, h0, M, post, px, mc, ret⟩ := X
  intro H locs ls a1 a2 a3 a4 a5 a6 a7 a8
  obtain ⟨hx, hb, -, -, -, -, -, -, -, -, -, -, -, -, hml⟩ := C
  exact lv_istore (x := i32 x) hx hb d a8 (by rw [hml]; exact hn) rfl (fun ls' h' => kk H locs ls' a1 a2 a3 a4 a5 (okLst (v := vi x) a6 (show InR x from okH a7) hl) (okT a7) (lvSt (v := vi x) a6 h' hl))
theorem r_iinc {i : Nat} {z x : Int} {L' : List (Nat × Vv)} (j : Nat) (C : CX X cc own f n nL) (d : decode cc pc = .ok (.iinc i z, 3)) (hj : L[j]? = some (i, vi x)) (hn : i < nL) (o : InR (x + z)) (hl : (i, vi (x + z)) :: L.filter (fun w => !(w.1 == i)) = L') (kk : Wh X (pc + 3) L' st h k) : Wh X pc L st h k := by
  obtain ⟨p, l, e, R, s, m, args, below, meth, c, D, ad, cI, cZ, cJ, A, h0, M, post, px, mc, ret⟩ := X
  intro H locs ls a1 a2 a3 a4 a5 a6 a7 a8
  obtain ⟨hx, hb, -, -, -, -, -, -, -, -, -, -, -, -, hml⟩ := C
  exact lv_iinc (k := j) (x := i32 x) (v := i32 (x + z)) hx hb d a8 (by rw [List.getElem?_map, hj]; rfl) (i32_add x z).symm (by rw [hml]; exact hn) rfl (fun ls' h' => kk H locs ls' a1 a2 a3 a4 a5 (okLst (v := vi (x + z)) a6 o hl) a7 (lvSt (v := vi (x + z)) a6 h' hl))
theorem r_iadd {x y : Int} (C : CX X cc own f n nL) (d : decode cc pc = .ok (.iadd, 1)) (o : InR (x + y)) (kk : Wh X (pc + 1) L (vi (x + y) :: st) h k) : Wh X pc L (vi y :: vi x :: st) h k := by
  obtain ⟨p, l, e, R, s, m, args, below, meth, c, D, ad, cI, cZ, cJ, A, h0, M, post, px, mc, ret⟩ := X
  intro H locs ls a1 a2 a3 a4 a5 a6 a7 a8
  obtain ⟨hx, hb, -⟩ := C
  refine lv_iadd (x := i32 x) (y := i32 y) hx hb d ?_
  rw [← i32_add]
  exact kk H locs ls a1 a2 a3 a4 a5 a6 (okS1 (v := vi (x + y)) o (okT (okT a7))) a8
theorem r_isub {x y : Int} (C : CX X cc own f n nL) (d : decode cc pc = .ok (.isub, 1)) (o : InR (x - y)) (kk : Wh X (pc + 1) L (vi (x - y) :: st) h k) : Wh X pc L (vi y :: vi x :: st) h k := by
  obtain ⟨p, l, e, R, s, m, args, below, meth, c, D, ad, cI, cZ, cJ, A, h0, M, post, px, mc, ret⟩ := X
  intro H locs ls a1 a2 a3 a4 a5 a6 a7 a8
  obtain ⟨hx, hb, -⟩ := C
  refine lv_isub (x := i32 x) (y := i32 y) hx hb d ?_
  rw [← i32_sub]
  exact kk H locs ls a1 a2 a3 a4 a5 a6 (okS1 (v := vi (x - y)) o (okT (okT a7))) a8
theorem r_imul {x y : Int} (C : CX X cc own f n nL) (d : decode cc pc = .ok (.imul, 1)) (o : InR (x * y)) (kk : Wh X (pc + 1) L (vi (x * y) :: st) h k) : Wh X pc L (vi y :: vi x :: st) h k := by
  obtain ⟨p, l, e, R, s, m, args, below, meth, c, D, ad, cI, cZ, cJ, A, h0, M, post, px, mc, ret⟩ := X
  intro H locs ls a1 a2 a3 a4 a5 a6 a7 a8
  obtain ⟨hx, hb, -⟩ := C
  refine lv_imul (x := i32 x) (y := i32 y) hx hb d ?_
  rw [← i32_mul]
  exact kk H locs ls a1 a2 a3 a4 a5 a6 (okS1 (v := vi (x * y)) o (okT (okT a7))) a8
end EngineRows
end
section
/-! the engine's rows: division, bits, stack, branches, fields, arrays, returns -/
def bop (o : Int32 → Int32 → Int32) (x y : Int) : Int := (o (i32 x) (i32 y)).toInt
theorem bop_R (o : Int32 → Int32 → Int32) (x y : Int) : InR (bop o x y) := inR_toInt _
theorem bop_i (o : Int32 → Int32 → Int32) (x y : Int) : i32 (bop o x y) = o (i32 x) (i32 y) := i32_of _
def jand (x y : Int) : Int := bop (fun a b => a &&& b) x y
def jor (x y : Int) : Int := bop (fun a b => a ||| b) x y
def jxor (x y : Int) : Int := bop (fun a b => a ^^^ b) x y
def jshl (x y : Int) : Int := bop (fun a b => a <<< (b &&& 31)) x y
def jshr (x y : Int) : Int := bop (fun a b => a >>> (b &&& 31)) x y
def jushr (x y : Int) : Int := bop (fun a b => (a.toUInt32 >>> (b.toUInt32 &&& Int32.toUInt32 31)).toInt32) x y
section EngineRows2
variable {X : CxT} {cc : ByteArray} {own : String} {f n nL pc k : Nat} {L : List (Nat × Vv)} {st : List Vv} {h : Hp}
theorem r_idiv {x y : Int} (C : CX X cc own f n nL) (d : decode cc pc = .ok (.idiv, 1)) (o : 0 < y ∧ InR (x.tdiv y)) (kk : Wh X (pc + 1) L (vi (x.tdiv y) :: st) h k) : Wh X pc L (vi y :: vi x :: st) h k := by
  obtain ⟨p, l, e, R, s, m, args, below, meth, c, D, ad, cI, cZ, cJ, A, h0, M, post, px, mc, ret⟩ := X
  intro H locs ls a1 a2 a3 a4 a5 a6 a7 a8
  obtain ⟨hx, hb, -⟩ := C
  have hy : InR y := okH a7
  have hX : InR x := okH (okT a7)
  have e1 : i32 (x.tdiv y) = i32 x / i32 y := by
    rw [← Int32.toInt_inj, i32_toInt o.2, Int32.toInt_div_of_ne_right _ _ (fun q => ?_), i32_toInt hX, i32_toInt hy]
    have h2 := congrArg Int32.toInt q
    rw [i32_toInt hy] at h2
    have h3 : (-1 : Int32).toInt = -1 := by decide
    omega
  refine lv_idiv (x := i32 x) (y := i32 y) hx hb d (fun q => ?_) ?_
  · have h2 := (i32_eq hy inR_0).mp q
    omega
  · rw [← e1]
    exact kk H locs ls a1 a2 a3 a4 a5 a6 (okS1 (v := vi (x.tdiv y)) o.2 (okT (okT a7))) a8
theorem r_irem {x y : Int} (C : CX X cc own f n nL) (d : decode cc pc = .ok (.irem, 1)) (o : 0 < y ∧ InR (x.tmod y)) (kk : Wh X (pc + 1) L (vi (x.tmod y) :: st) h k) : Wh X pc L (vi y :: vi x :: st) h k := by
  obtain ⟨p, l, e, R, s, m, args, below, meth, c, D, ad, cI, cZ, cJ, A, h0, M, post, px, mc, ret⟩ := X
  intro H locs ls a1 a2 a3 a4 a5 a6 a7 a8
  obtain ⟨hx, hb, -⟩ := C
  have hy : InR y := okH a7
  have hX : InR x := okH (okT a7)
  have e1 : i32 (x.tmod y) = i32 x - i32 x / i32 y * i32 y := by
    rw [← Int32.toInt_inj, i32_toInt o.2, rem_toInt, i32_toInt hX, i32_toInt hy]
  refine lv_irem (x := i32 x) (y := i32 y) hx hb d (fun q => ?_) ?_
  · have h2 := (i32_eq hy inR_0).mp q
    omega
  · rw [← e1]
    exact kk H locs ls a1 a2 a3 a4 a5 a6 (okS1 (v := vi (x.tmod y)) o.2 (okT (okT a7))) a8
theorem r_iand {x y : Int} (C : CX X cc own f n nL) (d : decode cc pc = .ok (.iand, 1)) (kk : Wh X (pc + 1) L (vi (jand x y) :: st) h k) : Wh X pc L (vi y :: vi x :: st) h k := by
  obtain ⟨p, l, e, R, s, m, args, below, meth, c, D, ad, cI, cZ, cJ, A, h0, M, post, px, mc, ret⟩ := X
  intro H locs ls a1 a2 a3 a4 a5 a6 a7 a8
  obtain ⟨hx, hb, -⟩ := C
  refine lv_iand (x := i32 x) (y := i32 y) hx hb d ?_
  rw [← bop_i (fun a b => a &&& b) x y]
  exact kk H locs ls a1 a2 a3 a4 a5 a6 (okS1 (v := vi (jand x y)) (bop_R _ _ _) (okT (okT a7))) a8
theorem r_ior {x y : Int} (C : CX X cc own f n nL) (d : decode cc pc = .ok (.ior, 1)) (kk : Wh X (pc + 1) L (vi (jor x y) :: st) h k) : Wh X pc L (vi y :: vi x :: st) h k := by
  obtain ⟨p, l, e, R, s, m, args, below, meth, c, D, ad, cI, cZ, cJ, A, h0, M, post, px, mc, ret⟩ := X
  intro H locs ls a1 a2 a3 a4 a5 a6 a7 a8
  obtain ⟨hx, hb, -⟩ := C
  refine lv_ior (x := i32 x) (y := i32 y) hx hb d ?_
  rw [← bop_i (fun a b => a ||| b) x y]
  exact kk H locs ls a1 a2 a3 a4 a5 a6 (okS1 (v := vi (jor x y)) (bop_R _ _ _) (okT (okT a7))) a8
theorem r_ixor {x y : Int} (C : CX X cc own f n nL) (d : decode cc pc = .ok (.ixor, 1)) (kk : Wh X (pc + 1) L (vi (jxor x y) :: st) h k) : Wh X pc L (vi y :: vi x :: st) h k := by
  obtain ⟨p, l, e, R, s, m, args, below, meth, c, D, ad, cI, cZ, cJ, A, h0, M, post, px, mc, ret⟩ := X
  intro H locs ls a1 a2 a3 a4 a5 a6 a7 a8
  obtain ⟨hx, hb, -⟩ := C
  refine lv_ixor (x := i32 x) (y := i32 y) hx hb d ?_
  rw [← bop_i (fun a b => a ^^^ b) x y]
  exact kk H locs ls a1 a2 a3 a4 a5 a6 (okS1 (v := vi (jxor x y)) (bop_R _ _ _) (okT (okT a7))) a8
theorem r_ishl {x y : Int} (C : CX X cc own f n nL) (d : decode cc pc = .ok (.ishl, 1)) (kk : Wh X (pc + 1) L (vi (jshl x y) :: st) h k) : Wh X pc L (vi y :: vi x :: st) h k := by
  obtain ⟨p, l, e, R, s, m, args, below, meth, c, D, ad, cI, cZ, cJ, A, h0, M, post, px, mc, ret⟩ := X
  intro H locs ls a1 a2 a3 a4 a5 a6 a7 a8
  obtain ⟨hx, hb, -⟩ := C
  refine lv_ishl (x := i32 x) (y := i32 y) hx hb d ?_
  rw [← bop_i (fun a b => a <<< (b &&& 31)) x y]
  exact kk H locs ls a1 a2 a3 a4 a5 a6 (okS1 (v := vi (jshl x y)) (bop_R _ _ _) (okT (okT a7))) a8
theorem r_ishr {x y : Int} (C : CX X cc own f n nL) (d : decode cc pc = .ok (.ishr, 1)) (kk : Wh X (pc + 1) L (vi (jshr x y) :: st) h k) : Wh X pc L (vi y :: vi x :: st) h k := by
  obtain ⟨p, l, e, R, s, m, args, below, meth, c, D, ad, cI, cZ, cJ, A, h0, M, post, px, mc, ret⟩ := X
  intro H locs ls a1 a2 a3 a4 a5 a6 a7 a8
  obtain ⟨hx, hb, -⟩ := C
  refine lv_ishr (x := i32 x) (y := i32 y) hx hb d ?_
  rw [← bop_i (fun a b => a >>> (b &&& 31)) x y]
  exact kk H locs ls a1 a2 a3 a4 a5 a6 (okS1 (v := vi (jshr x y)) (bop_R _ _ _) (okT (okT a7))) a8
theorem r_iushr {x y : Int} (C : CX X cc own f n nL) (d : decode cc pc = .ok (.iushr, 1)) (kk : Wh X (pc + 1) L (vi (jushr x y) :: st) h k) : Wh X pc L (vi y :: vi x :: st) h k := by
  obtain ⟨p, l, e, R, s, m, args, below, meth, c, D, ad, cI, cZ, cJ, A, h0, M, post, px, mc, ret⟩ := X
  intro H locs ls a1 a2 a3 a4 a5 a6 a7 a8
  obtain ⟨hx, hb, -⟩ := C
  refine lv_iushr (x := i32 x) (y := i32 y) (v := i32 (jushr x y)) hx hb d (bop_i (fun a b => (a.toUInt32 >>> (b.toUInt32 &&& Int32.toUInt32 31)).toInt32) x y).symm ?_
  exact kk H locs ls a1 a2 a3 a4 a5 a6 (okS1 (v := vi (jushr x y)) (bop_R _ _ _) (okT (okT a7))) a8
def v1 (v : Vv) : Prop := match v with
  | .inl _ => True
  | .inr (.inl _) => False
  | .inr (.inr _) => True
theorem v1_cat {ad : Nat → Nat} {v : Vv} (hv : v1 v) : (cV ad v).category = 1 := by
  obtain x | x | x := v
  · rfl
  · exact absurd hv (by exact id)
  · rfl
theorem r_dup {v : Vv} (C : CX X cc own f n nL) (d : decode cc pc = .ok (.dup, 1)) (hv : v1 v) (kk : Wh X (pc + 1) L (v :: v :: st) h k) : Wh X pc L (v :: st) h k := by
  obtain ⟨p, l, e, R, s, m, args, below, meth, c, D, ad, cI, cZ, cJ, A, h0, M, post, px, mc, ret⟩ := X
  intro H locs ls a1 a2 a3 a4 a5 a6 a7 a8
  obtain ⟨hx, hb, -⟩ := C
  exact lv_dup hx hb d (v1_cat hv) (kk H locs ls a1 a2 a3 a4 a5 a6 (okS1 (okH a7) a7) a8)
theorem r_dup2 {v w : Vv} (C : CX X cc own f n nL) (d : decode cc pc = .ok (.dup2, 1)) (hv : v1 v) (hw : v1 w) (kk : Wh X (pc + 1) L (v :: w :: v :: w :: st) h k) : Wh X pc L (v :: w :: st) h k := by
  obtain ⟨p, l, e, R, s, m, args, below, meth, c, D, ad, cI, cZ, cJ, A, h0, M, post, px, mc, ret⟩ := X
  intro H locs ls a1 a2 a3 a4 a5 a6 a7 a8
  obtain ⟨hx, hb, -⟩ := C
  exact lv_dup2_11 hx hb d (v1_cat hv) (v1_cat hw) (kk H locs ls a1 a2 a3 a4 a5 a6 (okS1 (okH a7) (okS1 (okH (okT a7)) a7)) a8)
theorem r_goto {off : Int} {tgt : Nat} (C : CX X cc own f n nL) (d : decode cc pc = .ok (.goto off, 3)) (ht : (pc : Int) + off = (tgt : Int)) (kk : Wh X tgt L st h k) : Wh X pc L st h k := by
  obtain ⟨p, l, e, R, s, m, args, below, meth, c, D, ad, cI, cZ, cJ, A, h0, M, post, px, mc, ret⟩ := X
  intro H locs ls a1 a2 a3 a4 a5 a6 a7 a8
  obtain ⟨hx, hb, -⟩ := C
  exact lv_goto hx hb d ht (kk H locs ls a1 a2 a3 a4 a5 a6 a7 a8)
theorem r_icmp_eq {x y : Int} {off : Int} {tgt : Nat} (C : CX X cc own f n nL) (d : decode cc pc = .ok (.if_icmp .eq off, 3)) (ht : (pc : Int) + off = (tgt : Int)) (kt : x = y → Wh X tgt L st h k) (kf : ¬ x = y → Wh X (pc + 3) L st h k) : Wh X pc L (vi y :: vi x :: st) h k := by
  obtain ⟨p, l, e, R, s, m, args, below, meth, c, D, ad, cI, cZ, cJ, A, h0, M, post, px, mc, ret⟩ := X
  intro H locs ls a1 a2 a3 a4 a5 a6 a7 a8
  obtain ⟨hx, hb, -⟩ := C
  have hy : InR y := okH a7
  have hX : InR x := okH (okT a7)
  exact lv_icmp_eq (x := i32 x) (y := i32 y) hx hb d ht (fun q => kt ((i32_eq hX hy).mp q) H locs ls a1 a2 a3 a4 a5 a6 (okT (okT a7)) a8) (fun q => kf (fun z => q ((i32_eq hX hy).mpr z)) H locs ls a1 a2 a3 a4 a5 a6 (okT (okT a7)) a8)
theorem r_icmp_lt {x y : Int} {off : Int} {tgt : Nat} (C : CX X cc own f n nL) (d : decode cc pc = .ok (.if_icmp .lt off, 3)) (ht : (pc : Int) + off = (tgt : Int)) (kt : x < y → Wh X tgt L st h k) (kf : ¬ x < y → Wh X (pc + 3) L st h k) : Wh X pc L (vi y :: vi x :: st) h k := by
  obtain ⟨p, l, e, R, s, m, args, below, meth, c, D, ad, cI, cZ, cJ, A, h0, M, post, px, mc, ret⟩ := X
  intro H locs ls a1 a2 a3 a4 a5 a6 a7 a8
  obtain ⟨hx, hb, -⟩ := C
  have hy : InR y := okH a7
  have hX : InR x := okH (okT a7)
  exact lv_icmp_lt (x := i32 x) (y := i32 y) hx hb d ht (fun q => kt ((i32_lt hX hy).mp q) H locs ls a1 a2 a3 a4 a5 a6 (okT (okT a7)) a8) (fun q => kf (fun z => q ((i32_lt hX hy).mpr z)) H locs ls a1 a2 a3 a4 a5 a6 (okT (okT a7)) a8)
theorem r_icmp_ge {x y : Int} {off : Int} {tgt : Nat} (C : CX X cc own f n nL) (d : decode cc pc = .ok (.if_icmp .ge off, 3)) (ht : (pc : Int) + off = (tgt : Int)) (kt : y ≤ x → Wh X tgt L st h k) (kf : ¬ y ≤ x → Wh X (pc + 3) L st h k) : Wh X pc L (vi y :: vi x :: st) h k := by
  obtain ⟨p, l, e, R, s, m, args, below, meth, c, D, ad, cI, cZ, cJ, A, h0, M, post, px, mc, ret⟩ := X
  intro H locs ls a1 a2 a3 a4 a5 a6 a7 a8
  obtain ⟨hx, hb, -⟩ := C
  have hy : InR y := okH a7
  have hX : InR x := okH (okT a7)
  exact lv_icmp_ge (x := i32 x) (y := i32 y) hx hb d ht (fun q => kt ((i32_le hy hX).mp q) H locs ls a1 a2 a3 a4 a5 a6 (okT (okT a7)) a8) (fun q => kf (fun z => q ((i32_le hy hX).mpr z)) H locs ls a1 a2 a3 a4 a5 a6 (okT (okT a7)) a8)
theorem r_icmp_gt {x y : Int} {off : Int} {tgt : Nat} (C : CX X cc own f n nL) (d : decode cc pc = .ok (.if_icmp .gt off, 3)) (ht : (pc : Int) + off = (tgt : Int)) (kt : y < x → Wh X tgt L st h k) (kf : ¬ y < x → Wh X (pc + 3) L st h k) : Wh X pc L (vi y :: vi x :: st) h k := by
  obtain ⟨p, l, e, R, s, m, args, below, meth, c, D, ad, cI, cZ, cJ, A, h0, M, post, px, mc, ret⟩ := X
  intro H locs ls a1 a2 a3 a4 a5 a6 a7 a8
  obtain ⟨hx, hb, -⟩ := C
  have hy : InR y := okH a7
  have hX : InR x := okH (okT a7)
  exact lv_icmp_gt (x := i32 x) (y := i32 y) hx hb d ht (fun q => kt ((i32_lt hy hX).mp q) H locs ls a1 a2 a3 a4 a5 a6 (okT (okT a7)) a8) (fun q => kf (fun z => q ((i32_lt hy hX).mpr z)) H locs ls a1 a2 a3 a4 a5 a6 (okT (okT a7)) a8)
theorem r_icmp_le {x y : Int} {off : Int} {tgt : Nat} (C : CX X cc own f n nL) (d : decode cc pc = .ok (.if_icmp .le off, 3)) (ht : (pc : Int) + off = (tgt : Int)) (kt : x ≤ y → Wh X tgt L st h k) (kf : ¬ x ≤ y → Wh X (pc + 3) L st h k) : Wh X pc L (vi y :: vi x :: st) h k := by
  obtain ⟨p, l, e, R, s, m, args, below, meth, c, D, ad, cI, cZ, cJ, A, h0, M, post, px, mc, ret⟩ := X
  intro H locs ls a1 a2 a3 a4 a5 a6 a7 a8
  obtain ⟨hx, hb, -⟩ := C
  have hy : InR y := okH a7
  have hX : InR x := okH (okT a7)
  exact lv_icmp_le (x := i32 x) (y := i32 y) hx hb d ht (fun q => kt ((i32_le hX hy).mp q) H locs ls a1 a2 a3 a4 a5 a6 (okT (okT a7)) a8) (fun q => kf (fun z => q ((i32_le hX hy).mpr z)) H locs ls a1 a2 a3 a4 a5 a6 (okT (okT a7)) a8)
theorem r_icmp_ne {x y : Int} {off : Int} {tgt : Nat} (C : CX X cc own f n nL) (d : decode cc pc = .ok (.if_icmp .ne off, 3)) (ht : (pc : Int) + off = (tgt : Int)) (kt : ¬ x = y → Wh X tgt L st h k) (kf : x = y → Wh X (pc + 3) L st h k) : Wh X pc L (vi y :: vi x :: st) h k := by
  obtain ⟨p, l, e, R, s, m, args, below, meth, c, D, ad, cI, cZ, cJ, A, h0, M, post, px, mc, ret⟩ := X
  intro H locs ls a1 a2 a3 a4 a5 a6 a7 a8
  obtain ⟨hx, hb, -⟩ := C
  have hy : InR y := okH a7
  have hX : InR x := okH (okT a7)
  exact lv_icmp_ne (x := i32 x) (y := i32 y) hx hb d ht (fun q => kt (fun z => q ((i32_eq hX hy).mpr z)) H locs ls a1 a2 a3 a4 a5 a6 (okT (okT a7)) a8) (fun q => kf ((i32_eq hX hy).mp q) H locs ls a1 a2 a3 a4 a5 a6 (okT (okT a7)) a8)
theorem r_if_eq {x : Int} {off : Int} {tgt : Nat} (C : CX X cc own f n nL) (d : decode cc pc = .ok (.ifCond .eq off, 3)) (ht : (pc : Int) + off = (tgt : Int)) (kt : x = 0 → Wh X tgt L st h k) (kf : ¬ x = 0 → Wh X (pc + 3) L st h k) : Wh X pc L (vi x :: st) h k := by
  obtain ⟨p, l, e, R, s, m, args, below, meth, c, D, ad, cI, cZ, cJ, A, h0, M, post, px, mc, ret⟩ := X
  intro H locs ls a1 a2 a3 a4 a5 a6 a7 a8
  obtain ⟨hx, hb, -⟩ := C
  have hX : InR x := okH a7
  exact lv_if_eq (x := i32 x) hx hb d ht (fun q => kt ((i32_eq hX inR_0).mp q) H locs ls a1 a2 a3 a4 a5 a6 (okT a7) a8) (fun q => kf (fun z => q ((i32_eq hX inR_0).mpr z)) H locs ls a1 a2 a3 a4 a5 a6 (okT a7) a8)
theorem r_if_lt {x : Int} {off : Int} {tgt : Nat} (C : CX X cc own f n nL) (d : decode cc pc = .ok (.ifCond .lt off, 3)) (ht : (pc : Int) + off = (tgt : Int)) (kt : x < 0 → Wh X tgt L st h k) (kf : ¬ x < 0 → Wh X (pc + 3) L st h k) : Wh X pc L (vi x :: st) h k := by
  obtain ⟨p, l, e, R, s, m, args, below, meth, c, D, ad, cI, cZ, cJ, A, h0, M, post, px, mc, ret⟩ := X
  intro H locs ls a1 a2 a3 a4 a5 a6 a7 a8
  obtain ⟨hx, hb, -⟩ := C
  have hX : InR x := okH a7
  exact lv_if_lt (x := i32 x) hx hb d ht (fun q => kt ((i32_lt hX inR_0).mp q) H locs ls a1 a2 a3 a4 a5 a6 (okT a7) a8) (fun q => kf (fun z => q ((i32_lt hX inR_0).mpr z)) H locs ls a1 a2 a3 a4 a5 a6 (okT a7) a8)
theorem r_if_ge {x : Int} {off : Int} {tgt : Nat} (C : CX X cc own f n nL) (d : decode cc pc = .ok (.ifCond .ge off, 3)) (ht : (pc : Int) + off = (tgt : Int)) (kt : 0 ≤ x → Wh X tgt L st h k) (kf : ¬ 0 ≤ x → Wh X (pc + 3) L st h k) : Wh X pc L (vi x :: st) h k := by
  obtain ⟨p, l, e, R, s, m, args, below, meth, c, D, ad, cI, cZ, cJ, A, h0, M, post, px, mc, ret⟩ := X
  intro H locs ls a1 a2 a3 a4 a5 a6 a7 a8
  obtain ⟨hx, hb, -⟩ := C
  have hX : InR x := okH a7
  exact lv_if_ge (x := i32 x) hx hb d ht (fun q => kt ((i32_le inR_0 hX).mp q) H locs ls a1 a2 a3 a4 a5 a6 (okT a7) a8) (fun q => kf (fun z => q ((i32_le inR_0 hX).mpr z)) H locs ls a1 a2 a3 a4 a5 a6 (okT a7) a8)
theorem r_if_gt {x : Int} {off : Int} {tgt : Nat} (C : CX X cc own f n nL) (d : decode cc pc = .ok (.ifCond .gt off, 3)) (ht : (pc : Int) + off = (tgt : Int)) (kt : 0 < x → Wh X tgt L st h k) (kf : ¬ 0 < x → Wh X (pc + 3) L st h k) : Wh X pc L (vi x :: st) h k := by
  obtain ⟨p, l, e, R, s, m, args, below, meth, c, D, ad, cI, cZ, cJ, A, h0, M, post, px, mc, ret⟩ := X
  intro H locs ls a1 a2 a3 a4 a5 a6 a7 a8
  obtain ⟨hx, hb, -⟩ := C
  have hX : InR x := okH a7
  exact lv_if_gt (x := i32 x) hx hb d ht (fun q => kt ((i32_lt inR_0 hX).mp q) H locs ls a1 a2 a3 a4 a5 a6 (okT a7) a8) (fun q => kf (fun z => q ((i32_lt inR_0 hX).mpr z)) H locs ls a1 a2 a3 a4 a5 a6 (okT a7) a8)
theorem r_if_le {x : Int} {off : Int} {tgt : Nat} (C : CX X cc own f n nL) (d : decode cc pc = .ok (.ifCond .le off, 3)) (ht : (pc : Int) + off = (tgt : Int)) (kt : x ≤ 0 → Wh X tgt L st h k) (kf : ¬ x ≤ 0 → Wh X (pc + 3) L st h k) : Wh X pc L (vi x :: st) h k := by
  obtain ⟨p, l, e, R, s, m, args, below, meth, c, D, ad, cI, cZ, cJ, A, h0, M, post, px, mc, ret⟩ := X
  intro H locs ls a1 a2 a3 a4 a5 a6 a7 a8
  obtain ⟨hx, hb, -⟩ := C
  have hX : InR x := okH a7
  exact lv_if_le (x := i32 x) hx hb d ht (fun q => kt ((i32_le hX inR_0).mp q) H locs ls a1 a2 a3 a4 a5 a6 (okT a7) a8) (fun q => kf (fun z => q ((i32_le hX inR_0).mpr z)) H locs ls a1 a2 a3 a4 a5 a6 (okT a7) a8)
theorem r_if_ne {x : Int} {off : Int} {tgt : Nat} (C : CX X cc own f n nL) (d : decode cc pc = .ok (.ifCond .ne off, 3)) (ht : (pc : Int) + off = (tgt : Int)) (kt : ¬ x = 0 → Wh X tgt L st h k) (kf : x = 0 → Wh X (pc + 3) L st h k) : Wh X pc L (vi x :: st) h k := by
  obtain ⟨p, l, e, R, s, m, args, below, meth, c, D, ad, cI, cZ, cJ, A, h0, M, post, px, mc, ret⟩ := X
  intro H locs ls a1 a2 a3 a4 a5 a6 a7 a8
  obtain ⟨hx, hb, -⟩ := C
  have hX : InR x := okH a7
  exact lv_if_ne (x := i32 x) hx hb d ht (fun q => kt (fun z => q ((i32_eq hX inR_0).mpr z)) H locs ls a1 a2 a3 a4 a5 a6 (okT a7) a8) (fun q => kf ((i32_eq hX inR_0).mp q) H locs ls a1 a2 a3 a4 a5 a6 (okT a7) a8)
end EngineRows2
end
section
/-! the engine's rows: fields, arrays, returns -/
def Xl (X : CxT) : Launch := X.2.1
def XM (X : CxT) : List Nat := match X with | (_, _, _, _, _, _, _, _, _, _, _, _, _, _, _, _, _, M, _, _, _, _) => M
def Xh (X : CxT) : Hp := match X with | (_, _, _, _, _, _, _, _, _, _, _, _, _, _, _, _, h0, _, _, _, _, _) => h0
def XP (X : CxT) : Int → Hp → Prop := match X with | (_, _, _, _, _, _, _, _, _, _, _, _, _, _, _, _, _, _, post, _, _, _) => post
def XX (X : CxT) : String → Prop := match X with | (_, _, _, _, _, _, _, _, _, _, _, _, _, _, _, _, _, _, _, px, _, _) => px
def Xc (X : CxT) : Nat := match X with | (_, _, _, _, _, _, _, _, _, _, _, _, _, _, _, _, _, _, _, _, mc, _) => mc
def Xr (X : CxT) : Option FieldType := match X with | (_, _, _, _, _, _, _, _, _, _, _, _, _, _, _, _, _, _, _, _, _, ret) => ret
theorem eC_o {cI cZ cJ : ClassId} {ad : Nat → Nat} {h : Hp} {k ci : Nat} {fs : List (Option Nat)} : eC cI cZ cJ ad h k (.inr (ci, fs)) = .inr (ci, fC ad (h k) 0 fs) := rfl
theorem eC_i {cI cZ cJ : ClassId} {ad : Nat → Nat} {h : Hp} {k n : Nat} : eC cI cZ cJ ad h k (.inl (0, n)) = .inl (cI, n, .inl (fun j => i32 (h k j))) := rfl
theorem eC_z {cI cZ cJ : ClassId} {ad : Nat → Nat} {h : Hp} {k n : Nat} : eC cI cZ cJ ad h k (.inl (1, n)) = .inl (cZ, n, .inl (fun j => i32 (h k j))) := rfl
theorem upd_hup {h : Hp} {k : Nat} {i x : Int} (h0 : 0 ≤ i) : upd (fun j : Nat => i32 (h k (j : Int))) i.toNat (i32 x) = fun j : Nat => i32 (hup h k i x k (j : Int)) := by
  funext j
  unfold upd hup
  by_cases q : j = i.toNat
  · rw [if_pos q, if_pos ⟨rfl, by omega⟩]
  · rw [if_neg q, if_neg (fun z => q (by omega))]
theorem set_hup {ad : Nat → Nat} {h : Hp} {r i : Nat} {x : Int} {fs : List (Option Nat)} (hf : fs[i]? = some none) : (fC ad (h r) 0 fs).set i (.int (i32 x)) = fC ad (hup h r i x r) 0 fs := by
  apply List.ext_getElem?
  intro j
  by_cases q : i = j
  · subst q
    rw [List.getElem?_set_self (by rw [fC_len]; exact (List.getElem?_eq_some_iff.mp hf).1), fC_at, hf]
    simp only [Option.map_some, Nat.zero_add, hup_s]
  · rw [List.getElem?_set_ne q, fC_at, fC_at]
    cases hj : fs[j]? with
    | none => rfl
    | some o =>
      cases o with
      | none =>
        simp only [Option.map_some, Nat.zero_add]
        rw [hup_o (fun z => q (by have := z.2; omega))]
      | some w => rfl
section EngineRows3
variable {X : CxT} {cc : ByteArray} {own : String} {f n nL pc k : Nat} {L : List (Nat × Vv)} {st : List Vv} {h : Hp}
theorem r_getR {r q i idx ci N : Nat} {fs : List (Option Nat)} {Cn : String} {T : u_T} (C : CX X cc own f n nL) (d : decode cc pc = .ok (.getfield idx, 3)) (hy : lay[r]? = some (.inr (ci, fs))) (hc : vwCl[ci]? = some (Cn, T, N)) (hi : i < N) (hf : fs[i]? = some (some q)) (hin : ∀ w ∈ u_ws Cn T N, w ∈ wsL_law) (hl : Cond.fieldLink own idx (T i).1 (T i).2.1 (T i).2.2.1 ∈ wsL_law)
    (kk : Wh X (pc + 3) L (vr q :: st) h k) : Wh X pc L (vr r :: st) h k := by
  obtain ⟨p, l, e, R, s, m, args, below, meth, c, D, ad, cI, cZ, cJ, A, h0, M, post, px, mc, ret⟩ := X
  intro H locs ls a1 a2 a3 a4 a5 a6 a7 a8
  obtain ⟨hx, hb, hown, hts, hK, -⟩ := C
  have he := wC_at (cI := cI) (cZ := cZ) (cJ := cJ) (ad := ad) (h := h) hy
  rw [eC_o] at he
  exact va_get hx hb hts hin hown hK a1 r he hc i hi (hts _ hl) (fun _ z => z) (v := .ref (ad q)) (by rw [fC_at, hf]; rfl) d (kk H locs ls a1 a2 a3 a4 a5 a6 (okS1 trivial (okT a7)) a8)
theorem r_getI {r i idx ci N : Nat} {fs : List (Option Nat)} {Cn : String} {T : u_T} (C : CX X cc own f n nL) (d : decode cc pc = .ok (.getfield idx, 3)) (hy : lay[r]? = some (.inr (ci, fs))) (hc : vwCl[ci]? = some (Cn, T, N)) (hi : i < N) (hf : fs[i]? = some none) (hin : ∀ w ∈ u_ws Cn T N, w ∈ wsL_law) (hl : Cond.fieldLink own idx (T i).1 (T i).2.1 (T i).2.2.1 ∈ wsL_law)
    (kk : Wh X (pc + 3) L (vi (h r i) :: st) h k) : Wh X pc L (vr r :: st) h k := by
  obtain ⟨p, l, e, R, s, m, args, below, meth, c, D, ad, cI, cZ, cJ, A, h0, M, post, px, mc, ret⟩ := X
  intro H locs ls a1 a2 a3 a4 a5 a6 a7 a8
  obtain ⟨hx, hb, hown, hts, hK, -⟩ := C
  have he := wC_at (cI := cI) (cZ := cZ) (cJ := cJ) (ad := ad) (h := h) hy
  rw [eC_o] at he
  exact va_get hx hb hts hin hown hK a1 r he hc i hi (hts _ hl) (fun _ z => z) (v := .int (i32 (h r i))) (by rw [fC_at, hf]; simp) d (kk H locs ls a1 a2 a3 a4 a5 a6 (okS1 (v := vi (h r i)) (a4 r i) (okT a7)) a8)
theorem r_putI {r i idx ci N : Nat} {x : Int} {fs : List (Option Nat)} {Cn : String} {T : u_T} {ty0 : Nat → FieldType} {M : List Nat} (C : CX X cc own f n nL) (d : decode cc pc = .ok (.putfield idx, 3)) (hy : lay[r]? = some (.inr (ci, fs))) (hc : vwCl[ci]? = some (Cn, T, N)) (hi : i < N) (hf : fs[i]? = some none) (hin : ∀ w ∈ u_ws Cn T N, w ∈ wsL_law) (hl : Cond.fieldLink own idx (T i).1 (T i).2.1 (T i).2.2.1 ∈ wsL_law)
    (hty : ∀ k, k < N → parseFieldDescriptor (T k).2.2.1 = some (ty0 k)) (hnm : ∀ a, a < N → ∀ b, b < N → a ≠ b → (T a).2.1 ≠ (T b).2.1) (hfin : (T i).2.2.2 = false) (hint : parseFieldDescriptor (T i).2.2.1 = some .int) (hM : XM X = M) (hr : r ∈ M)
    (kk : Wh X (pc + 3) L st (hup h r i x) k) : Wh X pc L (vi x :: vr r :: st) h k := by
  obtain ⟨p, l, e, R, s, m, args, below, meth, c, D, ad, cI, cZ, cJ, A, h0, M, post, px, mc, ret⟩ := X
  intro H locs ls a1 a2 a3 a4 a5 a6 a7 a8
  obtain ⟨hx, hb, hown, hts, hK, -⟩ := C
  cases hM
  have he := wC_at (cI := cI) (cZ := cZ) (cJ := cJ) (ad := ad) (h := h) hy
  rw [eC_o] at he
  have e1 : (wC cI cZ cJ ad h).set r (ad r, .inr (ci, (fC ad (h r) 0 fs).set i (.int (i32 x)))) = wC cI cZ cJ ad (hup h r i x) :=
    wC_set hy (fun a ha => hup_k ha) (by rw [eC_o, set_hup hf])
  refine va_put hx hb hts hin ty0 hty hnm hown hK a1 a2 a3 r he hc i hi (hts _ hl) (fun _ z => z) hfin (ty := .int) (v := .int (i32 x)) hint rfl rfl (by rw [fC_len]; exact (List.getElem?_eq_some_iff.mp hf).1) d (fun H1 locs1 b1 b2 b3 => ?_)
  rw [e1] at b1 b2
  exact kk H1 locs1 ls b1 b2 b3 (a4.up (okH a7)) (a5.up hr) a6 (okT (okT a7)) a8
theorem r_iaload {r N : Nat} {i : Int} (C : CX X cc own f n nL) (d : decode cc pc = .ok (.iaload, 1)) (hy : lay[r]? = some (.inl (0, N))) (o : 0 ≤ i ∧ i < N) (kk : Wh X (pc + 1) L (vi (h r i) :: st) h k) : Wh X pc L (vi i :: vr r :: st) h k := by
  obtain ⟨p, l, e, R, s, m, args, below, meth, c, D, ad, cI, cZ, cJ, A, h0, M, post, px, mc, ret⟩ := X
  intro H locs ls a1 a2 a3 a4 a5 a6 a7 a8
  obtain ⟨hx, hb, hown, hts, hK, -⟩ := C
  have hi : InR i := okH a7
  have he := wC_at (cI := cI) (cZ := cZ) (cJ := cJ) (ad := ad) (h := h) hy
  rw [eC_i] at he
  refine va_iald hx hb hK a1 r 0 he rfl (i := i32 i) (i32_in hi o.1 o.2) d ?_
  have e1 : ((i32 i).toNatClampNeg : Int) = i := by rw [i32_clamp hi]; omega
  rw [e1]
  exact kk H locs ls a1 a2 a3 a4 a5 a6 (okS1 (v := vi (h r i)) (a4 r i) (okT (okT a7))) a8
theorem r_baload {r N : Nat} {i : Int} (C : CX X cc own f n nL) (d : decode cc pc = .ok (.baload, 1)) (hy : lay[r]? = some (.inl (1, N))) (o : 0 ≤ i ∧ i < N) (kk : Wh X (pc + 1) L (vi (h r i) :: st) h k) : Wh X pc L (vi i :: vr r :: st) h k := by
  obtain ⟨p, l, e, R, s, m, args, below, meth, c, D, ad, cI, cZ, cJ, A, h0, M, post, px, mc, ret⟩ := X
  intro H locs ls a1 a2 a3 a4 a5 a6 a7 a8
  obtain ⟨hx, hb, hown, hts, hK, -⟩ := C
  have hi : InR i := okH a7
  have he := wC_at (cI := cI) (cZ := cZ) (cJ := cJ) (ad := ad) (h := h) hy
  rw [eC_z] at he
  refine va_zald hx hb hK a1 r 1 he rfl (i := i32 i) (i32_in hi o.1 o.2) d ?_
  have e1 : ((i32 i).toNatClampNeg : Int) = i := by rw [i32_clamp hi]; omega
  rw [e1]
  exact kk H locs ls a1 a2 a3 a4 a5 a6 (okS1 (v := vi (h r i)) (a4 r i) (okT (okT a7))) a8
theorem r_iastore {r N : Nat} {i x : Int} {M : List Nat} (C : CX X cc own f n nL) (d : decode cc pc = .ok (.iastore, 1)) (hy : lay[r]? = some (.inl (0, N))) (hM : XM X = M) (hr : r ∈ M) (o : 0 ≤ i ∧ i < N) (kk : Wh X (pc + 1) L st (hup h r i x) k) : Wh X pc L (vi x :: vi i :: vr r :: st) h k := by
  obtain ⟨p, l, e, R, s, m, args, below, meth, c, D, ad, cI, cZ, cJ, A, h0, M, post, px, mc, ret⟩ := X
  intro H locs ls a1 a2 a3 a4 a5 a6 a7 a8
  obtain ⟨hx, hb, hown, hts, hK, -⟩ := C
  cases hM
  have hi : InR i := okH (okT a7)
  have he := wC_at (cI := cI) (cZ := cZ) (cJ := cJ) (ad := ad) (h := h) hy
  rw [eC_i] at he
  have e1 : (wC cI cZ cJ ad h).set r (ad r, .inl (cI, N, .inl (upd (fun j => i32 (h r j)) (i32 i).toNatClampNeg (i32 x)))) = wC cI cZ cJ ad (hup h r i x) :=
    wC_set hy (fun a ha => hup_k ha) (by rw [eC_i, i32_clamp hi, upd_hup o.1])
  refine va_iast hx hb hK a1 a2 a3 r 0 he rfl (i := i32 i) (x := i32 x) (i32_in hi o.1 o.2) d (fun H1 locs1 b1 b2 b3 => ?_)
  rw [e1] at b1 b2
  exact kk H1 locs1 ls b1 b2 b3 (a4.up (okH a7)) (a5.up hr) a6 (okT (okT (okT a7))) a8
theorem r_bastore {r N : Nat} {i x : Int} {M : List Nat} (C : CX X cc own f n nL) (d : decode cc pc = .ok (.bastore, 1)) (hy : lay[r]? = some (.inl (1, N))) (hM : XM X = M) (hr : r ∈ M) (o : 0 ≤ i ∧ i < N) (o1 : x = 0 ∨ x = 1) (kk : Wh X (pc + 1) L st (hup h r i x) k) : Wh X pc L (vi x :: vi i :: vr r :: st) h k := by
  obtain ⟨p, l, e, R, s, m, args, below, meth, c, D, ad, cI, cZ, cJ, A, h0, M, post, px, mc, ret⟩ := X
  intro H locs ls a1 a2 a3 a4 a5 a6 a7 a8
  obtain ⟨hx, hb, hown, hts, hK, -⟩ := C
  cases hM
  have hi : InR i := okH (okT a7)
  have he := wC_at (cI := cI) (cZ := cZ) (cJ := cJ) (ad := ad) (h := h) hy
  rw [eC_z] at he
  have ex : vp_nar .boolean (i32 x) = i32 x := by rcases o1 with rfl | rfl <;> rfl
  have e1 : (wC cI cZ cJ ad h).set r (ad r, .inl (cZ, N, .inl (upd (fun j => i32 (h r j)) (i32 i).toNatClampNeg (vp_nar .boolean (i32 x))))) = wC cI cZ cJ ad (hup h r i x) :=
    wC_set hy (fun a ha => hup_k ha) (by rw [eC_z, i32_clamp hi, ex, upd_hup o.1])
  refine va_zast hx hb hK a1 a2 a3 r 1 he rfl (i := i32 i) (x := i32 x) (i32_in hi o.1 o.2) d (fun H1 locs1 b1 b2 b3 => ?_)
  rw [e1] at b1 b2
  exact kk H1 locs1 ls b1 b2 b3 (a4.up (okH a7)) (a5.up hr) a6 (okT (okT (okT a7))) a8
theorem r_ireturn {x : Int} (C : CX X cc own f n nL) (d : decode cc pc = .ok (.ireturn, 1)) (hret : Xr X = some .int) (hk : k ≤ Xc X) (o : XP X x h) : Wh X pc L [vi x] h k := by
  obtain ⟨p, l, e, R, s, m, args, below, meth, c, D, ad, cI, cZ, cJ, A, h0, M, post, px, mc, ret⟩ := X
  intro H locs ls a1 a2 a3 a4 a5 a6 a7 a8
  obtain ⟨hx, hb, hown, hts, hK, hlocks, hr, -⟩ := C
  cases hret
  have hk : k ≤ mc := hk
  refine W.widen (k := mc) (n := 6 * mc) hk (by omega) (vx_ret ?_)
  exact W.iret (v := i32 x) hx hb hr (fun t ht hW => ⟨⟨i32 x, (x, h), rfl, ⟨rfl, okH a7, a5, a4, o⟩, by show va_P _ _ _ _; rw [ht]; exact a1, va_K.moved hW.alike hK, a2⟩, a3.F ht⟩) a3.2.2 d hlocks
theorem r_zreturn {x : Int} (C : CX X cc own f n nL) (d : decode cc pc = .ok (.ireturn, 1)) (hret : Xr X = some .boolean) (hk : k ≤ Xc X) (o1 : x = 0 ∨ x = 1) (o : XP X x h) : Wh X pc L [vi x] h k := by
  obtain ⟨p, l, e, R, s, m, args, below, meth, c, D, ad, cI, cZ, cJ, A, h0, M, post, px, mc, ret⟩ := X
  intro H locs ls a1 a2 a3 a4 a5 a6 a7 a8
  obtain ⟨hx, hb, hown, hts, hK, hlocks, hr, -⟩ := C
  cases hret
  have hk : k ≤ mc := hk
  refine W.widen (k := mc) (n := 6 * mc) hk (by omega) (vx_ret ?_)
  exact W.zret (v := i32 x) hx hb hr (by rcases o1 with rfl | rfl <;> rfl) (fun t ht hW => ⟨⟨i32 x, (x, h), rfl, ⟨rfl, okH a7, a5, a4, o⟩, by show va_P _ _ _ _; rw [ht]; exact a1, va_K.moved hW.alike hK, a2⟩, a3.F ht⟩) a3.2.2 d hlocks
theorem r_return (C : CX X cc own f n nL) (d : decode cc pc = .ok (.return_, 1)) (hret : Xr X = none) (hk : k ≤ Xc X) (o : XP X 0 h) : Wh X pc L [] h k := by
  obtain ⟨p, l, e, R, s, m, args, below, meth, c, D, ad, cI, cZ, cJ, A, h0, M, post, px, mc, ret⟩ := X
  intro H locs ls a1 a2 a3 a4 a5 a6 a7 a8
  obtain ⟨hx, hb, hown, hts, hK, hlocks, hr, -⟩ := C
  cases hret
  have hk : k ≤ mc := hk
  refine W.widen (k := mc) (n := 6 * mc) hk (by omega) (vx_ret ?_)
  exact W.vret hx hb hr (fun t ht hW => ⟨⟨h, rfl, ⟨a5, a4, o⟩, by show va_P _ _ _ _; rw [ht]; exact a1, va_K.moved hW.alike hK, a2⟩, a3.F ht⟩) a3.2.2 d hlocks
end EngineRows3
end
section
/-! the engine's contracts and calls -/
theorem goodL : wsL_law.all goodWord = true := by decide +kernel
theorem goodW (w : Cond) (hw : w ∈ wsL_law) : goodWord w = true := List.all_eq_true.mp goodL w hw
/-- the contract of a method in the one world: args, picture, changed cells; what is owed at a return, which class may be thrown -/
def Ct (l : Launch) (y : MethodName) (cc : ByteArray) (nL : Nat) (ret : Option FieldType) (f n mc : Nat) (av : List Vv) (h0 : Hp) (M : List Nat) (post : Int → Hp → Prop) (px : String → Prop) : Prop :=
  ∀ (D : va_G) (cI cZ cJ : ClassId) (ad : Nat → Nat) (sz : Nat), vx_Met l y (.code y cc nL ret :: wsL_law) { frames := f, cells := mc, slots := 6 * mc, locals := n }
    (va_Pc (av.map (cV ad)) (fun U => U.heap.size = sz ∧ RH h0 ∧ (∀ v ∈ av, okL v) ∧ bW D cI cZ cJ ad (fun _ => True) h0 U ∧ EV (va_A (wC cI cZ cJ ad h0) sz) U U.heap))
    (QcX D cI cZ cJ ad (va_A (wC cI cZ cJ ad h0) sz) h0 M post ret) (XcX D cI cZ cJ ad (va_A (wC cI cZ cJ ad h0) sz) h0 px) mc (6 * mc) (va_A (wC cI cZ cJ ad h0) sz)
def aL : Nat → List Vv → List (Nat × Vv)
  | _, [] => []
  | i, v :: r => (i, v) :: aL (i + 1) r
theorem aL_args {ad : Nat → Nat} : ∀ (av : List Vv) (i : Nat), (∀ v ∈ av, okL v) → lv_args i (av.map (cV ad)) = (aL i av).map (fun q => (q.1, cV ad q.2)) := by
  intro av
  induction av with
  | nil => intro i _; rfl
  | cons v r ih =>
    intro i hv
    have h1 := hv v List.mem_cons_self
    have hc : ¬ (cV ad v).category = 2 := by
      obtain x | x | x := v
      · exact fun z => by cases z
      · exact absurd h1 (by exact id)
      · exact fun z => by cases z
    simp only [List.map_cons, lv_args, aL, if_neg hc]
    rw [ih (i + 1) (fun w hw => hv w (List.mem_cons_of_mem _ hw))]
theorem lg_len {ad : Nat → Nat} : ∀ (av : List Vv), (∀ v ∈ av, okL v) → (lg_sl (av.map (cV ad))).length = av.length := by
  intro av
  induction av with
  | nil => intro _; rfl
  | cons v r ih =>
    intro hv
    have h1 := hv v List.mem_cons_self
    have hc : ¬ (cV ad v).category = 2 := by
      obtain x | x | x := v
      · exact fun z => by cases z
      · exact absurd h1 (by exact id)
      · exact fun z => by cases z
    have h2 := ih (fun w hw => hv w (List.mem_cons_of_mem _ hw))
    unfold lg_sl at h2 ⊢
    rw [List.map_cons, List.flatMap_cons, if_neg hc, List.length_append, h2]
    simp [Nat.add_comm]
theorem aL_ok : ∀ (av : List Vv) (i : Nat), (∀ v ∈ av, okL v) → ∀ q ∈ aL i av, okL q.2 := by
  intro av
  induction av with
  | nil => intro i _ q hq; cases hq
  | cons v r ih =>
    intro i hv q hq
    rcases List.mem_cons.mp hq with e | e
    · rw [e]; exact hv v List.mem_cons_self
    · exact ih (i + 1) (fun w hw => hv w (List.mem_cons_of_mem _ hw)) q e
theorem EV.narrow {A B : Nat → Prop} {U : State} {H : Heap} (h : EV A U H) (hAB : ∀ q, B q → A q) : EV B U H := ⟨h.1.narrow hAB, h.2.1.narrow hAB, h.2.2⟩
theorem EV.kept {A : Nat → Prop} {U : State} {H H1 : Heap} (h : EV A U H) (hq : ∀ a : Nat, a < H.size → ¬ A a → H1[a]? = H[a]?) : EV A U H1 := ⟨h.1.kept hq, h.2.1.kept hq, h.2.2⟩
set_option maxHeartbeats 4000000 in
/-- a contract out of the walk of its body -/
theorem Ct.of {l : Launch} {y : MethodName} {cc : ByteArray} {nL : Nat} {ret : Option FieldType} {f n mc : Nat} {av : List Vv} {h0 : Hp} {M : List Nat} {post : Int → Hp → Prop} {px : String → Prop} {own : String} (hy : plainName y.cls = true) (hown0 : y.cls = own) (hlen : av.length ≤ nL)
    (body : ∀ X : CxT, CX X cc own f n nL → Xl X = l → XM X = M → Xh X = h0 → XP X = post → XX X = px → Xc X = mc → Xr X = ret → (∀ v ∈ av, okL v) → RH h0 → Wh X 0 (aL 0 av) [] h0 0) : Ct l y cc nL ret f n mc av h0 M post px := by
  intro D cI cZ cJ ad sz
  refine vx_ofW (cc := cc) (maxL := nL) (ret := ret) hy rfl ?_
  intro p e s m args below meth c s₁ B hml htab hv
  obtain ⟨rfl, hsz, hR, hav, ⟨hP, hK, hD0⟩, hEV⟩ := hv
  have hts := atoms_spec (ws := Cond.code y cc nL ret :: wsL_law) B.pre
  have hown : s.vm.findClass own = some m.cls := by rw [← hown0]; exact findClass_of_methodNamed B.named
  subst hsz
  have hD := hD0.self (sz := s.heap.size)
  generalize hAe : va_A (wC cI cZ cJ ad h0) s.heap.size = A at hD hEV ⊢
  have hA : ∀ q : Nat, s.heap.size ≤ q → A q := fun q h => by rw [← hAe]; exact Or.inr h
  have hl := lv_entry (av.map (cV ad)) (n := nL) (by rw [lg_len av hav]; exact hlen)
  rw [aL_args av 0 hav] at hl
  rw [lg_entry_eq]
  refine body (p, l, e, { frames := f, cells := mc, slots := 6 * mc, locals := n }, s, m, (av.map (cV ad)).toArray, below, meth, c, D, ad, cI, cZ, cJ, A, h0, M, post, px, mc, ret) ?_ rfl rfl rfl rfl rfl rfl rfl hav hR s.heap [] _ hP hD va_S.rf hR Fr.rf (aL_ok av 0 hav) (fun v hv => by cases hv) (by rw [hml]; exact hl)
  exact ⟨B.exec, B.bytes, hown, fun w hw => hts w (List.mem_cons_of_mem _ hw), hK, B.notSynchronized, B.returns, htab, hA, Nat.le_refl _, Nat.le_refl _, rfl, rfl, hEV, hml⟩
theorem catSum (ad : Nat → Nat) : ∀ (rest : List Vv), ((rest.map (cV ad)).map (fun v => v.category)).sum ≤ 2 * rest.length := by
  intro rest
  induction rest with
  | nil => exact Nat.le_refl _
  | cons v r ih =>
    have h1 : (cV ad v).category ≤ 2 := by obtain x | x | x := v <;> simp [cV, Value.category]
    simp only [List.map_cons, List.sum_cons, List.length_cons]
    omega
section EngineCalls
variable {X : CxT} {cc : ByteArray} {own : String} {f n nL pc k : Nat} {L : List (Nat × Vv)} {st : List Vv} {h : Hp}
/-- what stands ready for a call: the words, the receiver, the room -/
def CallOk (y : MethodName) (ccY : ByteArray) (nLY : Nat) (retY : Option FieldType) (Cn own : String) (idx na : Nat) : Prop :=
  y.cls = Cn ∧ (y.cls ≠ "java/lang/invoke/MethodHandle" ∧ y.cls ≠ "java/lang/invoke/VarHandle" ∧ (parseMethodDescriptor y.desc).map (fun d => d.parameters.length) = some na) ∧ Cond.methodLink own idx y ∈ wsL_law ∧ Cond.instanceMethod y ∈ wsL_law ∧ Cond.selects Cn y y ∈ wsL_law ∧ Cond.initialized Cn ∈ wsL_law ∧ Cond.code y ccY nLY retY ∈ wsL_law
set_option maxHeartbeats 4000000 in
theorem r_calli {y : MethodName} {ccY : ByteArray} {nLY : Nat} {tyY : FieldType} {fY nY mcY idx r ci N : Nat} {Cn : String} {T : u_T} {fs : List (Option Nat)} {av rest : List Vv} {MY : List Nat} {postY : Int → Hp → Prop} {pxY : String → Prop}
    (C : CX X cc own f n nL) (d : decode cc pc = .ok (.invokevirtual idx, 3)) (hC : Ct (Xl X) y ccY nLY (some tyY) fY nY mcY (vr r :: av) h MY postY pxY) (ok : CallOk y ccY nLY (some tyY) Cn own idx av.length) (hst : st = av.reverse ++ vr r :: rest)
    (hy : lay[r]? = some (.inr (ci, fs))) (hc : vwCl[ci]? = some (Cn, T, N)) (hav : ∀ v ∈ av, v1 v) (hf : fY + 1 ≤ f) (hn : 8 + (nLY + 11) + nY ≤ n) (hrest : rest.length ≤ 4) (hmc : k + mcY ≤ Xc X) (hM : ∀ a ∈ MY, a ∈ XM X)
    (kx : ∀ E, pxY E → XX X E ∧ h = Xh X)
    (kk : ∀ (r' : Int) (h' : Hp), Fr MY h h' → RH h' → InR r' → postY r' h' → Wh X (pc + 3) L (vi r' :: rest) h' (k + mcY)) : Wh X pc L st h k := by
  obtain ⟨p, l, e, R, s, m, args, below, meth, c, D, ad, cI, cZ, cJ, A, h0, M, post, px, mc, ret⟩ := X
  intro H locs ls a1 a2 a3 a4 a5 a6 a7 a8
  obtain ⟨hx, hb, hown, hts, hK, hlocks, hr, htab, hA, hRf, hRl, hRc, hRs, hEV, hml⟩ := C
  obtain ⟨o1, o2, w1, w2, w3, w4, w5⟩ := ok
  subst hst
  have hmc : k + mcY ≤ mc := hmc
  have avok : ∀ v ∈ vr r :: av, okL v := by
    intro v hv
    rcases List.mem_cons.mp hv with e1 | e1
    · rw [e1]; exact trivial
    · have g1 := hav v e1
      have g2 := a7 v (List.mem_append_left _ (List.mem_reverse.mpr e1))
      obtain x | x | x := v
      · exact g2
      · exact absurd g1 (by exact id)
      · exact trivial
  have hsub : ∀ q, va_A (wC cI cZ cJ ad h) H.size q → A q := by
    intro q hq
    rcases hq with ⟨j, e1, hj⟩ | hq
    · exact a2.2 j _ hj
    · exact hA q (Nat.le_trans a3.1 hq)
  have he := wC_at (cI := cI) (cZ := cZ) (cJ := cJ) (ad := ad) (h := h) hy
  rw [eC_o] at he
  have hG : GoodIn wsL_law (Cond.code y ccY nLY (some tyY) :: wsL_law) := fun w hw => by
    have h1 : w ∈ wsL_law := (List.mem_cons.mp hw).elim (fun q => by rw [q]; exact w5) id
    exact ⟨h1, good_of_word (goodW w h1)⟩
  have hCW : CallW R s args own Cn idx y ccY nLY (some tyY) (Cond.code y ccY nLY (some tyY) :: wsL_law) { frames := fY, cells := mcY, slots := 6 * mcY, locals := nY } mcY (6 * mcY) av.length := by
    refine ⟨⟨rfl, rfl, Nat.le_trans hf hRf, Nat.le_trans hn hRl, pay_in hts hG, List.mem_cons_self, hts _ w5, ?_, ⟨o2.1, o2.2.1⟩, fun sig hs => ?_, hts _ w1⟩, hts _ w2, hts _ w3⟩
    · rw [o1]; exact hts _ w4
    · have h2 := o2.2.2
      rw [hs] at h2
      exact (Option.some.inj h2).symm
  have hPre : PreV s H Cn (ad r) (va_Pc ((vr r :: av).map (cV ad)) (fun U => U.heap.size = H.size ∧ RH h ∧ (∀ v ∈ vr r :: av, okL v) ∧ bW D cI cZ cJ ad (fun _ => True) h U ∧ EV (va_A (wC cI cZ cJ ad h) H.size) U U.heap)) (av.map (cV ad)) := by
    refine ⟨fun a U g mk q => ?_, va_recv hK a1 hc he, fun U hU hW => ⟨rfl, by rw [hU], a4, avok, ⟨by rw [hU]; exact a1, va_K.moved hW.alike hK, a2.weaken (fun _ _ _ _ => trivial)⟩, ?_⟩⟩
    · obtain ⟨q0, q1, q2, q3, ⟨qP, qK, qD⟩, qE⟩ := q
      exact ⟨q0, q1, q2, q3, ⟨qP, va_K.moved (u := U) (U := U.calling g mk a) (Vm.Alike.refl U.vm) qK, qD⟩, ⟨vx_Zq.moved (u := U) (U := U.calling g mk a) (Vm.Alike.refl U.vm) qE.1, vx_Zq.moved (u := U) (U := U.calling g mk a) (Vm.Alike.refl U.vm) qE.2.1, fun w hw => by cases hw⟩⟩
    · rw [hU]
      have e1 : EV A s H := hEV.kept a3.2.1
      exact ⟨vx_Zq.moved hW.alike (e1.1.narrow hsub), vx_Zq.moved hW.alike (e1.2.1.narrow hsub), fun w hw => by cases hw⟩
  have hsz : ls.size = c.maxLocals := a8.1
  have hk6 : 6 * k + 6 * mcY = 6 * (k + mcY) := by omega
  have hrun := vx_runV (g := F0 m pc ls ((av.reverse ++ vr r :: rest).map (cV ad))) (rest := rest.map (cV ad)) (As := av.map (cV ad)) (cells := k) (slots := 6 * k) (e := e) (below := below) (meth := meth) (locs := locs) ⟨hx, hb, hml, hown, hts⟩ (hC D cI cZ cJ ad H.size) hCW hPre rfl (List.length_map ..) (by rw [← hml]; exact hsz)
    (by simp [List.map_append, List.map_reverse, cV]) (by show 2 * 0 + _ ≤ 8; have := catSum ad rest; simp only [List.map_map] at this ⊢; omega) d ⟨by show k + mcY ≤ R.cells; rw [hRc]; exact hmc, by show 6 * k + 6 * mcY ≤ R.slots; rw [hRs]; omega⟩
  refine vx_calli (a := (Value.ref (ad r) :: av.map (cV ad)).toArray) hrun a3 (fun q _ hq => hsub q hq) hsub (fun q _ hq => hsub q hq) ?_ ?_
  · intro E ce q9 u t H1 locs1 ht hal hpx hBX hz hkp hS1 hce hcv hcl
    obtain ⟨b1, b2, b3, b4⟩ := hBX
    obtain ⟨c1, c2⟩ := kx E b1
    have c2 : h = h0 := c2
    subst c2
    refine vx_out (fun x hx9 => absurd (htab x hx9) id) hlocks hce hcv hcl (fun t2 ht2 hal2 => ⟨(), trivial, ⟨c1, ?_, va_K.moved hal2 hK, b4.weaken (fun _ q _ hq => hsub q.1 hq)⟩, hS1.F ht2⟩) hS1.2.2 hmc (by omega)
    rw [ht2, ← ht]; exact b2
  · intro r' u t H1 locs1 ht hal hp hB hz hkp hS1
    obtain ⟨p1, p2, p3, p4, p5⟩ := hp
    obtain ⟨b2, b3, b4⟩ := hB
    rw [p1, hk6]
    refine kk u.1 u.2 p3 p4 p2 p5 H1 locs1 ls (by rw [← ht]; exact b2) (b4.weaken (fun _ q _ hq => hsub q.1 hq)) hS1 p4 (a5.trans p3 hM) a6 (okS1 (v := vi u.1) p2 (fun w hw => a7 w (List.mem_append_right _ (List.mem_cons_of_mem _ hw)))) a8
set_option maxHeartbeats 4000000 in
theorem r_callv {y : MethodName} {ccY : ByteArray} {nLY : Nat} {fY nY mcY idx r ci N : Nat} {Cn : String} {T : u_T} {fs : List (Option Nat)} {av rest : List Vv} {MY : List Nat} {postY : Int → Hp → Prop} {pxY : String → Prop}
    (C : CX X cc own f n nL) (d : decode cc pc = .ok (.invokevirtual idx, 3)) (hC : Ct (Xl X) y ccY nLY none fY nY mcY (vr r :: av) h MY postY pxY) (ok : CallOk y ccY nLY none Cn own idx av.length) (hst : st = av.reverse ++ vr r :: rest)
    (hy : lay[r]? = some (.inr (ci, fs))) (hc : vwCl[ci]? = some (Cn, T, N)) (hav : ∀ v ∈ av, v1 v) (hf : fY + 1 ≤ f) (hn : 8 + (nLY + 11) + nY ≤ n) (hrest : rest.length ≤ 4) (hmc : k + mcY ≤ Xc X) (hM : ∀ a ∈ MY, a ∈ XM X)
    (kx : ∀ E, pxY E → XX X E ∧ h = Xh X)
    (kk : ∀ (h' : Hp), Fr MY h h' → RH h' → postY 0 h' → Wh X (pc + 3) L rest h' (k + mcY)) : Wh X pc L st h k := by
  obtain ⟨p, l, e, R, s, m, args, below, meth, c, D, ad, cI, cZ, cJ, A, h0, M, post, px, mc, ret⟩ := X
  intro H locs ls a1 a2 a3 a4 a5 a6 a7 a8
  obtain ⟨hx, hb, hown, hts, hK, hlocks, hr, htab, hA, hRf, hRl, hRc, hRs, hEV, hml⟩ := C
  obtain ⟨o1, o2, w1, w2, w3, w4, w5⟩ := ok
  subst hst
  have hmc : k + mcY ≤ mc := hmc
  have avok : ∀ v ∈ vr r :: av, okL v := by
    intro v hv
    rcases List.mem_cons.mp hv with e1 | e1
    · rw [e1]; exact trivial
    · have g1 := hav v e1
      have g2 := a7 v (List.mem_append_left _ (List.mem_reverse.mpr e1))
      obtain x | x | x := v
      · exact g2
      · exact absurd g1 (by exact id)
      · exact trivial
  have hsub : ∀ q, va_A (wC cI cZ cJ ad h) H.size q → A q := by
    intro q hq
    rcases hq with ⟨j, e1, hj⟩ | hq
    · exact a2.2 j _ hj
    · exact hA q (Nat.le_trans a3.1 hq)
  have he := wC_at (cI := cI) (cZ := cZ) (cJ := cJ) (ad := ad) (h := h) hy
  rw [eC_o] at he
  have hG : GoodIn wsL_law (Cond.code y ccY nLY none :: wsL_law) := fun w hw => by
    have h1 : w ∈ wsL_law := (List.mem_cons.mp hw).elim (fun q => by rw [q]; exact w5) id
    exact ⟨h1, good_of_word (goodW w h1)⟩
  have hCW : CallW R s args own Cn idx y ccY nLY none (Cond.code y ccY nLY none :: wsL_law) { frames := fY, cells := mcY, slots := 6 * mcY, locals := nY } mcY (6 * mcY) av.length := by
    refine ⟨⟨rfl, rfl, Nat.le_trans hf hRf, Nat.le_trans hn hRl, pay_in hts hG, List.mem_cons_self, hts _ w5, ?_, ⟨o2.1, o2.2.1⟩, fun sig hs => ?_, hts _ w1⟩, hts _ w2, hts _ w3⟩
    · rw [o1]; exact hts _ w4
    · have h2 := o2.2.2
      rw [hs] at h2
      exact (Option.some.inj h2).symm
  have hPre : PreV s H Cn (ad r) (va_Pc ((vr r :: av).map (cV ad)) (fun U => U.heap.size = H.size ∧ RH h ∧ (∀ v ∈ vr r :: av, okL v) ∧ bW D cI cZ cJ ad (fun _ => True) h U ∧ EV (va_A (wC cI cZ cJ ad h) H.size) U U.heap)) (av.map (cV ad)) := by
    refine ⟨fun a U g mk q => ?_, va_recv hK a1 hc he, fun U hU hW => ⟨rfl, by rw [hU], a4, avok, ⟨by rw [hU]; exact a1, va_K.moved hW.alike hK, a2.weaken (fun _ _ _ _ => trivial)⟩, ?_⟩⟩
    · obtain ⟨q0, q1, q2, q3, ⟨qP, qK, qD⟩, qE⟩ := q
      exact ⟨q0, q1, q2, q3, ⟨qP, va_K.moved (u := U) (U := U.calling g mk a) (Vm.Alike.refl U.vm) qK, qD⟩, ⟨vx_Zq.moved (u := U) (U := U.calling g mk a) (Vm.Alike.refl U.vm) qE.1, vx_Zq.moved (u := U) (U := U.calling g mk a) (Vm.Alike.refl U.vm) qE.2.1, fun w hw => by cases hw⟩⟩
    · rw [hU]
      have e1 : EV A s H := hEV.kept a3.2.1
      exact ⟨vx_Zq.moved hW.alike (e1.1.narrow hsub), vx_Zq.moved hW.alike (e1.2.1.narrow hsub), fun w hw => by cases hw⟩
  have hsz : ls.size = c.maxLocals := a8.1
  have hk6 : 6 * k + 6 * mcY = 6 * (k + mcY) := by omega
  have hrun := vx_runV (g := F0 m pc ls ((av.reverse ++ vr r :: rest).map (cV ad))) (rest := rest.map (cV ad)) (As := av.map (cV ad)) (cells := k) (slots := 6 * k) (e := e) (below := below) (meth := meth) (locs := locs) ⟨hx, hb, hml, hown, hts⟩ (hC D cI cZ cJ ad H.size) hCW hPre rfl (List.length_map ..) (by rw [← hml]; exact hsz)
    (by simp [List.map_append, List.map_reverse, cV]) (by show 2 * 0 + _ ≤ 8; have := catSum ad rest; simp only [List.map_map] at this ⊢; omega) d ⟨by show k + mcY ≤ R.cells; rw [hRc]; exact hmc, by show 6 * k + 6 * mcY ≤ R.slots; rw [hRs]; omega⟩
  refine vx_callv (a := (Value.ref (ad r) :: av.map (cV ad)).toArray) hrun a3 (fun q _ hq => hsub q hq) hsub (fun q _ hq => hsub q hq) ?_ ?_
  · intro E ce q9 u t H1 locs1 ht hal hpx hBX hz hkp hS1 hce hcv hcl
    obtain ⟨b1, b2, b3, b4⟩ := hBX
    obtain ⟨c1, c2⟩ := kx E b1
    have c2 : h = h0 := c2
    subst c2
    refine vx_out (fun x hx9 => absurd (htab x hx9) id) hlocks hce hcv hcl (fun t2 ht2 hal2 => ⟨(), trivial, ⟨c1, ?_, va_K.moved hal2 hK, b4.weaken (fun _ q _ hq => hsub q.1 hq)⟩, hS1.F ht2⟩) hS1.2.2 hmc (by omega)
    rw [ht2, ← ht]; exact b2
  · intro u t H1 locs1 ht hal hp hB hz hkp hS1
    obtain ⟨p3, p4, p5⟩ := hp
    obtain ⟨b2, b3, b4⟩ := hB
    rw [hk6]
    refine kk u p3 p4 p5 H1 locs1 ls (by rw [← ht]; exact b2) (b4.weaken (fun _ q _ hq => hsub q.1 hq)) hS1 p4 (a5.trans p3 hM) a6 (fun w hw => a7 w (List.mem_append_right _ (List.mem_cons_of_mem _ hw))) a8
end EngineCalls
end
section
/-! the engine's rows as the walks use them: a stored value gets a name, a changed picture gets a name; fewer locals -/
section EngineS
variable {X : CxT} {cc : ByteArray} {own : String} {f n nL pc k : Nat} {L : List (Nat × Vv)} {st : List Vv} {h : Hp}
theorem s_sub {L' : List (Nat × Vv)} (ks : List Nat) (hl : ks.filterMap (fun j => L[j]?) = L') (kk : Wh X pc L' st h k) : Wh X pc L st h k := by
  obtain ⟨p, l, e, R, s, m, args, below, meth, c, D, ad, cI, cZ, cJ, A, h0, M, post, px, mc, ret⟩ := X
  intro H locs ls a1 a2 a3 a4 a5 a6 a7 a8
  have hsub : ∀ q ∈ L', q ∈ L := by
    intro q hq
    subst hl
    obtain ⟨j, -, hj⟩ := List.mem_filterMap.mp hq
    exact List.mem_of_getElem? hj
  refine kk H locs ls a1 a2 a3 a4 a5 (fun q hq => a6 q (hsub q hq)) a7 ⟨a8.1, a8.2.1, fun q hq => ?_⟩
  obtain ⟨w, hw, rfl⟩ := List.mem_map.mp hq
  exact a8.2.2 _ (List.mem_map.mpr ⟨w, hsub w hw, rfl⟩)
/-- what every state has: the picture in range, what may not change unchanged, the locals in range -/
theorem s_use (kk : RH h → Fr (XM X) (Xh X) h → (∀ q ∈ L, okL q.2) → Wh X pc L st h k) : Wh X pc L st h k := by
  obtain ⟨p, l, e, R, s, m, args, below, meth, c, D, ad, cI, cZ, cJ, A, h0, M, post, px, mc, ret⟩ := X
  intro H locs ls a1 a2 a3 a4 a5 a6 a7 a8
  exact kk a4 a5 a6 H locs ls a1 a2 a3 a4 a5 a6 a7 a8
theorem s_istore_n {q : Fin 4} {x : Int} (C : CX X cc own f n nL) (d : decode cc pc = .ok (.istore_n q, 1)) (hn : (q : Nat) < nL) (kk : ∀ y, y = x → Wh X (pc + 1) (((q : Nat), vi y) :: L.filter (fun w => !(w.1 == (q : Nat)))) st h k) : Wh X pc L (vi x :: st) h k := r_istore_n C d hn rfl (kk x rfl)
theorem s_istore {i : Nat} {x : Int} (C : CX X cc own f n nL) (d : decode cc pc = .ok (.istore i, 2)) (hn : i < nL) (kk : ∀ y, y = x → Wh X (pc + 2) ((i, vi y) :: L.filter (fun w => !(w.1 == i))) st h k) : Wh X pc L (vi x :: st) h k := r_istore C d hn rfl (kk x rfl)
theorem s_iinc {i : Nat} {z x : Int} (j : Nat) (C : CX X cc own f n nL) (d : decode cc pc = .ok (.iinc i z, 3)) (hj : L[j]? = some (i, vi x)) (hn : i < nL) (o : InR (x + z)) (kk : ∀ y, y = x + z → Wh X (pc + 3) ((i, vi y) :: L.filter (fun w => !(w.1 == i))) st h k) : Wh X pc L st h k := r_iinc j C d hj hn o rfl (kk _ rfl)
theorem s_iastore {r N : Nat} {i x : Int} {M : List Nat} (C : CX X cc own f n nL) (d : decode cc pc = .ok (.iastore, 1)) (hy : lay[r]? = some (.inl (0, N))) (hM : XM X = M) (hr : r ∈ M) (o : 0 ≤ i ∧ i < N) (kk : ∀ h1, h1 = hup h r i x → Wh X (pc + 1) L st h1 k) : Wh X pc L (vi x :: vi i :: vr r :: st) h k := r_iastore C d hy hM hr o (kk _ rfl)
theorem s_bastore {r N : Nat} {i x : Int} {M : List Nat} (C : CX X cc own f n nL) (d : decode cc pc = .ok (.bastore, 1)) (hy : lay[r]? = some (.inl (1, N))) (hM : XM X = M) (hr : r ∈ M) (o : 0 ≤ i ∧ i < N) (o1 : x = 0 ∨ x = 1) (kk : ∀ h1, h1 = hup h r i x → Wh X (pc + 1) L st h1 k) : Wh X pc L (vi x :: vi i :: vr r :: st) h k := r_bastore C d hy hM hr o o1 (kk _ rfl)
theorem s_putI {r i idx ci N : Nat} {x : Int} {fs : List (Option Nat)} {Cn : String} {T : u_T} {ty0 : Nat → FieldType} {M : List Nat} (C : CX X cc own f n nL) (d : decode cc pc = .ok (.putfield idx, 3)) (hy : lay[r]? = some (.inr (ci, fs))) (hc : vwCl[ci]? = some (Cn, T, N)) (hi : i < N) (hf : fs[i]? = some none) (hin : ∀ w ∈ u_ws Cn T N, w ∈ wsL_law) (hl : Cond.fieldLink own idx (T i).1 (T i).2.1 (T i).2.2.1 ∈ wsL_law)
    (hty : ∀ k, k < N → parseFieldDescriptor (T k).2.2.1 = some (ty0 k)) (hnm : ∀ a, a < N → ∀ b, b < N → a ≠ b → (T a).2.1 ≠ (T b).2.1) (hfin : (T i).2.2.2 = false) (hint : parseFieldDescriptor (T i).2.2.1 = some .int) (hM : XM X = M) (hr : r ∈ M)
    (kk : ∀ h1, h1 = hup h r i x → Wh X (pc + 3) L st h1 k) : Wh X pc L (vi x :: vr r :: st) h k := r_putI C d hy hc hi hf hin hl hty hnm hfin hint hM hr (kk _ rfl)
theorem v1s (xs : List Int) : ∀ v ∈ xs.map vi, v1 v := by
  intro v hv
  obtain ⟨x, -, rfl⟩ := List.mem_map.mp hv
  exact trivial
theorem fr0 {h h1 : Hp} (a : Fr [] h h1) : h1 = h := funext fun q => a q (fun z => by cases z)
/-- a call of a method that returns an int (or a boolean), and changes cells -/
theorem s_calli {y : MethodName} {ccY : ByteArray} {nLY : Nat} {tyY : FieldType} {fY nY idx r ci N : Nat} {Cn : String} {T : u_T} {fs : List (Option Nat)} (xs : List Int) (rest : List Vv) {MY : List Nat} {postY : Int → Hp → Prop}
    (C : CX X cc own f n nL) (d : decode cc pc = .ok (.invokevirtual idx, 3)) (ok : CallOk y ccY nLY (some tyY) Cn own idx xs.length) (hy : lay[r]? = some (.inr (ci, fs))) (hc : vwCl[ci]? = some (Cn, T, N)) (hf : fY + 1 ≤ f) (hn : 8 + (nLY + 11) + nY ≤ n) (hrest : rest.length ≤ 4) (hst : st = (xs.map vi).reverse ++ vr r :: rest) {M : List Nat} (hXM : XM X = M) (hM : ∀ a ∈ MY, a ∈ M)
    (hC : Ct (Xl X) y ccY nLY (some tyY) fY nY 0 (vr r :: xs.map vi) h MY postY (fun _ => False))
    (kk : ∀ (r' : Int) (h' : Hp), Fr MY h h' → RH h' → InR r' → postY r' h' → Wh X (pc + 3) L (vi r' :: rest) h' 0) : Wh X pc L st h 0 :=
  r_calli (k := 0) (mcY := 0) (av := xs.map vi) (rest := rest) C d hC (by rw [List.length_map]; exact ok) hst hy hc (v1s xs) hf hn hrest (Nat.zero_le _) (by rw [hXM]; exact hM) (fun E hE => absurd hE id) kk
/-- .. and changes none -/
theorem s_calli0 {y : MethodName} {ccY : ByteArray} {nLY : Nat} {tyY : FieldType} {fY nY idx r ci N : Nat} {Cn : String} {T : u_T} {fs : List (Option Nat)} (xs : List Int) (rest : List Vv) {postY : Int → Hp → Prop}
    (C : CX X cc own f n nL) (d : decode cc pc = .ok (.invokevirtual idx, 3)) (ok : CallOk y ccY nLY (some tyY) Cn own idx xs.length) (hy : lay[r]? = some (.inr (ci, fs))) (hc : vwCl[ci]? = some (Cn, T, N)) (hf : fY + 1 ≤ f) (hn : 8 + (nLY + 11) + nY ≤ n) (hrest : rest.length ≤ 4) (hst : st = (xs.map vi).reverse ++ vr r :: rest)
    (hC : Ct (Xl X) y ccY nLY (some tyY) fY nY 0 (vr r :: xs.map vi) h [] postY (fun _ => False))
    (kk : ∀ (r' : Int), InR r' → postY r' h → Wh X (pc + 3) L (vi r' :: rest) h 0) : Wh X pc L st h 0 :=
  r_calli (k := 0) (mcY := 0) (av := xs.map vi) (rest := rest) C d hC (by rw [List.length_map]; exact ok) hst hy hc (v1s xs) hf hn hrest (Nat.zero_le _) (fun _ q => by cases q) (fun E hE => absurd hE id) (fun r' h' g1 _ g3 g4 => by cases fr0 g1; exact kk r' g3 g4)
/-- a call of a void method that changes cells -/
theorem s_callv {y : MethodName} {ccY : ByteArray} {nLY : Nat} {fY nY idx r ci N : Nat} {Cn : String} {T : u_T} {fs : List (Option Nat)} (xs : List Int) (rest : List Vv) {MY : List Nat} {postY : Int → Hp → Prop}
    (C : CX X cc own f n nL) (d : decode cc pc = .ok (.invokevirtual idx, 3)) (ok : CallOk y ccY nLY none Cn own idx xs.length) (hy : lay[r]? = some (.inr (ci, fs))) (hc : vwCl[ci]? = some (Cn, T, N)) (hf : fY + 1 ≤ f) (hn : 8 + (nLY + 11) + nY ≤ n) (hrest : rest.length ≤ 4) (hst : st = (xs.map vi).reverse ++ vr r :: rest) {M : List Nat} (hXM : XM X = M) (hM : ∀ a ∈ MY, a ∈ M)
    (hC : Ct (Xl X) y ccY nLY none fY nY 0 (vr r :: xs.map vi) h MY postY (fun _ => False))
    (kk : ∀ (h' : Hp), Fr MY h h' → RH h' → postY 0 h' → Wh X (pc + 3) L rest h' 0) : Wh X pc L st h 0 :=
  r_callv (k := 0) (mcY := 0) (av := xs.map vi) (rest := rest) C d hC (by rw [List.length_map]; exact ok) hst hy hc (v1s xs) hf hn hrest (Nat.zero_le _) (by rw [hXM]; exact hM) (fun E hE => absurd hE id) kk
/-- a call of a void method that throws E0 where tf holds, and changes nothing -/
theorem s_callx {y : MethodName} {ccY : ByteArray} {nLY : Nat} {fY nY idx r ci N : Nat} {Cn : String} {T : u_T} {fs : List (Option Nat)} (xs : List Int) (rest : List Vv) {postY : Int → Hp → Prop}
    (C : CX X cc own f n nL) (d : decode cc pc = .ok (.invokevirtual idx, 3)) (ok : CallOk y ccY nLY none Cn own idx xs.length) (hy : lay[r]? = some (.inr (ci, fs))) (hc : vwCl[ci]? = some (Cn, T, N)) (hf : fY + 1 ≤ f) (hn : 8 + (nLY + 11) + nY ≤ n) (hrest : rest.length ≤ 4) (hst : st = (xs.map vi).reverse ++ vr r :: rest) {tf : Prop} {E0 : String}
    (hC : ∀ mc, (tf → 1 ≤ mc) → Ct (Xl X) y ccY nLY none fY nY mc (vr r :: xs.map vi) h [] (fun r' h' => ¬ tf ∧ postY r' h') (fun E => tf ∧ E = E0))
    (kx : tf → XX X E0 ∧ h = Xh X ∧ 1 ≤ Xc X)
    (kk : ¬ tf → postY 0 h → Wh X (pc + 3) L rest h 0) : Wh X pc L st h 0 :=
  Classical.byCases (fun ht : tf => r_callv (k := 0) (mcY := 1) (av := xs.map vi) (rest := rest) C d (hC 1 (fun _ => Nat.le_refl 1)) (by rw [List.length_map]; exact ok) hst hy hc (v1s xs) hf hn hrest (kx ht).2.2 (fun _ q => by cases q) (fun E hE => by rw [hE.2]; exact ⟨(kx ht).1, (kx ht).2.1⟩) (fun h' _ _ g => absurd ht g.1))
    (fun ht : ¬ tf => r_callv (k := 0) (mcY := 0) (av := xs.map vi) (rest := rest) C d (hC 0 (fun z => absurd z ht)) (by rw [List.length_map]; exact ok) hst hy hc (v1s xs) hf hn hrest (Nat.zero_le _) (fun _ q => by cases q) (fun E hE => absurd hE.1 ht) (fun h' g1 _ g => by cases fr0 g1; exact kk ht g.2))
end EngineS
end
section
theorem gf_X2_31 {X : CxT} {cc : ByteArray} {f n nL pc : Nat} {L : List (Nat × Vv)} {st : List Vv} {h : Hp} (C : CX X cc RX2 f n nL) (d : decode cc pc = .ok (.getfield 31, 3)) (kk : Wh X (pc + 3) L (vi (h 1 6) :: st) h 0) : Wh X pc L (vr 1 :: st) h 0 := r_getI (r := 1) (i := 6) (idx := 31) (ci := 2) (N := 9) (Cn := RX2) (T := TX2) C d rfl rfl (by decide) rfl inlX2 (by decide +kernel : Cond.fieldLink RX2 31 "PlaneColours$Graph" "vertices" "I" ∈ wsL_law) kk
theorem gf_X2_25 {X : CxT} {cc : ByteArray} {f n nL pc : Nat} {L : List (Nat × Vv)} {st : List Vv} {h : Hp} (C : CX X cc RX2 f n nL) (d : decode cc pc = .ok (.getfield 25, 3)) (kk : Wh X (pc + 3) L (vr 10 :: st) h 0) : Wh X pc L (vr 1 :: st) h 0 := r_getR (q := 10) (r := 1) (i := 4) (idx := 25) (ci := 2) (N := 9) (Cn := RX2) (T := TX2) C d rfl rfl (by decide) rfl inlX2 (by decide +kernel : Cond.fieldLink RX2 25 "PlaneColours$Graph" "firstSide" "[I" ∈ wsL_law) kk
theorem gf_X2_28 {X : CxT} {cc : ByteArray} {f n nL pc : Nat} {L : List (Nat × Vv)} {st : List Vv} {h : Hp} (C : CX X cc RX2 f n nL) (d : decode cc pc = .ok (.getfield 28, 3)) (kk : Wh X (pc + 3) L (vr 11 :: st) h 0) : Wh X pc L (vr 1 :: st) h 0 := r_getR (q := 11) (r := 1) (i := 5) (idx := 28) (ci := 2) (N := 9) (Cn := RX2) (T := TX2) C d rfl rfl (by decide) rfl inlX2 (by decide +kernel : Cond.fieldLink RX2 28 "PlaneColours$Graph" "degrees" "[I" ∈ wsL_law) kk
theorem pf_X2_31 {M : List Nat} {x : Int} {X : CxT} {cc : ByteArray} {f n nL pc : Nat} {L : List (Nat × Vv)} {st : List Vv} {h : Hp} (C : CX X cc RX2 f n nL) (d : decode cc pc = .ok (.putfield 31, 3)) (hM : XM X = M) (hr : 1 ∈ M) (kk : ∀ h1, h1 = hup h 1 6 x → Wh X (pc + 3) L st h1 0) : Wh X pc L (vi x :: vr 1 :: st) h 0 := s_putI (r := 1) (i := 6) (idx := 31) (ci := 2) (N := 9) (Cn := RX2) (T := TX2) C d rfl rfl (by decide) rfl inlX2 (by decide +kernel : Cond.fieldLink RX2 31 "PlaneColours$Graph" "vertices" "I" ∈ wsL_law) tyX2_ok nmX2 rfl (by decide) hM hr kk
theorem gf_X2_35 {X : CxT} {cc : ByteArray} {f n nL pc : Nat} {L : List (Nat × Vv)} {st : List Vv} {h : Hp} (C : CX X cc RX2 f n nL) (d : decode cc pc = .ok (.getfield 35, 3)) (kk : Wh X (pc + 3) L (vi (h 1 7) :: st) h 0) : Wh X pc L (vr 1 :: st) h 0 := r_getI (r := 1) (i := 7) (idx := 35) (ci := 2) (N := 9) (Cn := RX2) (T := TX2) C d rfl rfl (by decide) rfl inlX2 (by decide +kernel : Cond.fieldLink RX2 35 "PlaneColours$Graph" "made" "I" ∈ wsL_law) kk
theorem gf_X2_21 {X : CxT} {cc : ByteArray} {f n nL pc : Nat} {L : List (Nat × Vv)} {st : List Vv} {h : Hp} (C : CX X cc RX2 f n nL) (d : decode cc pc = .ok (.getfield 21, 3)) (kk : Wh X (pc + 3) L (vr 9 :: st) h 0) : Wh X pc L (vr 1 :: st) h 0 := r_getR (q := 9) (r := 1) (i := 3) (idx := 21) (ci := 2) (N := 9) (Cn := RX2) (T := TX2) C d rfl rfl (by decide) rfl inlX2 (by decide +kernel : Cond.fieldLink RX2 21 "PlaneColours$Graph" "isHere" "[Z" ∈ wsL_law) kk
theorem pf_X2_35 {M : List Nat} {x : Int} {X : CxT} {cc : ByteArray} {f n nL pc : Nat} {L : List (Nat × Vv)} {st : List Vv} {h : Hp} (C : CX X cc RX2 f n nL) (d : decode cc pc = .ok (.putfield 35, 3)) (hM : XM X = M) (hr : 1 ∈ M) (kk : ∀ h1, h1 = hup h 1 7 x → Wh X (pc + 3) L st h1 0) : Wh X pc L (vi x :: vr 1 :: st) h 0 := s_putI (r := 1) (i := 7) (idx := 35) (ci := 2) (N := 9) (Cn := RX2) (T := TX2) C d rfl rfl (by decide) rfl inlX2 (by decide +kernel : Cond.fieldLink RX2 35 "PlaneColours$Graph" "made" "I" ∈ wsL_law) tyX2_ok nmX2 rfl (by decide) hM hr kk
theorem gf_X2_38 {X : CxT} {cc : ByteArray} {f n nL pc : Nat} {L : List (Nat × Vv)} {st : List Vv} {h : Hp} (C : CX X cc RX2 f n nL) (d : decode cc pc = .ok (.getfield 38, 3)) (kk : Wh X (pc + 3) L (vi (h 1 8) :: st) h 0) : Wh X pc L (vr 1 :: st) h 0 := r_getI (r := 1) (i := 8) (idx := 38) (ci := 2) (N := 9) (Cn := RX2) (T := TX2) C d rfl rfl (by decide) rfl inlX2 (by decide +kernel : Cond.fieldLink RX2 38 "PlaneColours$Graph" "left" "I" ∈ wsL_law) kk
theorem pf_X2_38 {M : List Nat} {x : Int} {X : CxT} {cc : ByteArray} {f n nL pc : Nat} {L : List (Nat × Vv)} {st : List Vv} {h : Hp} (C : CX X cc RX2 f n nL) (d : decode cc pc = .ok (.putfield 38, 3)) (hM : XM X = M) (hr : 1 ∈ M) (kk : ∀ h1, h1 = hup h 1 8 x → Wh X (pc + 3) L st h1 0) : Wh X pc L (vi x :: vr 1 :: st) h 0 := s_putI (r := 1) (i := 8) (idx := 38) (ci := 2) (N := 9) (Cn := RX2) (T := TX2) C d rfl rfl (by decide) rfl inlX2 (by decide +kernel : Cond.fieldLink RX2 38 "PlaneColours$Graph" "left" "I" ∈ wsL_law) tyX2_ok nmX2 rfl (by decide) hM hr kk
theorem ck_X2_41 : CallOk yX2_putSide cX2_putSide 6 none RX2 RX2 41 3 := ⟨rfl, ⟨by decide, by decide, by decide +kernel⟩, by decide +kernel, by decide +kernel, by decide +kernel, by decide +kernel, by decide +kernel⟩
theorem gf_X2_9 {X : CxT} {cc : ByteArray} {f n nL pc : Nat} {L : List (Nat × Vv)} {st : List Vv} {h : Hp} (C : CX X cc RX2 f n nL) (d : decode cc pc = .ok (.getfield 9, 3)) (kk : Wh X (pc + 3) L (vr 6 :: st) h 0) : Wh X pc L (vr 1 :: st) h 0 := r_getR (q := 6) (r := 1) (i := 0) (idx := 9) (ci := 2) (N := 9) (Cn := RX2) (T := TX2) C d rfl rfl (by decide) rfl inlX2 (by decide +kernel : Cond.fieldLink RX2 9 "PlaneColours$Graph" "start" "[I" ∈ wsL_law) kk
theorem gf_X2_15 {X : CxT} {cc : ByteArray} {f n nL pc : Nat} {L : List (Nat × Vv)} {st : List Vv} {h : Hp} (C : CX X cc RX2 f n nL) (d : decode cc pc = .ok (.getfield 15, 3)) (kk : Wh X (pc + 3) L (vr 7 :: st) h 0) : Wh X pc L (vr 1 :: st) h 0 := r_getR (q := 7) (r := 1) (i := 1) (idx := 15) (ci := 2) (N := 9) (Cn := RX2) (T := TX2) C d rfl rfl (by decide) rfl inlX2 (by decide +kernel : Cond.fieldLink RX2 15 "PlaneColours$Graph" "next" "[I" ∈ wsL_law) kk
theorem gf_X2_18 {X : CxT} {cc : ByteArray} {f n nL pc : Nat} {L : List (Nat × Vv)} {st : List Vv} {h : Hp} (C : CX X cc RX2 f n nL) (d : decode cc pc = .ok (.getfield 18, 3)) (kk : Wh X (pc + 3) L (vr 8 :: st) h 0) : Wh X pc L (vr 1 :: st) h 0 := r_getR (q := 8) (r := 1) (i := 2) (idx := 18) (ci := 2) (N := 9) (Cn := RX2) (T := TX2) C d rfl rfl (by decide) rfl inlX2 (by decide +kernel : Cond.fieldLink RX2 18 "PlaneColours$Graph" "previous" "[I" ∈ wsL_law) kk
theorem ck_X2_45 : CallOk yX2_sideFrom cX2_sideFrom 3 (some .int) RX2 RX2 45 2 := ⟨rfl, ⟨by decide, by decide, by decide +kernel⟩, by decide +kernel, by decide +kernel, by decide +kernel, by decide +kernel, by decide +kernel⟩
theorem ck_X2_49 : CallOk yX2_link cX2_link 3 none RX2 RX2 49 2 := ⟨rfl, ⟨by decide, by decide, by decide +kernel⟩, by decide +kernel, by decide +kernel, by decide +kernel, by decide +kernel, by decide +kernel⟩
theorem ck_X2_53 : CallOk yX2_takeSide cX2_takeSide 3 none RX2 RX2 53 1 := ⟨rfl, ⟨by decide, by decide, by decide +kernel⟩, by decide +kernel, by decide +kernel, by decide +kernel, by decide +kernel, by decide +kernel⟩
theorem ck_X2_57 : CallOk yX2_target cX2_target 2 (some .int) RX2 RX2 57 1 := ⟨rfl, ⟨by decide, by decide, by decide +kernel⟩, by decide +kernel, by decide +kernel, by decide +kernel, by decide +kernel, by decide +kernel⟩
theorem gf_X1_25 {X : CxT} {cc : ByteArray} {f n nL pc : Nat} {L : List (Nat × Vv)} {st : List Vv} {h : Hp} (C : CX X cc RX1 f n nL) (d : decode cc pc = .ok (.getfield 25, 3)) (kk : Wh X (pc + 3) L (vr 1 :: st) h 0) : Wh X pc L (vr 2 :: st) h 0 := r_getR (q := 1) (r := 2) (i := 0) (idx := 25) (ci := 1) (N := 5) (Cn := RX1) (T := TX1) C d rfl rfl (by decide) rfl inlX1 (by decide +kernel : Cond.fieldLink RX1 25 "PlaneColours$FaceRows" "graph" "LPlaneColours$Graph;" ∈ wsL_law) kk
theorem gf_X1_29 {X : CxT} {cc : ByteArray} {f n nL pc : Nat} {L : List (Nat × Vv)} {st : List Vv} {h : Hp} (C : CX X cc RX1 f n nL) (d : decode cc pc = .ok (.getfield 29, 3)) (kk : Wh X (pc + 3) L (vi (h 1 7) :: st) h 0) : Wh X pc L (vr 1 :: st) h 0 := r_getI (r := 1) (i := 7) (idx := 29) (ci := 2) (N := 9) (Cn := RX2) (T := TX2) C d rfl rfl (by decide) rfl inlX2 (by decide +kernel : Cond.fieldLink RX1 29 "PlaneColours$Graph" "made" "I" ∈ wsL_law) kk
theorem gf_X1_9 {X : CxT} {cc : ByteArray} {f n nL pc : Nat} {L : List (Nat × Vv)} {st : List Vv} {h : Hp} (C : CX X cc RX1 f n nL) (d : decode cc pc = .ok (.getfield 9, 3)) (kk : Wh X (pc + 3) L (vr 12 :: st) h 0) : Wh X pc L (vr 2 :: st) h 0 := r_getR (q := 12) (r := 2) (i := 1) (idx := 9) (ci := 1) (N := 5) (Cn := RX1) (T := TX1) C d rfl rfl (by decide) rfl inlX1 (by decide +kernel : Cond.fieldLink RX1 9 "PlaneColours$FaceRows" "faceOfSide" "[I" ∈ wsL_law) kk
theorem pf_X1_21 {M : List Nat} {x : Int} {X : CxT} {cc : ByteArray} {f n nL pc : Nat} {L : List (Nat × Vv)} {st : List Vv} {h : Hp} (C : CX X cc RX1 f n nL) (d : decode cc pc = .ok (.putfield 21, 3)) (hM : XM X = M) (hr : 2 ∈ M) (kk : ∀ h1, h1 = hup h 2 4 x → Wh X (pc + 3) L st h1 0) : Wh X pc L (vi x :: vr 2 :: st) h 0 := s_putI (r := 2) (i := 4) (idx := 21) (ci := 1) (N := 5) (Cn := RX1) (T := TX1) C d rfl rfl (by decide) rfl inlX1 (by decide +kernel : Cond.fieldLink RX1 21 "PlaneColours$FaceRows" "count" "I" ∈ wsL_law) tyX1_ok nmX1 rfl (by decide) hM hr kk
theorem gf_X1_34 {X : CxT} {cc : ByteArray} {f n nL pc : Nat} {L : List (Nat × Vv)} {st : List Vv} {h : Hp} (C : CX X cc RX1 f n nL) (d : decode cc pc = .ok (.getfield 34, 3)) (kk : Wh X (pc + 3) L (vr 9 :: st) h 0) : Wh X pc L (vr 1 :: st) h 0 := r_getR (q := 9) (r := 1) (i := 3) (idx := 34) (ci := 2) (N := 9) (Cn := RX2) (T := TX2) C d rfl rfl (by decide) rfl inlX2 (by decide +kernel : Cond.fieldLink RX1 34 "PlaneColours$Graph" "isHere" "[Z" ∈ wsL_law) kk
theorem ck_X1_38 : CallOk yX1_walkFrom cX1_walkFrom 4 none RX1 RX1 38 1 := ⟨rfl, ⟨by decide, by decide, by decide +kernel⟩, by decide +kernel, by decide +kernel, by decide +kernel, by decide +kernel, by decide +kernel⟩
theorem gf_X1_21 {X : CxT} {cc : ByteArray} {f n nL pc : Nat} {L : List (Nat × Vv)} {st : List Vv} {h : Hp} (C : CX X cc RX1 f n nL) (d : decode cc pc = .ok (.getfield 21, 3)) (kk : Wh X (pc + 3) L (vi (h 2 4) :: st) h 0) : Wh X pc L (vr 2 :: st) h 0 := r_getI (r := 2) (i := 4) (idx := 21) (ci := 1) (N := 5) (Cn := RX1) (T := TX1) C d rfl rfl (by decide) rfl inlX1 (by decide +kernel : Cond.fieldLink RX1 21 "PlaneColours$FaceRows" "count" "I" ∈ wsL_law) kk
theorem ck_X1_42 : CallOk yX2_sideBehind cX2_sideBehind 2 (some .int) RX2 RX1 42 1 := ⟨rfl, ⟨by decide, by decide, by decide +kernel⟩, by decide +kernel, by decide +kernel, by decide +kernel, by decide +kernel, by decide +kernel⟩
theorem gf_X1_15 {X : CxT} {cc : ByteArray} {f n nL pc : Nat} {L : List (Nat × Vv)} {st : List Vv} {h : Hp} (C : CX X cc RX1 f n nL) (d : decode cc pc = .ok (.getfield 15, 3)) (kk : Wh X (pc + 3) L (vr 13 :: st) h 0) : Wh X pc L (vr 2 :: st) h 0 := r_getR (q := 13) (r := 2) (i := 2) (idx := 15) (ci := 1) (N := 5) (Cn := RX1) (T := TX1) C d rfl rfl (by decide) rfl inlX1 (by decide +kernel : Cond.fieldLink RX1 15 "PlaneColours$FaceRows" "leastSide" "[I" ∈ wsL_law) kk
theorem gf_X1_18 {X : CxT} {cc : ByteArray} {f n nL pc : Nat} {L : List (Nat × Vv)} {st : List Vv} {h : Hp} (C : CX X cc RX1 f n nL) (d : decode cc pc = .ok (.getfield 18, 3)) (kk : Wh X (pc + 3) L (vr 14 :: st) h 0) : Wh X pc L (vr 2 :: st) h 0 := r_getR (q := 14) (r := 2) (i := 3) (idx := 18) (ci := 1) (N := 5) (Cn := RX1) (T := TX1) C d rfl rfl (by decide) rfl inlX1 (by decide +kernel : Cond.fieldLink RX1 18 "PlaneColours$FaceRows" "lengths" "[I" ∈ wsL_law) kk
theorem gf_X4_34 {X : CxT} {cc : ByteArray} {f n nL pc : Nat} {L : List (Nat × Vv)} {st : List Vv} {h : Hp} (C : CX X cc RX4 f n nL) (d : decode cc pc = .ok (.getfield 34, 3)) (kk : Wh X (pc + 3) L (vr 1 :: st) h 0) : Wh X pc L (vr 3 :: st) h 0 := r_getR (q := 1) (r := 3) (i := 0) (idx := 34) (ci := 4) (N := 8) (Cn := RX4) (T := TX4) C d rfl rfl (by decide) rfl inlX4 (by decide +kernel : Cond.fieldLink RX4 34 "PlaneColours$Tree" "graph" "LPlaneColours$Graph;" ∈ wsL_law) kk
theorem gf_X4_38 {X : CxT} {cc : ByteArray} {f n nL pc : Nat} {L : List (Nat × Vv)} {st : List Vv} {h : Hp} (C : CX X cc RX4 f n nL) (d : decode cc pc = .ok (.getfield 38, 3)) (kk : Wh X (pc + 3) L (vi (h 1 6) :: st) h 0) : Wh X pc L (vr 1 :: st) h 0 := r_getI (r := 1) (i := 6) (idx := 38) (ci := 2) (N := 9) (Cn := RX2) (T := TX2) C d rfl rfl (by decide) rfl inlX2 (by decide +kernel : Cond.fieldLink RX4 38 "PlaneColours$Graph" "vertices" "I" ∈ wsL_law) kk
theorem gf_X4_21 {X : CxT} {cc : ByteArray} {f n nL pc : Nat} {L : List (Nat × Vv)} {st : List Vv} {h : Hp} (C : CX X cc RX4 f n nL) (d : decode cc pc = .ok (.getfield 21, 3)) (kk : Wh X (pc + 3) L (vr 18 :: st) h 0) : Wh X pc L (vr 3 :: st) h 0 := r_getR (q := 18) (r := 3) (i := 4) (idx := 21) (ci := 4) (N := 8) (Cn := RX4) (T := TX4) C d rfl rfl (by decide) rfl inlX4 (by decide +kernel : Cond.fieldLink RX4 21 "PlaneColours$Tree" "partOf" "[I" ∈ wsL_law) kk
theorem pf_X4_31 {M : List Nat} {x : Int} {X : CxT} {cc : ByteArray} {f n nL pc : Nat} {L : List (Nat × Vv)} {st : List Vv} {h : Hp} (C : CX X cc RX4 f n nL) (d : decode cc pc = .ok (.putfield 31, 3)) (hM : XM X = M) (hr : 3 ∈ M) (kk : ∀ h1, h1 = hup h 3 7 x → Wh X (pc + 3) L st h1 0) : Wh X pc L (vi x :: vr 3 :: st) h 0 := s_putI (r := 3) (i := 7) (idx := 31) (ci := 4) (N := 8) (Cn := RX4) (T := TX4) C d rfl rfl (by decide) rfl inlX4 (by decide +kernel : Cond.fieldLink RX4 31 "PlaneColours$Tree" "count" "I" ∈ wsL_law) tyX4_ok nmX4 rfl (by decide) hM hr kk
theorem ck_X4_43 : CallOk yX4_growFrom cX4_growFrom 3 none RX4 RX4 43 1 := ⟨rfl, ⟨by decide, by decide, by decide +kernel⟩, by decide +kernel, by decide +kernel, by decide +kernel, by decide +kernel, by decide +kernel⟩
theorem gf_X4_31 {X : CxT} {cc : ByteArray} {f n nL pc : Nat} {L : List (Nat × Vv)} {st : List Vv} {h : Hp} (C : CX X cc RX4 f n nL) (d : decode cc pc = .ok (.getfield 31, 3)) (kk : Wh X (pc + 3) L (vi (h 3 7) :: st) h 0) : Wh X pc L (vr 3 :: st) h 0 := r_getI (r := 3) (i := 7) (idx := 31) (ci := 4) (N := 8) (Cn := RX4) (T := TX4) C d rfl rfl (by decide) rfl inlX4 (by decide +kernel : Cond.fieldLink RX4 31 "PlaneColours$Tree" "count" "I" ∈ wsL_law) kk
theorem pf_X4_27 {M : List Nat} {x : Int} {X : CxT} {cc : ByteArray} {f n nL pc : Nat} {L : List (Nat × Vv)} {st : List Vv} {h : Hp} (C : CX X cc RX4 f n nL) (d : decode cc pc = .ok (.putfield 27, 3)) (hM : XM X = M) (hr : 3 ∈ M) (kk : ∀ h1, h1 = hup h 3 6 x → Wh X (pc + 3) L st h1 0) : Wh X pc L (vi x :: vr 3 :: st) h 0 := s_putI (r := 3) (i := 6) (idx := 27) (ci := 4) (N := 8) (Cn := RX4) (T := TX4) C d rfl rfl (by decide) rfl inlX4 (by decide +kernel : Cond.fieldLink RX4 27 "PlaneColours$Tree" "reached" "I" ∈ wsL_law) tyX4_ok nmX4 rfl (by decide) hM hr kk
theorem ck_X4_47 : CallOk yX4_reach cX4_reach 5 none RX4 RX4 47 4 := ⟨rfl, ⟨by decide, by decide, by decide +kernel⟩, by decide +kernel, by decide +kernel, by decide +kernel, by decide +kernel, by decide +kernel⟩
theorem gf_X4_27 {X : CxT} {cc : ByteArray} {f n nL pc : Nat} {L : List (Nat × Vv)} {st : List Vv} {h : Hp} (C : CX X cc RX4 f n nL) (d : decode cc pc = .ok (.getfield 27, 3)) (kk : Wh X (pc + 3) L (vi (h 3 6) :: st) h 0) : Wh X pc L (vr 3 :: st) h 0 := r_getI (r := 3) (i := 6) (idx := 27) (ci := 4) (N := 8) (Cn := RX4) (T := TX4) C d rfl rfl (by decide) rfl inlX4 (by decide +kernel : Cond.fieldLink RX4 27 "PlaneColours$Tree" "reached" "I" ∈ wsL_law) kk
theorem gf_X4_24 {X : CxT} {cc : ByteArray} {f n nL pc : Nat} {L : List (Nat × Vv)} {st : List Vv} {h : Hp} (C : CX X cc RX4 f n nL) (d : decode cc pc = .ok (.getfield 24, 3)) (kk : Wh X (pc + 3) L (vr 19 :: st) h 0) : Wh X pc L (vr 3 :: st) h 0 := r_getR (q := 19) (r := 3) (i := 5) (idx := 24) (ci := 4) (N := 8) (Cn := RX4) (T := TX4) C d rfl rfl (by decide) rfl inlX4 (by decide +kernel : Cond.fieldLink RX4 24 "PlaneColours$Tree" "queue" "[I" ∈ wsL_law) kk
theorem ck_X4_51 : CallOk yX4_reachNeighbours cX4_reachNeighbours 5 none RX4 RX4 51 1 := ⟨rfl, ⟨by decide, by decide, by decide +kernel⟩, by decide +kernel, by decide +kernel, by decide +kernel, by decide +kernel, by decide +kernel⟩
theorem gf_X4_54 {X : CxT} {cc : ByteArray} {f n nL pc : Nat} {L : List (Nat × Vv)} {st : List Vv} {h : Hp} (C : CX X cc RX4 f n nL) (d : decode cc pc = .ok (.getfield 54, 3)) (kk : Wh X (pc + 3) L (vr 10 :: st) h 0) : Wh X pc L (vr 1 :: st) h 0 := r_getR (q := 10) (r := 1) (i := 4) (idx := 54) (ci := 2) (N := 9) (Cn := RX2) (T := TX2) C d rfl rfl (by decide) rfl inlX2 (by decide +kernel : Cond.fieldLink RX4 54 "PlaneColours$Graph" "firstSide" "[I" ∈ wsL_law) kk
theorem gf_X4_57 {X : CxT} {cc : ByteArray} {f n nL pc : Nat} {L : List (Nat × Vv)} {st : List Vv} {h : Hp} (C : CX X cc RX4 f n nL) (d : decode cc pc = .ok (.getfield 57, 3)) (kk : Wh X (pc + 3) L (vr 11 :: st) h 0) : Wh X pc L (vr 1 :: st) h 0 := r_getR (q := 11) (r := 1) (i := 5) (idx := 57) (ci := 2) (N := 9) (Cn := RX2) (T := TX2) C d rfl rfl (by decide) rfl inlX2 (by decide +kernel : Cond.fieldLink RX4 57 "PlaneColours$Graph" "degrees" "[I" ∈ wsL_law) kk
theorem ck_X4_60 : CallOk yX2_target cX2_target 2 (some .int) RX2 RX4 60 1 := ⟨rfl, ⟨by decide, by decide, by decide +kernel⟩, by decide +kernel, by decide +kernel, by decide +kernel, by decide +kernel, by decide +kernel⟩
theorem gf_X4_18 {X : CxT} {cc : ByteArray} {f n nL pc : Nat} {L : List (Nat × Vv)} {st : List Vv} {h : Hp} (C : CX X cc RX4 f n nL) (d : decode cc pc = .ok (.getfield 18, 3)) (kk : Wh X (pc + 3) L (vr 17 :: st) h 0) : Wh X pc L (vr 3 :: st) h 0 := r_getR (q := 17) (r := 3) (i := 3) (idx := 18) (ci := 4) (N := 8) (Cn := RX4) (T := TX4) C d rfl rfl (by decide) rfl inlX4 (by decide +kernel : Cond.fieldLink RX4 18 "PlaneColours$Tree" "level" "[I" ∈ wsL_law) kk
theorem gf_X4_64 {X : CxT} {cc : ByteArray} {f n nL pc : Nat} {L : List (Nat × Vv)} {st : List Vv} {h : Hp} (C : CX X cc RX4 f n nL) (d : decode cc pc = .ok (.getfield 64, 3)) (kk : Wh X (pc + 3) L (vr 7 :: st) h 0) : Wh X pc L (vr 1 :: st) h 0 := r_getR (q := 7) (r := 1) (i := 1) (idx := 64) (ci := 2) (N := 9) (Cn := RX2) (T := TX2) C d rfl rfl (by decide) rfl inlX2 (by decide +kernel : Cond.fieldLink RX4 64 "PlaneColours$Graph" "next" "[I" ∈ wsL_law) kk
theorem gf_X4_9 {X : CxT} {cc : ByteArray} {f n nL pc : Nat} {L : List (Nat × Vv)} {st : List Vv} {h : Hp} (C : CX X cc RX4 f n nL) (d : decode cc pc = .ok (.getfield 9, 3)) (kk : Wh X (pc + 3) L (vr 15 :: st) h 0) : Wh X pc L (vr 3 :: st) h 0 := r_getR (q := 15) (r := 3) (i := 1) (idx := 9) (ci := 4) (N := 8) (Cn := RX4) (T := TX4) C d rfl rfl (by decide) rfl inlX4 (by decide +kernel : Cond.fieldLink RX4 9 "PlaneColours$Tree" "vertexAbove" "[I" ∈ wsL_law) kk
theorem gf_X4_15 {X : CxT} {cc : ByteArray} {f n nL pc : Nat} {L : List (Nat × Vv)} {st : List Vv} {h : Hp} (C : CX X cc RX4 f n nL) (d : decode cc pc = .ok (.getfield 15, 3)) (kk : Wh X (pc + 3) L (vr 16 :: st) h 0) : Wh X pc L (vr 3 :: st) h 0 := r_getR (q := 16) (r := 3) (i := 2) (idx := 15) (ci := 4) (N := 8) (Cn := RX4) (T := TX4) C d rfl rfl (by decide) rfl inlX4 (by decide +kernel : Cond.fieldLink RX4 15 "PlaneColours$Tree" "edgeAbove" "[I" ∈ wsL_law) kk
theorem gf_X4_67 {X : CxT} {cc : ByteArray} {f n nL pc : Nat} {L : List (Nat × Vv)} {st : List Vv} {h : Hp} (C : CX X cc RX4 f n nL) (d : decode cc pc = .ok (.getfield 67, 3)) (kk : Wh X (pc + 3) L (vr 6 :: st) h 0) : Wh X pc L (vr 1 :: st) h 0 := r_getR (q := 6) (r := 1) (i := 0) (idx := 67) (ci := 2) (N := 9) (Cn := RX2) (T := TX2) C d rfl rfl (by decide) rfl inlX2 (by decide +kernel : Cond.fieldLink RX4 67 "PlaneColours$Graph" "start" "[I" ∈ wsL_law) kk
theorem gf_X0_38 {X : CxT} {cc : ByteArray} {f n nL pc : Nat} {L : List (Nat × Vv)} {st : List Vv} {h : Hp} (C : CX X cc RX0 f n nL) (d : decode cc pc = .ok (.getfield 38, 3)) (kk : Wh X (pc + 3) L (vr 1 :: st) h 0) : Wh X pc L (vr 4 :: st) h 0 := r_getR (q := 1) (r := 4) (i := 0) (idx := 38) (ci := 0) (N := 9) (Cn := RX0) (T := TX0) C d rfl rfl (by decide) rfl inlX0 (by decide +kernel : Cond.fieldLink RX0 38 "PlaneColours$Colouring" "graph" "LPlaneColours$Graph;" ∈ wsL_law) kk
theorem gf_X0_42 {X : CxT} {cc : ByteArray} {f n nL pc : Nat} {L : List (Nat × Vv)} {st : List Vv} {h : Hp} (C : CX X cc RX0 f n nL) (d : decode cc pc = .ok (.getfield 42, 3)) (kk : Wh X (pc + 3) L (vi (h 1 6) :: st) h 0) : Wh X pc L (vr 1 :: st) h 0 := r_getI (r := 1) (i := 6) (idx := 42) (ci := 2) (N := 9) (Cn := RX2) (T := TX2) C d rfl rfl (by decide) rfl inlX2 (by decide +kernel : Cond.fieldLink RX0 42 "PlaneColours$Graph" "vertices" "I" ∈ wsL_law) kk
theorem gf_X0_9 {X : CxT} {cc : ByteArray} {f n nL pc : Nat} {L : List (Nat × Vv)} {st : List Vv} {h : Hp} (C : CX X cc RX0 f n nL) (d : decode cc pc = .ok (.getfield 9, 3)) (kk : Wh X (pc + 3) L (vr 20 :: st) h 0) : Wh X pc L (vr 4 :: st) h 0 := r_getR (q := 20) (r := 4) (i := 1) (idx := 9) (ci := 0) (N := 9) (Cn := RX0) (T := TX0) C d rfl rfl (by decide) rfl inlX0 (by decide +kernel : Cond.fieldLink RX0 9 "PlaneColours$Colouring" "colourOfVertex" "[I" ∈ wsL_law) kk
theorem pf_X0_35 {M : List Nat} {x : Int} {X : CxT} {cc : ByteArray} {f n nL pc : Nat} {L : List (Nat × Vv)} {st : List Vv} {h : Hp} (C : CX X cc RX0 f n nL) (d : decode cc pc = .ok (.putfield 35, 3)) (hM : XM X = M) (hr : 4 ∈ M) (kk : ∀ h1, h1 = hup h 4 8 x → Wh X (pc + 3) L st h1 0) : Wh X pc L (vi x :: vr 4 :: st) h 0 := s_putI (r := 4) (i := 8) (idx := 35) (ci := 0) (N := 9) (Cn := RX0) (T := TX0) C d rfl rfl (by decide) rfl inlX0 (by decide +kernel : Cond.fieldLink RX0 35 "PlaneColours$Colouring" "chainsChanged" "I" ∈ wsL_law) tyX0_ok nmX0 rfl (by decide) hM hr kk
theorem ck_X0_47 : CallOk yX0_forget cX0_forget 2 none RX0 RX0 47 0 := ⟨rfl, ⟨by decide, by decide, by decide +kernel⟩, by decide +kernel, by decide +kernel, by decide +kernel, by decide +kernel, by decide +kernel⟩
theorem ck_X0_50 : CallOk yX0_takeAll cX0_takeAll 4 (some .int) RX0 RX0 50 0 := ⟨rfl, ⟨by decide, by decide, by decide +kernel⟩, by decide +kernel, by decide +kernel, by decide +kernel, by decide +kernel, by decide +kernel⟩
theorem gf_X0_19 {X : CxT} {cc : ByteArray} {f n nL pc : Nat} {L : List (Nat × Vv)} {st : List Vv} {h : Hp} (C : CX X cc RX0 f n nL) (d : decode cc pc = .ok (.getfield 19, 3)) (kk : Wh X (pc + 3) L (vr 22 :: st) h 0) : Wh X pc L (vr 4 :: st) h 0 := r_getR (q := 22) (r := 4) (i := 3) (idx := 19) (ci := 0) (N := 9) (Cn := RX0) (T := TX0) C d rfl rfl (by decide) rfl inlX0 (by decide +kernel : Cond.fieldLink RX0 19 "PlaneColours$Colouring" "order" "[I" ∈ wsL_law) kk
theorem ck_X0_54 : CallOk yX0_bringBack cX0_bringBack 3 none RX0 RX0 54 1 := ⟨rfl, ⟨by decide, by decide, by decide +kernel⟩, by decide +kernel, by decide +kernel, by decide +kernel, by decide +kernel, by decide +kernel⟩
theorem gf_X0_15 {X : CxT} {cc : ByteArray} {f n nL pc : Nat} {L : List (Nat × Vv)} {st : List Vv} {h : Hp} (C : CX X cc RX0 f n nL) (d : decode cc pc = .ok (.getfield 15, 3)) (kk : Wh X (pc + 3) L (vr 21 :: st) h 0) : Wh X pc L (vr 4 :: st) h 0 := r_getR (q := 21) (r := 4) (i := 2) (idx := 15) (ci := 0) (N := 9) (Cn := RX0) (T := TX0) C d rfl rfl (by decide) rfl inlX0 (by decide +kernel : Cond.fieldLink RX0 15 "PlaneColours$Colouring" "isTaken" "[Z" ∈ wsL_law) kk
theorem ck_X0_58 : CallOk yX0_leastToTake cX0_leastToTake 2 (some .int) RX0 RX0 58 0 := ⟨rfl, ⟨by decide, by decide, by decide +kernel⟩, by decide +kernel, by decide +kernel, by decide +kernel, by decide +kernel, by decide +kernel⟩
theorem ck_X0_61 : CallOk yX0_neighboursLeft cX0_neighboursLeft 5 (some .int) RX0 RX0 61 1 := ⟨rfl, ⟨by decide, by decide, by decide +kernel⟩, by decide +kernel, by decide +kernel, by decide +kernel, by decide +kernel, by decide +kernel⟩
theorem gf_X0_65 {X : CxT} {cc : ByteArray} {f n nL pc : Nat} {L : List (Nat × Vv)} {st : List Vv} {h : Hp} (C : CX X cc RX0 f n nL) (d : decode cc pc = .ok (.getfield 65, 3)) (kk : Wh X (pc + 3) L (vr 10 :: st) h 0) : Wh X pc L (vr 1 :: st) h 0 := r_getR (q := 10) (r := 1) (i := 4) (idx := 65) (ci := 2) (N := 9) (Cn := RX2) (T := TX2) C d rfl rfl (by decide) rfl inlX2 (by decide +kernel : Cond.fieldLink RX0 65 "PlaneColours$Graph" "firstSide" "[I" ∈ wsL_law) kk
theorem gf_X0_68 {X : CxT} {cc : ByteArray} {f n nL pc : Nat} {L : List (Nat × Vv)} {st : List Vv} {h : Hp} (C : CX X cc RX0 f n nL) (d : decode cc pc = .ok (.getfield 68, 3)) (kk : Wh X (pc + 3) L (vr 11 :: st) h 0) : Wh X pc L (vr 1 :: st) h 0 := r_getR (q := 11) (r := 1) (i := 5) (idx := 68) (ci := 2) (N := 9) (Cn := RX2) (T := TX2) C d rfl rfl (by decide) rfl inlX2 (by decide +kernel : Cond.fieldLink RX0 68 "PlaneColours$Graph" "degrees" "[I" ∈ wsL_law) kk
theorem ck_X0_71 : CallOk yX2_target cX2_target 2 (some .int) RX2 RX0 71 1 := ⟨rfl, ⟨by decide, by decide, by decide +kernel⟩, by decide +kernel, by decide +kernel, by decide +kernel, by decide +kernel, by decide +kernel⟩
theorem gf_X0_74 {X : CxT} {cc : ByteArray} {f n nL pc : Nat} {L : List (Nat × Vv)} {st : List Vv} {h : Hp} (C : CX X cc RX0 f n nL) (d : decode cc pc = .ok (.getfield 74, 3)) (kk : Wh X (pc + 3) L (vr 7 :: st) h 0) : Wh X pc L (vr 1 :: st) h 0 := r_getR (q := 7) (r := 1) (i := 1) (idx := 74) (ci := 2) (N := 9) (Cn := RX2) (T := TX2) C d rfl rfl (by decide) rfl inlX2 (by decide +kernel : Cond.fieldLink RX0 74 "PlaneColours$Graph" "next" "[I" ∈ wsL_law) kk
theorem ck_X0_77 : CallOk yX0_leastFreeColour cX0_leastFreeColour 5 (some .int) RX0 RX0 77 1 := ⟨rfl, ⟨by decide, by decide, by decide +kernel⟩, by decide +kernel, by decide +kernel, by decide +kernel, by decide +kernel, by decide +kernel⟩
theorem ck_X0_80 : CallOk yX0_colourFreedByChain cX0_colourFreedByChain 4 (some .int) RX0 RX0 80 1 := ⟨rfl, ⟨by decide, by decide, by decide +kernel⟩, by decide +kernel, by decide +kernel, by decide +kernel, by decide +kernel, by decide +kernel⟩
theorem ck_X0_83 : CallOk yX0_listFiveRound cX0_listFiveRound 6 none RX0 RX0 83 1 := ⟨rfl, ⟨by decide, by decide, by decide +kernel⟩, by decide +kernel, by decide +kernel, by decide +kernel, by decide +kernel, by decide +kernel⟩
theorem gf_X0_22 {X : CxT} {cc : ByteArray} {f n nL pc : Nat} {L : List (Nat × Vv)} {st : List Vv} {h : Hp} (C : CX X cc RX0 f n nL) (d : decode cc pc = .ok (.getfield 22, 3)) (kk : Wh X (pc + 3) L (vr 23 :: st) h 0) : Wh X pc L (vr 4 :: st) h 0 := r_getR (q := 23) (r := 4) (i := 4) (idx := 22) (ci := 0) (N := 9) (Cn := RX0) (T := TX0) C d rfl rfl (by decide) rfl inlX0 (by decide +kernel : Cond.fieldLink RX0 22 "PlaneColours$Colouring" "fiveRound" "[I" ∈ wsL_law) kk
theorem ck_X0_86 : CallOk yX0_collectChain cX0_collectChain 5 none RX0 RX0 86 2 := ⟨rfl, ⟨by decide, by decide, by decide +kernel⟩, by decide +kernel, by decide +kernel, by decide +kernel, by decide +kernel, by decide +kernel⟩
theorem gf_X0_25 {X : CxT} {cc : ByteArray} {f n nL pc : Nat} {L : List (Nat × Vv)} {st : List Vv} {h : Hp} (C : CX X cc RX0 f n nL) (d : decode cc pc = .ok (.getfield 25, 3)) (kk : Wh X (pc + 3) L (vr 24 :: st) h 0) : Wh X pc L (vr 4 :: st) h 0 := r_getR (q := 24) (r := 4) (i := 5) (idx := 25) (ci := 0) (N := 9) (Cn := RX0) (T := TX0) C d rfl rfl (by decide) rfl inlX0 (by decide +kernel : Cond.fieldLink RX0 25 "PlaneColours$Colouring" "isInChain" "[Z" ∈ wsL_law) kk
theorem ck_X0_90 : CallOk yX0_swapChain cX0_swapChain 5 none RX0 RX0 90 2 := ⟨rfl, ⟨by decide, by decide, by decide +kernel⟩, by decide +kernel, by decide +kernel, by decide +kernel, by decide +kernel, by decide +kernel⟩
theorem gf_X0_35 {X : CxT} {cc : ByteArray} {f n nL pc : Nat} {L : List (Nat × Vv)} {st : List Vv} {h : Hp} (C : CX X cc RX0 f n nL) (d : decode cc pc = .ok (.getfield 35, 3)) (kk : Wh X (pc + 3) L (vi (h 4 8) :: st) h 0) : Wh X pc L (vr 4 :: st) h 0 := r_getI (r := 4) (i := 8) (idx := 35) (ci := 0) (N := 9) (Cn := RX0) (T := TX0) C d rfl rfl (by decide) rfl inlX0 (by decide +kernel : Cond.fieldLink RX0 35 "PlaneColours$Colouring" "chainsChanged" "I" ∈ wsL_law) kk
theorem pf_X0_31 {M : List Nat} {x : Int} {X : CxT} {cc : ByteArray} {f n nL pc : Nat} {L : List (Nat × Vv)} {st : List Vv} {h : Hp} (C : CX X cc RX0 f n nL) (d : decode cc pc = .ok (.putfield 31, 3)) (hM : XM X = M) (hr : 4 ∈ M) (kk : ∀ h1, h1 = hup h 4 7 x → Wh X (pc + 3) L st h1 0) : Wh X pc L (vi x :: vr 4 :: st) h 0 := s_putI (r := 4) (i := 7) (idx := 31) (ci := 0) (N := 9) (Cn := RX0) (T := TX0) C d rfl rfl (by decide) rfl inlX0 (by decide +kernel : Cond.fieldLink RX0 31 "PlaneColours$Colouring" "chainSize" "I" ∈ wsL_law) tyX0_ok nmX0 rfl (by decide) hM hr kk
theorem ck_X0_93 : CallOk yX0_addToChain cX0_addToChain 2 none RX0 RX0 93 1 := ⟨rfl, ⟨by decide, by decide, by decide +kernel⟩, by decide +kernel, by decide +kernel, by decide +kernel, by decide +kernel, by decide +kernel⟩
theorem gf_X0_31 {X : CxT} {cc : ByteArray} {f n nL pc : Nat} {L : List (Nat × Vv)} {st : List Vv} {h : Hp} (C : CX X cc RX0 f n nL) (d : decode cc pc = .ok (.getfield 31, 3)) (kk : Wh X (pc + 3) L (vi (h 4 7) :: st) h 0) : Wh X pc L (vr 4 :: st) h 0 := r_getI (r := 4) (i := 7) (idx := 31) (ci := 0) (N := 9) (Cn := RX0) (T := TX0) C d rfl rfl (by decide) rfl inlX0 (by decide +kernel : Cond.fieldLink RX0 31 "PlaneColours$Colouring" "chainSize" "I" ∈ wsL_law) kk
theorem gf_X0_28 {X : CxT} {cc : ByteArray} {f n nL pc : Nat} {L : List (Nat × Vv)} {st : List Vv} {h : Hp} (C : CX X cc RX0 f n nL) (d : decode cc pc = .ok (.getfield 28, 3)) (kk : Wh X (pc + 3) L (vr 25 :: st) h 0) : Wh X pc L (vr 4 :: st) h 0 := r_getR (q := 25) (r := 4) (i := 6) (idx := 28) (ci := 0) (N := 9) (Cn := RX0) (T := TX0) C d rfl rfl (by decide) rfl inlX0 (by decide +kernel : Cond.fieldLink RX0 28 "PlaneColours$Colouring" "chain" "[I" ∈ wsL_law) kk
theorem ck_X0_96 : CallOk yX0_addNeighboursOf cX0_addNeighboursOf 8 none RX0 RX0 96 3 := ⟨rfl, ⟨by decide, by decide, by decide +kernel⟩, by decide +kernel, by decide +kernel, by decide +kernel, by decide +kernel, by decide +kernel⟩
theorem gf_X0_105 {X : CxT} {cc : ByteArray} {f n nL pc : Nat} {L : List (Nat × Vv)} {st : List Vv} {h : Hp} (C : CX X cc RX0 f n nL) (d : decode cc pc = .ok (.getfield 105, 3)) (kk : Wh X (pc + 3) L (vi (h 1 7) :: st) h 0) : Wh X pc L (vr 1 :: st) h 0 := r_getI (r := 1) (i := 7) (idx := 105) (ci := 2) (N := 9) (Cn := RX2) (T := TX2) C d rfl rfl (by decide) rfl inlX2 (by decide +kernel : Cond.fieldLink RX0 105 "PlaneColours$Graph" "made" "I" ∈ wsL_law) kk
theorem gf_X0_108 {X : CxT} {cc : ByteArray} {f n nL pc : Nat} {L : List (Nat × Vv)} {st : List Vv} {h : Hp} (C : CX X cc RX0 f n nL) (d : decode cc pc = .ok (.getfield 108, 3)) (kk : Wh X (pc + 3) L (vr 9 :: st) h 0) : Wh X pc L (vr 1 :: st) h 0 := r_getR (q := 9) (r := 1) (i := 3) (idx := 108) (ci := 2) (N := 9) (Cn := RX2) (T := TX2) C d rfl rfl (by decide) rfl inlX2 (by decide +kernel : Cond.fieldLink RX0 108 "PlaneColours$Graph" "isHere" "[Z" ∈ wsL_law) kk
theorem gf_X0_111 {X : CxT} {cc : ByteArray} {f n nL pc : Nat} {L : List (Nat × Vv)} {st : List Vv} {h : Hp} (C : CX X cc RX0 f n nL) (d : decode cc pc = .ok (.getfield 111, 3)) (kk : Wh X (pc + 3) L (vr 6 :: st) h 0) : Wh X pc L (vr 1 :: st) h 0 := r_getR (q := 6) (r := 1) (i := 0) (idx := 111) (ci := 2) (N := 9) (Cn := RX2) (T := TX2) C d rfl rfl (by decide) rfl inlX2 (by decide +kernel : Cond.fieldLink RX0 111 "PlaneColours$Graph" "start" "[I" ∈ wsL_law) kk
theorem ck_X3_50 : CallOk yX3_markCycle cX3_markCycle 5 none RX3 RX3 50 1 := ⟨rfl, ⟨by decide, by decide, by decide +kernel⟩, by decide +kernel, by decide +kernel, by decide +kernel, by decide +kernel, by decide +kernel⟩
theorem gf_X3_42 {X : CxT} {cc : ByteArray} {f n nL pc : Nat} {L : List (Nat × Vv)} {st : List Vv} {h : Hp} (C : CX X cc RX3 f n nL) (d : decode cc pc = .ok (.getfield 42, 3)) (kk : Wh X (pc + 3) L (vr 2 :: st) h 0) : Wh X pc L (vr 5 :: st) h 0 := r_getR (q := 2) (r := 5) (i := 1) (idx := 42) (ci := 3) (N := 11) (Cn := RX3) (T := TX3) C d rfl rfl (by decide) rfl inlX3 (by decide +kernel : Cond.fieldLink RX3 42 "PlaneColours$Parting" "faceRows" "LPlaneColours$FaceRows;" ∈ wsL_law) kk
theorem gf_X3_54 {X : CxT} {cc : ByteArray} {f n nL pc : Nat} {L : List (Nat × Vv)} {st : List Vv} {h : Hp} (C : CX X cc RX3 f n nL) (d : decode cc pc = .ok (.getfield 54, 3)) (kk : Wh X (pc + 3) L (vr 12 :: st) h 0) : Wh X pc L (vr 2 :: st) h 0 := r_getR (q := 12) (r := 2) (i := 1) (idx := 54) (ci := 1) (N := 5) (Cn := RX1) (T := TX1) C d rfl rfl (by decide) rfl inlX1 (by decide +kernel : Cond.fieldLink RX3 54 "PlaneColours$FaceRows" "faceOfSide" "[I" ∈ wsL_law) kk
theorem ck_X3_59 : CallOk yX3_markFacesInside cX3_markFacesInside 3 none RX3 RX3 59 1 := ⟨rfl, ⟨by decide, by decide, by decide +kernel⟩, by decide +kernel, by decide +kernel, by decide +kernel, by decide +kernel, by decide +kernel⟩
theorem gf_X3_46 {X : CxT} {cc : ByteArray} {f n nL pc : Nat} {L : List (Nat × Vv)} {st : List Vv} {h : Hp} (C : CX X cc RX3 f n nL) (d : decode cc pc = .ok (.getfield 46, 3)) (kk : Wh X (pc + 3) L (vr 3 :: st) h 0) : Wh X pc L (vr 5 :: st) h 0 := r_getR (q := 3) (r := 5) (i := 2) (idx := 46) (ci := 3) (N := 11) (Cn := RX3) (T := TX3) C d rfl rfl (by decide) rfl inlX3 (by decide +kernel : Cond.fieldLink RX3 46 "PlaneColours$Parting" "tree" "LPlaneColours$Tree;" ∈ wsL_law) kk
theorem gf_X3_62 {X : CxT} {cc : ByteArray} {f n nL pc : Nat} {L : List (Nat × Vv)} {st : List Vv} {h : Hp} (C : CX X cc RX3 f n nL) (d : decode cc pc = .ok (.getfield 62, 3)) (kk : Wh X (pc + 3) L (vr 18 :: st) h 0) : Wh X pc L (vr 3 :: st) h 0 := r_getR (q := 18) (r := 3) (i := 4) (idx := 62) (ci := 4) (N := 8) (Cn := RX4) (T := TX4) C d rfl rfl (by decide) rfl inlX4 (by decide +kernel : Cond.fieldLink RX3 62 "PlaneColours$Tree" "partOf" "[I" ∈ wsL_law) kk
theorem gf_X3_38 {X : CxT} {cc : ByteArray} {f n nL pc : Nat} {L : List (Nat × Vv)} {st : List Vv} {h : Hp} (C : CX X cc RX3 f n nL) (d : decode cc pc = .ok (.getfield 38, 3)) (kk : Wh X (pc + 3) L (vr 1 :: st) h 0) : Wh X pc L (vr 5 :: st) h 0 := r_getR (q := 1) (r := 5) (i := 0) (idx := 38) (ci := 3) (N := 11) (Cn := RX3) (T := TX3) C d rfl rfl (by decide) rfl inlX3 (by decide +kernel : Cond.fieldLink RX3 38 "PlaneColours$Parting" "graph" "LPlaneColours$Graph;" ∈ wsL_law) kk
theorem gf_X3_67 {X : CxT} {cc : ByteArray} {f n nL pc : Nat} {L : List (Nat × Vv)} {st : List Vv} {h : Hp} (C : CX X cc RX3 f n nL) (d : decode cc pc = .ok (.getfield 67, 3)) (kk : Wh X (pc + 3) L (vr 6 :: st) h 0) : Wh X pc L (vr 1 :: st) h 0 := r_getR (q := 6) (r := 1) (i := 0) (idx := 67) (ci := 2) (N := 9) (Cn := RX2) (T := TX2) C d rfl rfl (by decide) rfl inlX2 (by decide +kernel : Cond.fieldLink RX3 67 "PlaneColours$Graph" "start" "[I" ∈ wsL_law) kk
theorem ck_X3_72 : CallOk yX3_countVertices cX3_countVertices 3 none RX3 RX3 72 1 := ⟨rfl, ⟨by decide, by decide, by decide +kernel⟩, by decide +kernel, by decide +kernel, by decide +kernel, by decide +kernel, by decide +kernel⟩
theorem ck_X3_75 : CallOk yX3_unmarkCycle cX3_unmarkCycle 2 none RX3 RX3 75 0 := ⟨rfl, ⟨by decide, by decide, by decide +kernel⟩, by decide +kernel, by decide +kernel, by decide +kernel, by decide +kernel, by decide +kernel⟩
theorem gf_X3_15 {X : CxT} {cc : ByteArray} {f n nL pc : Nat} {L : List (Nat × Vv)} {st : List Vv} {h : Hp} (C : CX X cc RX3 f n nL) (d : decode cc pc = .ok (.getfield 15, 3)) (kk : Wh X (pc + 3) L (vr 27 :: st) h 0) : Wh X pc L (vr 5 :: st) h 0 := r_getR (q := 27) (r := 5) (i := 4) (idx := 15) (ci := 3) (N := 11) (Cn := RX3) (T := TX3) C d rfl rfl (by decide) rfl inlX3 (by decide +kernel : Cond.fieldLink RX3 15 "PlaneColours$Parting" "isCycleEdge" "[Z" ∈ wsL_law) kk
theorem gf_X3_78 {X : CxT} {cc : ByteArray} {f n nL pc : Nat} {L : List (Nat × Vv)} {st : List Vv} {h : Hp} (C : CX X cc RX3 f n nL) (d : decode cc pc = .ok (.getfield 78, 3)) (kk : Wh X (pc + 3) L (vr 17 :: st) h 0) : Wh X pc L (vr 3 :: st) h 0 := r_getR (q := 17) (r := 3) (i := 3) (idx := 78) (ci := 4) (N := 8) (Cn := RX4) (T := TX4) C d rfl rfl (by decide) rfl inlX4 (by decide +kernel : Cond.fieldLink RX3 78 "PlaneColours$Tree" "level" "[I" ∈ wsL_law) kk
theorem ck_X3_81 : CallOk yX3_climbFrom cX3_climbFrom 2 (some .int) RX3 RX3 81 1 := ⟨rfl, ⟨by decide, by decide, by decide +kernel⟩, by decide +kernel, by decide +kernel, by decide +kernel, by decide +kernel, by decide +kernel⟩
theorem gf_X3_9 {X : CxT} {cc : ByteArray} {f n nL pc : Nat} {L : List (Nat × Vv)} {st : List Vv} {h : Hp} (C : CX X cc RX3 f n nL) (d : decode cc pc = .ok (.getfield 9, 3)) (kk : Wh X (pc + 3) L (vr 26 :: st) h 0) : Wh X pc L (vr 5 :: st) h 0 := r_getR (q := 26) (r := 5) (i := 3) (idx := 9) (ci := 3) (N := 11) (Cn := RX3) (T := TX3) C d rfl rfl (by decide) rfl inlX3 (by decide +kernel : Cond.fieldLink RX3 9 "PlaneColours$Parting" "isOnCycle" "[Z" ∈ wsL_law) kk
theorem gf_X3_29 {X : CxT} {cc : ByteArray} {f n nL pc : Nat} {L : List (Nat × Vv)} {st : List Vv} {h : Hp} (C : CX X cc RX3 f n nL) (d : decode cc pc = .ok (.getfield 29, 3)) (kk : Wh X (pc + 3) L (vi (h 5 8) :: st) h 0) : Wh X pc L (vr 5 :: st) h 0 := r_getI (r := 5) (i := 8) (idx := 29) (ci := 3) (N := 11) (Cn := RX3) (T := TX3) C d rfl rfl (by decide) rfl inlX3 (by decide +kernel : Cond.fieldLink RX3 29 "PlaneColours$Parting" "cycleLength" "I" ∈ wsL_law) kk
theorem pf_X3_29 {M : List Nat} {x : Int} {X : CxT} {cc : ByteArray} {f n nL pc : Nat} {L : List (Nat × Vv)} {st : List Vv} {h : Hp} (C : CX X cc RX3 f n nL) (d : decode cc pc = .ok (.putfield 29, 3)) (hM : XM X = M) (hr : 5 ∈ M) (kk : ∀ h1, h1 = hup h 5 8 x → Wh X (pc + 3) L st h1 0) : Wh X pc L (vi x :: vr 5 :: st) h 0 := s_putI (r := 5) (i := 8) (idx := 29) (ci := 3) (N := 11) (Cn := RX3) (T := TX3) C d rfl rfl (by decide) rfl inlX3 (by decide +kernel : Cond.fieldLink RX3 29 "PlaneColours$Parting" "cycleLength" "I" ∈ wsL_law) tyX3_ok nmX3 rfl (by decide) hM hr kk
theorem gf_X3_85 {X : CxT} {cc : ByteArray} {f n nL pc : Nat} {L : List (Nat × Vv)} {st : List Vv} {h : Hp} (C : CX X cc RX3 f n nL) (d : decode cc pc = .ok (.getfield 85, 3)) (kk : Wh X (pc + 3) L (vi (h 1 6) :: st) h 0) : Wh X pc L (vr 1 :: st) h 0 := r_getI (r := 1) (i := 6) (idx := 85) (ci := 2) (N := 9) (Cn := RX2) (T := TX2) C d rfl rfl (by decide) rfl inlX2 (by decide +kernel : Cond.fieldLink RX3 85 "PlaneColours$Graph" "vertices" "I" ∈ wsL_law) kk
theorem gf_X3_88 {X : CxT} {cc : ByteArray} {f n nL pc : Nat} {L : List (Nat × Vv)} {st : List Vv} {h : Hp} (C : CX X cc RX3 f n nL) (d : decode cc pc = .ok (.getfield 88, 3)) (kk : Wh X (pc + 3) L (vi (h 1 7) :: st) h 0) : Wh X pc L (vr 1 :: st) h 0 := r_getI (r := 1) (i := 7) (idx := 88) (ci := 2) (N := 9) (Cn := RX2) (T := TX2) C d rfl rfl (by decide) rfl inlX2 (by decide +kernel : Cond.fieldLink RX3 88 "PlaneColours$Graph" "made" "I" ∈ wsL_law) kk
theorem gf_X3_91 {X : CxT} {cc : ByteArray} {f n nL pc : Nat} {L : List (Nat × Vv)} {st : List Vv} {h : Hp} (C : CX X cc RX3 f n nL) (d : decode cc pc = .ok (.getfield 91, 3)) (kk : Wh X (pc + 3) L (vr 16 :: st) h 0) : Wh X pc L (vr 3 :: st) h 0 := r_getR (q := 16) (r := 3) (i := 2) (idx := 91) (ci := 4) (N := 8) (Cn := RX4) (T := TX4) C d rfl rfl (by decide) rfl inlX4 (by decide +kernel : Cond.fieldLink RX3 91 "PlaneColours$Tree" "edgeAbove" "[I" ∈ wsL_law) kk
theorem gf_X3_94 {X : CxT} {cc : ByteArray} {f n nL pc : Nat} {L : List (Nat × Vv)} {st : List Vv} {h : Hp} (C : CX X cc RX3 f n nL) (d : decode cc pc = .ok (.getfield 94, 3)) (kk : Wh X (pc + 3) L (vr 15 :: st) h 0) : Wh X pc L (vr 3 :: st) h 0 := r_getR (q := 15) (r := 3) (i := 1) (idx := 94) (ci := 4) (N := 8) (Cn := RX4) (T := TX4) C d rfl rfl (by decide) rfl inlX4 (by decide +kernel : Cond.fieldLink RX3 94 "PlaneColours$Tree" "vertexAbove" "[I" ∈ wsL_law) kk
theorem gf_X3_97 {X : CxT} {cc : ByteArray} {f n nL pc : Nat} {L : List (Nat × Vv)} {st : List Vv} {h : Hp} (C : CX X cc RX3 f n nL) (d : decode cc pc = .ok (.getfield 97, 3)) (kk : Wh X (pc + 3) L (vi (h 2 4) :: st) h 0) : Wh X pc L (vr 2 :: st) h 0 := r_getI (r := 2) (i := 4) (idx := 97) (ci := 1) (N := 5) (Cn := RX1) (T := TX1) C d rfl rfl (by decide) rfl inlX1 (by decide +kernel : Cond.fieldLink RX3 97 "PlaneColours$FaceRows" "count" "I" ∈ wsL_law) kk
theorem gf_X3_18 {X : CxT} {cc : ByteArray} {f n nL pc : Nat} {L : List (Nat × Vv)} {st : List Vv} {h : Hp} (C : CX X cc RX3 f n nL) (d : decode cc pc = .ok (.getfield 18, 3)) (kk : Wh X (pc + 3) L (vr 28 :: st) h 0) : Wh X pc L (vr 5 :: st) h 0 := r_getR (q := 28) (r := 5) (i := 5) (idx := 18) (ci := 3) (N := 11) (Cn := RX3) (T := TX3) C d rfl rfl (by decide) rfl inlX3 (by decide +kernel : Cond.fieldLink RX3 18 "PlaneColours$Parting" "isFaceInside" "[Z" ∈ wsL_law) kk
theorem pf_X3_25 {M : List Nat} {x : Int} {X : CxT} {cc : ByteArray} {f n nL pc : Nat} {L : List (Nat × Vv)} {st : List Vv} {h : Hp} (C : CX X cc RX3 f n nL) (d : decode cc pc = .ok (.putfield 25, 3)) (hM : XM X = M) (hr : 5 ∈ M) (kk : ∀ h1, h1 = hup h 5 7 x → Wh X (pc + 3) L st h1 0) : Wh X pc L (vi x :: vr 5 :: st) h 0 := s_putI (r := 5) (i := 7) (idx := 25) (ci := 3) (N := 11) (Cn := RX3) (T := TX3) C d rfl rfl (by decide) rfl inlX3 (by decide +kernel : Cond.fieldLink RX3 25 "PlaneColours$Parting" "queued" "I" ∈ wsL_law) tyX3_ok nmX3 rfl (by decide) hM hr kk
theorem ck_X3_100 : CallOk yX3_addInside cX3_addInside 2 none RX3 RX3 100 1 := ⟨rfl, ⟨by decide, by decide, by decide +kernel⟩, by decide +kernel, by decide +kernel, by decide +kernel, by decide +kernel, by decide +kernel⟩
theorem gf_X3_25 {X : CxT} {cc : ByteArray} {f n nL pc : Nat} {L : List (Nat × Vv)} {st : List Vv} {h : Hp} (C : CX X cc RX3 f n nL) (d : decode cc pc = .ok (.getfield 25, 3)) (kk : Wh X (pc + 3) L (vi (h 5 7) :: st) h 0) : Wh X pc L (vr 5 :: st) h 0 := r_getI (r := 5) (i := 7) (idx := 25) (ci := 3) (N := 11) (Cn := RX3) (T := TX3) C d rfl rfl (by decide) rfl inlX3 (by decide +kernel : Cond.fieldLink RX3 25 "PlaneColours$Parting" "queued" "I" ∈ wsL_law) kk
theorem gf_X3_21 {X : CxT} {cc : ByteArray} {f n nL pc : Nat} {L : List (Nat × Vv)} {st : List Vv} {h : Hp} (C : CX X cc RX3 f n nL) (d : decode cc pc = .ok (.getfield 21, 3)) (kk : Wh X (pc + 3) L (vr 29 :: st) h 0) : Wh X pc L (vr 5 :: st) h 0 := r_getR (q := 29) (r := 5) (i := 6) (idx := 21) (ci := 3) (N := 11) (Cn := RX3) (T := TX3) C d rfl rfl (by decide) rfl inlX3 (by decide +kernel : Cond.fieldLink RX3 21 "PlaneColours$Parting" "queue" "[I" ∈ wsL_law) kk
theorem ck_X3_103 : CallOk yX3_addFacesBeside cX3_addFacesBeside 5 none RX3 RX3 103 1 := ⟨rfl, ⟨by decide, by decide, by decide +kernel⟩, by decide +kernel, by decide +kernel, by decide +kernel, by decide +kernel, by decide +kernel⟩
theorem gf_X3_106 {X : CxT} {cc : ByteArray} {f n nL pc : Nat} {L : List (Nat × Vv)} {st : List Vv} {h : Hp} (C : CX X cc RX3 f n nL) (d : decode cc pc = .ok (.getfield 106, 3)) (kk : Wh X (pc + 3) L (vr 13 :: st) h 0) : Wh X pc L (vr 2 :: st) h 0 := r_getR (q := 13) (r := 2) (i := 2) (idx := 106) (ci := 1) (N := 5) (Cn := RX1) (T := TX1) C d rfl rfl (by decide) rfl inlX1 (by decide +kernel : Cond.fieldLink RX3 106 "PlaneColours$FaceRows" "leastSide" "[I" ∈ wsL_law) kk
theorem gf_X3_109 {X : CxT} {cc : ByteArray} {f n nL pc : Nat} {L : List (Nat × Vv)} {st : List Vv} {h : Hp} (C : CX X cc RX3 f n nL) (d : decode cc pc = .ok (.getfield 109, 3)) (kk : Wh X (pc + 3) L (vr 14 :: st) h 0) : Wh X pc L (vr 2 :: st) h 0 := r_getR (q := 14) (r := 2) (i := 3) (idx := 109) (ci := 1) (N := 5) (Cn := RX1) (T := TX1) C d rfl rfl (by decide) rfl inlX1 (by decide +kernel : Cond.fieldLink RX3 109 "PlaneColours$FaceRows" "lengths" "[I" ∈ wsL_law) kk
theorem ck_X3_112 : CallOk yX2_sideBehind cX2_sideBehind 2 (some .int) RX2 RX3 112 1 := ⟨rfl, ⟨by decide, by decide, by decide +kernel⟩, by decide +kernel, by decide +kernel, by decide +kernel, by decide +kernel, by decide +kernel⟩
theorem pf_X3_32 {M : List Nat} {x : Int} {X : CxT} {cc : ByteArray} {f n nL pc : Nat} {L : List (Nat × Vv)} {st : List Vv} {h : Hp} (C : CX X cc RX3 f n nL) (d : decode cc pc = .ok (.putfield 32, 3)) (hM : XM X = M) (hr : 5 ∈ M) (kk : ∀ h1, h1 = hup h 5 9 x → Wh X (pc + 3) L st h1 0) : Wh X pc L (vi x :: vr 5 :: st) h 0 := s_putI (r := 5) (i := 9) (idx := 32) (ci := 3) (N := 11) (Cn := RX3) (T := TX3) C d rfl rfl (by decide) rfl inlX3 (by decide +kernel : Cond.fieldLink RX3 32 "PlaneColours$Parting" "inside" "I" ∈ wsL_law) tyX3_ok nmX3 rfl (by decide) hM hr kk
theorem pf_X3_35 {M : List Nat} {x : Int} {X : CxT} {cc : ByteArray} {f n nL pc : Nat} {L : List (Nat × Vv)} {st : List Vv} {h : Hp} (C : CX X cc RX3 f n nL) (d : decode cc pc = .ok (.putfield 35, 3)) (hM : XM X = M) (hr : 5 ∈ M) (kk : ∀ h1, h1 = hup h 5 10 x → Wh X (pc + 3) L st h1 0) : Wh X pc L (vi x :: vr 5 :: st) h 0 := s_putI (r := 5) (i := 10) (idx := 35) (ci := 3) (N := 11) (Cn := RX3) (T := TX3) C d rfl rfl (by decide) rfl inlX3 (by decide +kernel : Cond.fieldLink RX3 35 "PlaneColours$Parting" "outside" "I" ∈ wsL_law) tyX3_ok nmX3 rfl (by decide) hM hr kk
theorem gf_X3_115 {X : CxT} {cc : ByteArray} {f n nL pc : Nat} {L : List (Nat × Vv)} {st : List Vv} {h : Hp} (C : CX X cc RX3 f n nL) (d : decode cc pc = .ok (.getfield 115, 3)) (kk : Wh X (pc + 3) L (vr 10 :: st) h 0) : Wh X pc L (vr 1 :: st) h 0 := r_getR (q := 10) (r := 1) (i := 4) (idx := 115) (ci := 2) (N := 9) (Cn := RX2) (T := TX2) C d rfl rfl (by decide) rfl inlX2 (by decide +kernel : Cond.fieldLink RX3 115 "PlaneColours$Graph" "firstSide" "[I" ∈ wsL_law) kk
theorem gf_X3_32 {X : CxT} {cc : ByteArray} {f n nL pc : Nat} {L : List (Nat × Vv)} {st : List Vv} {h : Hp} (C : CX X cc RX3 f n nL) (d : decode cc pc = .ok (.getfield 32, 3)) (kk : Wh X (pc + 3) L (vi (h 5 9) :: st) h 0) : Wh X pc L (vr 5 :: st) h 0 := r_getI (r := 5) (i := 9) (idx := 32) (ci := 3) (N := 11) (Cn := RX3) (T := TX3) C d rfl rfl (by decide) rfl inlX3 (by decide +kernel : Cond.fieldLink RX3 32 "PlaneColours$Parting" "inside" "I" ∈ wsL_law) kk
theorem gf_X3_35 {X : CxT} {cc : ByteArray} {f n nL pc : Nat} {L : List (Nat × Vv)} {st : List Vv} {h : Hp} (C : CX X cc RX3 f n nL) (d : decode cc pc = .ok (.getfield 35, 3)) (kk : Wh X (pc + 3) L (vi (h 5 10) :: st) h 0) : Wh X pc L (vr 5 :: st) h 0 := r_getI (r := 5) (i := 10) (idx := 35) (ci := 3) (N := 11) (Cn := RX3) (T := TX3) C d rfl rfl (by decide) rfl inlX3 (by decide +kernel : Cond.fieldLink RX3 35 "PlaneColours$Parting" "outside" "I" ∈ wsL_law) kk
theorem gf_X5_12 {X : CxT} {cc : ByteArray} {f n nL pc : Nat} {L : List (Nat × Vv)} {st : List Vv} {h : Hp} (C : CX X cc RX5 f n nL) (d : decode cc pc = .ok (.getfield 12, 3)) (kk : Wh X (pc + 3) L (vr 1 :: st) h 0) : Wh X pc L (vr 0 :: st) h 0 := r_getR (q := 1) (r := 0) (i := 0) (idx := 12) (ci := 5) (N := 5) (Cn := RX5) (T := TX5) C d rfl rfl (by decide) rfl inlX5 (by decide +kernel : Cond.fieldLink RX5 12 "PlaneColours" "graph" "LPlaneColours$Graph;" ∈ wsL_law) kk
theorem gf_X5_48 {X : CxT} {cc : ByteArray} {f n nL pc : Nat} {L : List (Nat × Vv)} {st : List Vv} {h : Hp} (C : CX X cc RX5 f n nL) (d : decode cc pc = .ok (.getfield 48, 3)) (kk : Wh X (pc + 3) L (vi (h 1 6) :: st) h 0) : Wh X pc L (vr 1 :: st) h 0 := r_getI (r := 1) (i := 6) (idx := 48) (ci := 2) (N := 9) (Cn := RX2) (T := TX2) C d rfl rfl (by decide) rfl inlX2 (by decide +kernel : Cond.fieldLink RX5 48 "PlaneColours$Graph" "vertices" "I" ∈ wsL_law) kk
theorem ck_X5_59 : CallOk yX2_addVertex cX2_addVertex 2 (some .int) RX2 RX5 59 0 := ⟨rfl, ⟨by decide, by decide, by decide +kernel⟩, by decide +kernel, by decide +kernel, by decide +kernel, by decide +kernel, by decide +kernel⟩
theorem gf_X5_35 {X : CxT} {cc : ByteArray} {f n nL pc : Nat} {L : List (Nat × Vv)} {st : List Vv} {h : Hp} (C : CX X cc RX5 f n nL) (d : decode cc pc = .ok (.getfield 35, 3)) (kk : Wh X (pc + 3) L (vr 4 :: st) h 0) : Wh X pc L (vr 0 :: st) h 0 := r_getR (q := 4) (r := 0) (i := 3) (idx := 35) (ci := 5) (N := 5) (Cn := RX5) (T := TX5) C d rfl rfl (by decide) rfl inlX5 (by decide +kernel : Cond.fieldLink RX5 35 "PlaneColours" "colouring" "LPlaneColours$Colouring;" ∈ wsL_law) kk
theorem gf_X5_63 {X : CxT} {cc : ByteArray} {f n nL pc : Nat} {L : List (Nat × Vv)} {st : List Vv} {h : Hp} (C : CX X cc RX5 f n nL) (d : decode cc pc = .ok (.getfield 63, 3)) (kk : Wh X (pc + 3) L (vr 20 :: st) h 0) : Wh X pc L (vr 4 :: st) h 0 := r_getR (q := 20) (r := 4) (i := 1) (idx := 63) (ci := 0) (N := 9) (Cn := RX0) (T := TX0) C d rfl rfl (by decide) rfl inlX0 (by decide +kernel : Cond.fieldLink RX5 63 "PlaneColours$Colouring" "colourOfVertex" "[I" ∈ wsL_law) kk
theorem ck_X5_67 : CallOk yX5_surveyAgain cX5_surveyAgain 1 none RX5 RX5 67 0 := ⟨rfl, ⟨by decide, by decide, by decide +kernel⟩, by decide +kernel, by decide +kernel, by decide +kernel, by decide +kernel, by decide +kernel⟩
theorem ck_X5_70 : CallOk yX5_checkVertex cX5_checkVertex 2 none RX5 RX5 70 1 := ⟨rfl, ⟨by decide, by decide, by decide +kernel⟩, by decide +kernel, by decide +kernel, by decide +kernel, by decide +kernel, by decide +kernel⟩
theorem ck_X5_74 : CallOk yX5_checkEdgeOrNone cX5_checkEdgeOrNone 2 none RX5 RX5 74 1 := ⟨rfl, ⟨by decide, by decide, by decide +kernel⟩, by decide +kernel, by decide +kernel, by decide +kernel, by decide +kernel, by decide +kernel⟩
theorem ck_X5_77 : CallOk yX2_areJoined cX2_areJoined 5 (some .boolean) RX2 RX5 77 2 := ⟨rfl, ⟨by decide, by decide, by decide +kernel⟩, by decide +kernel, by decide +kernel, by decide +kernel, by decide +kernel, by decide +kernel⟩
theorem ck_X5_86 : CallOk yX2_mayFollow cX2_mayFollow 3 (some .boolean) RX2 RX5 86 2 := ⟨rfl, ⟨by decide, by decide, by decide +kernel⟩, by decide +kernel, by decide +kernel, by decide +kernel, by decide +kernel, by decide +kernel⟩
theorem gf_X5_91 {X : CxT} {cc : ByteArray} {f n nL pc : Nat} {L : List (Nat × Vv)} {st : List Vv} {h : Hp} (C : CX X cc RX5 f n nL) (d : decode cc pc = .ok (.getfield 91, 3)) (kk : Wh X (pc + 3) L (vi (h 1 7) :: st) h 0) : Wh X pc L (vr 1 :: st) h 0 := r_getI (r := 1) (i := 7) (idx := 91) (ci := 2) (N := 9) (Cn := RX2) (T := TX2) C d rfl rfl (by decide) rfl inlX2 (by decide +kernel : Cond.fieldLink RX5 91 "PlaneColours$Graph" "made" "I" ∈ wsL_law) kk
theorem ck_X5_96 : CallOk yX2_addEdge cX2_addEdge 6 (some .int) RX2 RX5 96 4 := ⟨rfl, ⟨by decide, by decide, by decide +kernel⟩, by decide +kernel, by decide +kernel, by decide +kernel, by decide +kernel, by decide +kernel⟩
theorem ck_X5_100 : CallOk yX0_forget cX0_forget 2 none RX0 RX5 100 0 := ⟨rfl, ⟨by decide, by decide, by decide +kernel⟩, by decide +kernel, by decide +kernel, by decide +kernel, by decide +kernel, by decide +kernel⟩
theorem ck_X5_103 : CallOk yX5_checkEdge cX5_checkEdge 2 none RX5 RX5 103 1 := ⟨rfl, ⟨by decide, by decide, by decide +kernel⟩, by decide +kernel, by decide +kernel, by decide +kernel, by decide +kernel, by decide +kernel⟩
theorem ck_X5_106 : CallOk yX2_dropEdge cX2_dropEdge 2 none RX2 RX5 106 1 := ⟨rfl, ⟨by decide, by decide, by decide +kernel⟩, by decide +kernel, by decide +kernel, by decide +kernel, by decide +kernel, by decide +kernel⟩
theorem gf_X5_109 {X : CxT} {cc : ByteArray} {f n nL pc : Nat} {L : List (Nat × Vv)} {st : List Vv} {h : Hp} (C : CX X cc RX5 f n nL) (d : decode cc pc = .ok (.getfield 109, 3)) (kk : Wh X (pc + 3) L (vi (h 1 8) :: st) h 0) : Wh X pc L (vr 1 :: st) h 0 := r_getI (r := 1) (i := 8) (idx := 109) (ci := 2) (N := 9) (Cn := RX2) (T := TX2) C d rfl rfl (by decide) rfl inlX2 (by decide +kernel : Cond.fieldLink RX5 109 "PlaneColours$Graph" "left" "I" ∈ wsL_law) kk
theorem gf_X5_112 {X : CxT} {cc : ByteArray} {f n nL pc : Nat} {L : List (Nat × Vv)} {st : List Vv} {h : Hp} (C : CX X cc RX5 f n nL) (d : decode cc pc = .ok (.getfield 112, 3)) (kk : Wh X (pc + 3) L (vr 11 :: st) h 0) : Wh X pc L (vr 1 :: st) h 0 := r_getR (q := 11) (r := 1) (i := 5) (idx := 112) (ci := 2) (N := 9) (Cn := RX2) (T := TX2) C d rfl rfl (by decide) rfl inlX2 (by decide +kernel : Cond.fieldLink RX5 112 "PlaneColours$Graph" "degrees" "[I" ∈ wsL_law) kk
theorem gf_X5_120 {X : CxT} {cc : ByteArray} {f n nL pc : Nat} {L : List (Nat × Vv)} {st : List Vv} {h : Hp} (C : CX X cc RX5 f n nL) (d : decode cc pc = .ok (.getfield 120, 3)) (kk : Wh X (pc + 3) L (vr 10 :: st) h 0) : Wh X pc L (vr 1 :: st) h 0 := r_getR (q := 10) (r := 1) (i := 4) (idx := 120) (ci := 2) (N := 9) (Cn := RX2) (T := TX2) C d rfl rfl (by decide) rfl inlX2 (by decide +kernel : Cond.fieldLink RX5 120 "PlaneColours$Graph" "firstSide" "[I" ∈ wsL_law) kk
theorem gf_X5_123 {X : CxT} {cc : ByteArray} {f n nL pc : Nat} {L : List (Nat × Vv)} {st : List Vv} {h : Hp} (C : CX X cc RX5 f n nL) (d : decode cc pc = .ok (.getfield 123, 3)) (kk : Wh X (pc + 3) L (vr 7 :: st) h 0) : Wh X pc L (vr 1 :: st) h 0 := r_getR (q := 7) (r := 1) (i := 1) (idx := 123) (ci := 2) (N := 9) (Cn := RX2) (T := TX2) C d rfl rfl (by decide) rfl inlX2 (by decide +kernel : Cond.fieldLink RX5 123 "PlaneColours$Graph" "next" "[I" ∈ wsL_law) kk
theorem gf_X5_126 {X : CxT} {cc : ByteArray} {f n nL pc : Nat} {L : List (Nat × Vv)} {st : List Vv} {h : Hp} (C : CX X cc RX5 f n nL) (d : decode cc pc = .ok (.getfield 126, 3)) (kk : Wh X (pc + 3) L (vr 6 :: st) h 0) : Wh X pc L (vr 1 :: st) h 0 := r_getR (q := 6) (r := 1) (i := 0) (idx := 126) (ci := 2) (N := 9) (Cn := RX2) (T := TX2) C d rfl rfl (by decide) rfl inlX2 (by decide +kernel : Cond.fieldLink RX5 126 "PlaneColours$Graph" "start" "[I" ∈ wsL_law) kk
theorem gf_X5_21 {X : CxT} {cc : ByteArray} {f n nL pc : Nat} {L : List (Nat × Vv)} {st : List Vv} {h : Hp} (C : CX X cc RX5 f n nL) (d : decode cc pc = .ok (.getfield 21, 3)) (kk : Wh X (pc + 3) L (vr 2 :: st) h 0) : Wh X pc L (vr 0 :: st) h 0 := r_getR (q := 2) (r := 0) (i := 1) (idx := 21) (ci := 5) (N := 5) (Cn := RX5) (T := TX5) C d rfl rfl (by decide) rfl inlX5 (by decide +kernel : Cond.fieldLink RX5 21 "PlaneColours" "faceRows" "LPlaneColours$FaceRows;" ∈ wsL_law) kk
theorem gf_X5_129 {X : CxT} {cc : ByteArray} {f n nL pc : Nat} {L : List (Nat × Vv)} {st : List Vv} {h : Hp} (C : CX X cc RX5 f n nL) (d : decode cc pc = .ok (.getfield 129, 3)) (kk : Wh X (pc + 3) L (vi (h 2 4) :: st) h 0) : Wh X pc L (vr 2 :: st) h 0 := r_getI (r := 2) (i := 4) (idx := 129) (ci := 1) (N := 5) (Cn := RX1) (T := TX1) C d rfl rfl (by decide) rfl inlX1 (by decide +kernel : Cond.fieldLink RX5 129 "PlaneColours$FaceRows" "count" "I" ∈ wsL_law) kk
theorem ck_X5_132 : CallOk yX5_checkFace cX5_checkFace 2 none RX5 RX5 132 1 := ⟨rfl, ⟨by decide, by decide, by decide +kernel⟩, by decide +kernel, by decide +kernel, by decide +kernel, by decide +kernel, by decide +kernel⟩
theorem gf_X5_135 {X : CxT} {cc : ByteArray} {f n nL pc : Nat} {L : List (Nat × Vv)} {st : List Vv} {h : Hp} (C : CX X cc RX5 f n nL) (d : decode cc pc = .ok (.getfield 135, 3)) (kk : Wh X (pc + 3) L (vr 14 :: st) h 0) : Wh X pc L (vr 2 :: st) h 0 := r_getR (q := 14) (r := 2) (i := 3) (idx := 135) (ci := 1) (N := 5) (Cn := RX1) (T := TX1) C d rfl rfl (by decide) rfl inlX1 (by decide +kernel : Cond.fieldLink RX5 135 "PlaneColours$FaceRows" "lengths" "[I" ∈ wsL_law) kk
theorem gf_X5_140 {X : CxT} {cc : ByteArray} {f n nL pc : Nat} {L : List (Nat × Vv)} {st : List Vv} {h : Hp} (C : CX X cc RX5 f n nL) (d : decode cc pc = .ok (.getfield 140, 3)) (kk : Wh X (pc + 3) L (vr 13 :: st) h 0) : Wh X pc L (vr 2 :: st) h 0 := r_getR (q := 13) (r := 2) (i := 2) (idx := 140) (ci := 1) (N := 5) (Cn := RX1) (T := TX1) C d rfl rfl (by decide) rfl inlX1 (by decide +kernel : Cond.fieldLink RX5 140 "PlaneColours$FaceRows" "leastSide" "[I" ∈ wsL_law) kk
theorem ck_X5_143 : CallOk yX2_sideBehind cX2_sideBehind 2 (some .int) RX2 RX5 143 1 := ⟨rfl, ⟨by decide, by decide, by decide +kernel⟩, by decide +kernel, by decide +kernel, by decide +kernel, by decide +kernel, by decide +kernel⟩
theorem gf_X5_28 {X : CxT} {cc : ByteArray} {f n nL pc : Nat} {L : List (Nat × Vv)} {st : List Vv} {h : Hp} (C : CX X cc RX5 f n nL) (d : decode cc pc = .ok (.getfield 28, 3)) (kk : Wh X (pc + 3) L (vr 3 :: st) h 0) : Wh X pc L (vr 0 :: st) h 0 := r_getR (q := 3) (r := 0) (i := 2) (idx := 28) (ci := 5) (N := 5) (Cn := RX5) (T := TX5) C d rfl rfl (by decide) rfl inlX5 (by decide +kernel : Cond.fieldLink RX5 28 "PlaneColours" "tree" "LPlaneColours$Tree;" ∈ wsL_law) kk
theorem gf_X5_147 {X : CxT} {cc : ByteArray} {f n nL pc : Nat} {L : List (Nat × Vv)} {st : List Vv} {h : Hp} (C : CX X cc RX5 f n nL) (d : decode cc pc = .ok (.getfield 147, 3)) (kk : Wh X (pc + 3) L (vi (h 3 7) :: st) h 0) : Wh X pc L (vr 3 :: st) h 0 := r_getI (r := 3) (i := 7) (idx := 147) (ci := 4) (N := 8) (Cn := RX4) (T := TX4) C d rfl rfl (by decide) rfl inlX4 (by decide +kernel : Cond.fieldLink RX5 147 "PlaneColours$Tree" "count" "I" ∈ wsL_law) kk
theorem ck_X5_148 : CallOk yX2_lonelyVertices cX2_lonelyVertices 3 (some .int) RX2 RX5 148 0 := ⟨rfl, ⟨by decide, by decide, by decide +kernel⟩, by decide +kernel, by decide +kernel, by decide +kernel, by decide +kernel, by decide +kernel⟩
theorem ck_X5_151 : CallOk yX5_checkPlane cX5_checkPlane 1 none RX5 RX5 151 0 := ⟨rfl, ⟨by decide, by decide, by decide +kernel⟩, by decide +kernel, by decide +kernel, by decide +kernel, by decide +kernel, by decide +kernel⟩
theorem ck_X5_154 : CallOk yX0_colourAll cX0_colourAll 3 none RX0 RX5 154 0 := ⟨rfl, ⟨by decide, by decide, by decide +kernel⟩, by decide +kernel, by decide +kernel, by decide +kernel, by decide +kernel, by decide +kernel⟩
theorem ck_X5_157 : CallOk yX0_coloursUsed cX0_coloursUsed 3 (some .int) RX0 RX5 157 0 := ⟨rfl, ⟨by decide, by decide, by decide +kernel⟩, by decide +kernel, by decide +kernel, by decide +kernel, by decide +kernel, by decide +kernel⟩
theorem gf_X5_160 {X : CxT} {cc : ByteArray} {f n nL pc : Nat} {L : List (Nat × Vv)} {st : List Vv} {h : Hp} (C : CX X cc RX5 f n nL) (d : decode cc pc = .ok (.getfield 160, 3)) (kk : Wh X (pc + 3) L (vi (h 4 8) :: st) h 0) : Wh X pc L (vr 4 :: st) h 0 := r_getI (r := 4) (i := 8) (idx := 160) (ci := 0) (N := 9) (Cn := RX0) (T := TX0) C d rfl rfl (by decide) rfl inlX0 (by decide +kernel : Cond.fieldLink RX5 160 "PlaneColours$Colouring" "chainsChanged" "I" ∈ wsL_law) kk
theorem ck_X5_167 : CallOk yX0_collectChain cX0_collectChain 5 none RX0 RX5 167 2 := ⟨rfl, ⟨by decide, by decide, by decide +kernel⟩, by decide +kernel, by decide +kernel, by decide +kernel, by decide +kernel, by decide +kernel⟩
theorem ck_X5_171 : CallOk yX0_swapChain cX0_swapChain 5 none RX0 RX5 171 2 := ⟨rfl, ⟨by decide, by decide, by decide +kernel⟩, by decide +kernel, by decide +kernel, by decide +kernel, by decide +kernel, by decide +kernel⟩
theorem gf_X5_174 {X : CxT} {cc : ByteArray} {f n nL pc : Nat} {L : List (Nat × Vv)} {st : List Vv} {h : Hp} (C : CX X cc RX5 f n nL) (d : decode cc pc = .ok (.getfield 174, 3)) (kk : Wh X (pc + 3) L (vi (h 4 7) :: st) h 0) : Wh X pc L (vr 4 :: st) h 0 := r_getI (r := 4) (i := 7) (idx := 174) (ci := 0) (N := 9) (Cn := RX0) (T := TX0) C d rfl rfl (by decide) rfl inlX0 (by decide +kernel : Cond.fieldLink RX5 174 "PlaneColours$Colouring" "chainSize" "I" ∈ wsL_law) kk
theorem ck_X5_177 : CallOk yX0_equalEnds cX0_equalEnds 4 (some .int) RX0 RX5 177 0 := ⟨rfl, ⟨by decide, by decide, by decide +kernel⟩, by decide +kernel, by decide +kernel, by decide +kernel, by decide +kernel, by decide +kernel⟩
theorem gf_X5_180 {X : CxT} {cc : ByteArray} {f n nL pc : Nat} {L : List (Nat × Vv)} {st : List Vv} {h : Hp} (C : CX X cc RX5 f n nL) (d : decode cc pc = .ok (.getfield 180, 3)) (kk : Wh X (pc + 3) L (vr 15 :: st) h 0) : Wh X pc L (vr 3 :: st) h 0 := r_getR (q := 15) (r := 3) (i := 1) (idx := 180) (ci := 4) (N := 8) (Cn := RX4) (T := TX4) C d rfl rfl (by decide) rfl inlX4 (by decide +kernel : Cond.fieldLink RX5 180 "PlaneColours$Tree" "vertexAbove" "[I" ∈ wsL_law) kk
theorem ck_X5_183 : CallOk yX4_holds cX4_holds 2 (some .boolean) RX4 RX5 183 1 := ⟨rfl, ⟨by decide, by decide, by decide +kernel⟩, by decide +kernel, by decide +kernel, by decide +kernel, by decide +kernel, by decide +kernel⟩
theorem gf_X5_44 {X : CxT} {cc : ByteArray} {f n nL pc : Nat} {L : List (Nat × Vv)} {st : List Vv} {h : Hp} (C : CX X cc RX5 f n nL) (d : decode cc pc = .ok (.getfield 44, 3)) (kk : Wh X (pc + 3) L (vr 5 :: st) h 0) : Wh X pc L (vr 0 :: st) h 0 := r_getR (q := 5) (r := 0) (i := 4) (idx := 44) (ci := 5) (N := 5) (Cn := RX5) (T := TX5) C d rfl rfl (by decide) rfl inlX5 (by decide +kernel : Cond.fieldLink RX5 44 "PlaneColours" "parting" "LPlaneColours$Parting;" ∈ wsL_law) kk
theorem ck_X5_187 : CallOk yX3_markCycle cX3_markCycle 5 none RX3 RX5 187 1 := ⟨rfl, ⟨by decide, by decide, by decide +kernel⟩, by decide +kernel, by decide +kernel, by decide +kernel, by decide +kernel, by decide +kernel⟩
theorem gf_X5_190 {X : CxT} {cc : ByteArray} {f n nL pc : Nat} {L : List (Nat × Vv)} {st : List Vv} {h : Hp} (C : CX X cc RX5 f n nL) (d : decode cc pc = .ok (.getfield 190, 3)) (kk : Wh X (pc + 3) L (vi (h 5 8) :: st) h 0) : Wh X pc L (vr 5 :: st) h 0 := r_getI (r := 5) (i := 8) (idx := 190) (ci := 3) (N := 11) (Cn := RX3) (T := TX3) C d rfl rfl (by decide) rfl inlX3 (by decide +kernel : Cond.fieldLink RX5 190 "PlaneColours$Parting" "cycleLength" "I" ∈ wsL_law) kk
theorem ck_X5_193 : CallOk yX3_partBy cX3_partBy 2 none RX3 RX5 193 1 := ⟨rfl, ⟨by decide, by decide, by decide +kernel⟩, by decide +kernel, by decide +kernel, by decide +kernel, by decide +kernel, by decide +kernel⟩
theorem gf_X5_196 {X : CxT} {cc : ByteArray} {f n nL pc : Nat} {L : List (Nat × Vv)} {st : List Vv} {h : Hp} (C : CX X cc RX5 f n nL) (d : decode cc pc = .ok (.getfield 196, 3)) (kk : Wh X (pc + 3) L (vi (h 5 9) :: st) h 0) : Wh X pc L (vr 5 :: st) h 0 := r_getI (r := 5) (i := 9) (idx := 196) (ci := 3) (N := 11) (Cn := RX3) (T := TX3) C d rfl rfl (by decide) rfl inlX3 (by decide +kernel : Cond.fieldLink RX5 196 "PlaneColours$Parting" "inside" "I" ∈ wsL_law) kk
theorem gf_X5_199 {X : CxT} {cc : ByteArray} {f n nL pc : Nat} {L : List (Nat × Vv)} {st : List Vv} {h : Hp} (C : CX X cc RX5 f n nL) (d : decode cc pc = .ok (.getfield 199, 3)) (kk : Wh X (pc + 3) L (vi (h 5 10) :: st) h 0) : Wh X pc L (vr 5 :: st) h 0 := r_getI (r := 5) (i := 10) (idx := 199) (ci := 3) (N := 11) (Cn := RX3) (T := TX3) C d rfl rfl (by decide) rfl inlX3 (by decide +kernel : Cond.fieldLink RX5 199 "PlaneColours$Parting" "outside" "I" ∈ wsL_law) kk
theorem gf_X5_202 {X : CxT} {cc : ByteArray} {f n nL pc : Nat} {L : List (Nat × Vv)} {st : List Vv} {h : Hp} (C : CX X cc RX5 f n nL) (d : decode cc pc = .ok (.getfield 202, 3)) (kk : Wh X (pc + 3) L (vr 9 :: st) h 0) : Wh X pc L (vr 1 :: st) h 0 := r_getR (q := 9) (r := 1) (i := 3) (idx := 202) (ci := 2) (N := 9) (Cn := RX2) (T := TX2) C d rfl rfl (by decide) rfl inlX2 (by decide +kernel : Cond.fieldLink RX5 202 "PlaneColours$Graph" "isHere" "[Z" ∈ wsL_law) kk
theorem ck_X5_212 : CallOk yX5_isPlane cX5_isPlane 1 (some .boolean) RX5 RX5 212 0 := ⟨rfl, ⟨by decide, by decide, by decide +kernel⟩, by decide +kernel, by decide +kernel, by decide +kernel, by decide +kernel, by decide +kernel⟩
theorem ck_X5_216 : CallOk yX2_dropAll cX2_dropAll 1 none RX2 RX5 216 0 := ⟨rfl, ⟨by decide, by decide, by decide +kernel⟩, by decide +kernel, by decide +kernel, by decide +kernel, by decide +kernel, by decide +kernel⟩
theorem ck_X5_219 : CallOk yX1_survey cX1_survey 3 none RX1 RX5 219 0 := ⟨rfl, ⟨by decide, by decide, by decide +kernel⟩, by decide +kernel, by decide +kernel, by decide +kernel, by decide +kernel, by decide +kernel⟩
theorem ck_X5_222 : CallOk yX4_survey cX4_survey 2 none RX4 RX5 222 0 := ⟨rfl, ⟨by decide, by decide, by decide +kernel⟩, by decide +kernel, by decide +kernel, by decide +kernel, by decide +kernel, by decide +kernel⟩
theorem ck_X5_223 : CallOk yX5_genus cX5_genus 2 (some .int) RX5 RX5 223 0 := ⟨rfl, ⟨by decide, by decide, by decide +kernel⟩, by decide +kernel, by decide +kernel, by decide +kernel, by decide +kernel, by decide +kernel⟩
end
section
def V_X2_addVertex (P : Int → Hp → Prop) (h0 : Hp) : Prop :=
  ∀ z1 : Int, z1 = (h0 1 6) → ((0 ≤ z1 ∧ z1 < 30) ∧ (∀ h3 : Hp, h3 = hup h0 10 z1 (-1) → ((0 ≤ z1 ∧ z1 < 30) ∧ (∀ h5 : Hp, h5 = hup h3 11 z1 0 → (InR ((h5 1 6) + 1) ∧ (∀ h7 : Hp, h7 = hup h5 1 6 ((h5 1 6) + 1) → (P z1 h7)))))))
set_option maxHeartbeats 4000000 in
set_option maxRecDepth 100000 in
theorem w_X2_addVertex {l : Launch} (P : Int → Hp → Prop) (h0 : Hp)
    (o : RH h0 → V_X2_addVertex P h0) :
    Ct l yX2_addVertex cX2_addVertex 2 (some .int) 0 0 0 [vr 1] h0 [1, 10, 11] P (fun _ => False) := by
  refine Ct.of (own := RX2) (by decide) rfl (Nat.le_of_ble_eq_true rfl) ?_
  intro X C hXl hXM hXh hXP hXX hXc hXr hav hR0
  have hmain : V_X2_addVertex P h0 := o hR0 
  show Wh X 0 [(0, vr 1)] [] h0 0
  have v := hmain
  unfold V_X2_addVertex at v
  refine r_aload_n 0 C dX2_addVertex_0 rfl ?_
  refine gf_X2_31 C dX2_addVertex_1 ?_
  refine s_istore_n C dX2_addVertex_4 (by decide) (fun z1 ez1 => ?_)
  have v := v z1 ez1
  show Wh X 5 [(1, vi z1), (0, vr 1)] [] h0 0
  refine r_aload_n 1 C dX2_addVertex_5 rfl ?_
  refine gf_X2_25 C dX2_addVertex_6 ?_
  refine r_iload_n 0 C dX2_addVertex_9 rfl ?_
  refine r_iconst C dX2_addVertex_10 ⟨by decide, by decide⟩ ?_
  obtain ⟨o2, v⟩ := v
  refine s_iastore (r := 10) (N := 30) C dX2_addVertex_11 rfl hXM (by decide) o2 (fun h3 eh3 => ?_)
  have v := v h3 eh3
  refine r_aload_n 1 C dX2_addVertex_12 rfl ?_
  refine gf_X2_28 C dX2_addVertex_13 ?_
  refine r_iload_n 0 C dX2_addVertex_16 rfl ?_
  refine r_iconst C dX2_addVertex_17 ⟨by decide, by decide⟩ ?_
  obtain ⟨o4, v⟩ := v
  refine s_iastore (r := 11) (N := 30) C dX2_addVertex_18 rfl hXM (by decide) o4 (fun h5 eh5 => ?_)
  have v := v h5 eh5
  refine r_aload_n 1 C dX2_addVertex_19 rfl ?_
  refine r_dup C dX2_addVertex_20 trivial ?_
  refine gf_X2_31 C dX2_addVertex_21 ?_
  refine r_iconst C dX2_addVertex_24 ⟨by decide, by decide⟩ ?_
  obtain ⟨o6, v⟩ := v
  refine r_iadd C dX2_addVertex_25 o6 ?_
  refine pf_X2_31 C dX2_addVertex_26 hXM (by decide) (fun h7 eh7 => ?_)
  have v := v h7 eh7
  refine r_iload_n 0 C dX2_addVertex_29 rfl ?_
  exact r_ireturn C dX2_addVertex_30 hXr (Nat.zero_le _) (by rw [hXP]; exact v)

def V_X2_addEdge (P : Int → Hp → Prop) (p_X2_putSide : Int → Int → Int → Hp → Prop) (q_X2_putSide : Int → Int → Int → Hp → Hp → Prop) (h0 : Hp) (a1 : Int) (a2 : Int) (a3 : Int) (a4 : Int) : Prop :=
  ∀ z1 : Int, z1 = (h0 1 7) → ((0 ≤ z1 ∧ z1 < 100) ∧ (∀ h3 : Hp, h3 = hup h0 9 z1 1 → (InR ((h3 1 7) + 1) ∧ (∀ h5 : Hp, h5 = hup h3 1 7 ((h3 1 7) + 1) → (InR ((h5 1 8) + 1) ∧ (∀ h7 : Hp, h7 = hup h5 1 8 ((h5 1 8) + 1) → (InR (2 * z1) ∧ (p_X2_putSide (2 * z1) a1 a3 h7 ∧ (∀ h10 : Hp, Fr [6, 7, 8, 10, 11] h7 h10 → RH h10 → q_X2_putSide (2 * z1) a1 a3 h7 h10 → (InR (2 * z1) ∧ (InR ((2 * z1) + 1) ∧ (p_X2_putSide ((2 * z1) + 1) a2 a4 h10 ∧ (∀ h14 : Hp, Fr [6, 7, 8, 10, 11] h10 h14 → RH h14 → q_X2_putSide ((2 * z1) + 1) a2 a4 h10 h14 → (P z1 h14))))))))))))))
set_option maxHeartbeats 4000000 in
set_option maxRecDepth 100000 in
theorem w_X2_addEdge {l : Launch} (P : Int → Hp → Prop) (p_X2_putSide : Int → Int → Int → Hp → Prop) (q_X2_putSide : Int → Int → Int → Hp → Hp → Prop) (h0 : Hp) (a1 : Int) (a2 : Int) (a3 : Int) (a4 : Int)
    (c_X2_putSide : ∀ (b1 : Int) (b2 : Int) (b3 : Int) (h : Hp), p_X2_putSide b1 b2 b3 h → Ct l yX2_putSide cX2_putSide 6 none 1 22 0 [vr 1, vi b1, vi b2, vi b3] h [6, 7, 8, 10, 11] (fun _ h1 => q_X2_putSide b1 b2 b3 h h1) (fun _ => False))
    (o : RH h0 → InR a1 → InR a2 → InR a3 → InR a4 → V_X2_addEdge P p_X2_putSide q_X2_putSide h0 a1 a2 a3 a4) :
    Ct l yX2_addEdge cX2_addEdge 6 (some .int) 2 47 0 [vr 1, vi a1, vi a2, vi a3, vi a4] h0 [1, 6, 7, 8, 9, 10, 11] P (fun _ => False) := by
  refine Ct.of (own := RX2) (by decide) rfl (Nat.le_of_ble_eq_true rfl) ?_
  intro X C hXl hXM hXh hXP hXX hXc hXr hav hR0
  have hmain : V_X2_addEdge P p_X2_putSide q_X2_putSide h0 a1 a2 a3 a4 := o hR0 (hav (vi a1) (by simp)) (hav (vi a2) (by simp)) (hav (vi a3) (by simp)) (hav (vi a4) (by simp))
  show Wh X 0 [(0, vr 1), (1, vi a1), (2, vi a2), (3, vi a3), (4, vi a4)] [] h0 0
  have v := hmain
  unfold V_X2_addEdge at v
  refine r_aload_n 0 C dX2_addEdge_0 rfl ?_
  refine gf_X2_35 C dX2_addEdge_1 ?_
  refine s_istore C dX2_addEdge_4 (by decide) (fun z1 ez1 => ?_)
  have v := v z1 ez1
  show Wh X 6 [(5, vi z1), (0, vr 1), (1, vi a1), (2, vi a2), (3, vi a3), (4, vi a4)] [] h0 0
  refine r_aload_n 1 C dX2_addEdge_6 rfl ?_
  refine gf_X2_21 C dX2_addEdge_7 ?_
  refine r_iload 0 C dX2_addEdge_10 rfl ?_
  refine r_iconst C dX2_addEdge_12 ⟨by decide, by decide⟩ ?_
  obtain ⟨o2, v⟩ := v
  refine s_bastore (r := 9) (N := 100) C dX2_addEdge_13 rfl hXM (by decide) o2 (by decide) (fun h3 eh3 => ?_)
  have v := v h3 eh3
  refine r_aload_n 1 C dX2_addEdge_14 rfl ?_
  refine r_dup C dX2_addEdge_15 trivial ?_
  refine gf_X2_35 C dX2_addEdge_16 ?_
  refine r_iconst C dX2_addEdge_19 ⟨by decide, by decide⟩ ?_
  obtain ⟨o4, v⟩ := v
  refine r_iadd C dX2_addEdge_20 o4 ?_
  refine pf_X2_35 C dX2_addEdge_21 hXM (by decide) (fun h5 eh5 => ?_)
  have v := v h5 eh5
  refine r_aload_n 1 C dX2_addEdge_24 rfl ?_
  refine r_dup C dX2_addEdge_25 trivial ?_
  refine gf_X2_38 C dX2_addEdge_26 ?_
  refine r_iconst C dX2_addEdge_29 ⟨by decide, by decide⟩ ?_
  obtain ⟨o6, v⟩ := v
  refine r_iadd C dX2_addEdge_30 o6 ?_
  refine pf_X2_38 C dX2_addEdge_31 hXM (by decide) (fun h7 eh7 => ?_)
  have v := v h7 eh7
  refine r_aload_n 1 C dX2_addEdge_34 rfl ?_
  refine r_iconst C dX2_addEdge_35 ⟨by decide, by decide⟩ ?_
  refine r_iload 0 C dX2_addEdge_36 rfl ?_
  obtain ⟨o8, v⟩ := v
  refine r_imul C dX2_addEdge_38 o8 ?_
  refine r_iload_n 2 C dX2_addEdge_39 rfl ?_
  refine r_iload_n 4 C dX2_addEdge_40 rfl ?_
  obtain ⟨o9, v⟩ := v
  refine s_callv [(2 * z1), a1, a3] [] C dX2_addEdge_41 ck_X2_41 (r := 1) (fY := 1) (nY := 22) rfl rfl (by decide) (by decide) (Nat.le_of_ble_eq_true rfl) rfl (MY := [6, 7, 8, 10, 11]) hXM (by decide) (by rw [hXl]; exact c_X2_putSide (2 * z1) a1 a3 h7 o9) (fun h10 fh10 kh10 qh10 => ?_)
  have v := v h10 fh10 kh10 qh10
  refine r_aload_n 1 C dX2_addEdge_44 rfl ?_
  refine r_iconst C dX2_addEdge_45 ⟨by decide, by decide⟩ ?_
  refine r_iload 0 C dX2_addEdge_46 rfl ?_
  obtain ⟨o11, v⟩ := v
  refine r_imul C dX2_addEdge_48 o11 ?_
  refine r_iconst C dX2_addEdge_49 ⟨by decide, by decide⟩ ?_
  obtain ⟨o12, v⟩ := v
  refine r_iadd C dX2_addEdge_50 o12 ?_
  refine r_iload_n 3 C dX2_addEdge_51 rfl ?_
  refine r_iload 5 C dX2_addEdge_52 rfl ?_
  obtain ⟨o13, v⟩ := v
  refine s_callv [((2 * z1) + 1), a2, a4] [] C dX2_addEdge_54 ck_X2_41 (r := 1) (fY := 1) (nY := 22) rfl rfl (by decide) (by decide) (Nat.le_of_ble_eq_true rfl) rfl (MY := [6, 7, 8, 10, 11]) hXM (by decide) (by rw [hXl]; exact c_X2_putSide ((2 * z1) + 1) a2 a4 h10 o13) (fun h14 fh14 kh14 qh14 => ?_)
  have v := v h14 fh14 kh14 qh14
  refine r_iload 0 C dX2_addEdge_57 rfl ?_
  exact r_ireturn C dX2_addEdge_59 hXr (Nat.zero_le _) (by rw [hXP]; exact v)

def V_X2_putSide_90 (P : Int → Hp → Prop) (p_X2_link : Int → Int → Hp → Prop) (q_X2_link : Int → Int → Hp → Hp → Prop) (p_X2_sideFrom : Int → Int → Hp → Prop) (q_X2_sideFrom : Int → Int → Hp → Int → Prop) (h : Hp) (x2 : Int) : Prop :=
  (0 ≤ x2 ∧ x2 < 30) ∧ (InR ((h 11 x2) + 1) ∧ ((0 ≤ x2 ∧ x2 < 30) ∧ (∀ h4 : Hp, h4 = hup h 11 x2 ((h 11 x2) + 1) → (P 0 h4))))
def V_X2_putSide_65 (P : Int → Hp → Prop) (p_X2_link : Int → Int → Hp → Prop) (q_X2_link : Int → Int → Hp → Hp → Prop) (p_X2_sideFrom : Int → Int → Hp → Prop) (q_X2_sideFrom : Int → Int → Hp → Int → Prop) (h : Hp) (x1 : Int) (x2 : Int) (y0 : Int) : Prop :=
  ∀ z5 : Int, z5 = y0 → ((0 ≤ z5 ∧ z5 < 200) ∧ (∀ z7 : Int, z7 = (h 7 z5) → (p_X2_link z5 x1 h ∧ (∀ h9 : Hp, Fr [7, 8] h h9 → RH h9 → q_X2_link z5 x1 h h9 → (p_X2_link x1 z7 h9 ∧ (∀ h11 : Hp, Fr [7, 8] h9 h11 → RH h11 → q_X2_link x1 z7 h9 h11 → (V_X2_putSide_90 P p_X2_link q_X2_link p_X2_sideFrom q_X2_sideFrom h11 x2)))))))
def V_X2_putSide (P : Int → Hp → Prop) (p_X2_link : Int → Int → Hp → Prop) (q_X2_link : Int → Int → Hp → Hp → Prop) (p_X2_sideFrom : Int → Int → Hp → Prop) (q_X2_sideFrom : Int → Int → Hp → Int → Prop) (h0 : Hp) (a1 : Int) (a2 : Int) (a3 : Int) : Prop :=
  (0 ≤ a1 ∧ a1 < 200) ∧ (∀ h13 : Hp, h13 = hup h0 6 a1 a2 → ((0 ≤ a2 ∧ a2 < 30) ∧ ((¬ (h13 11 a2) = 0 → (¬ a3 = (-1) → p_X2_sideFrom a2 a3 h13 ∧ (∀ r18 : Int, InR r18 → q_X2_sideFrom a2 a3 h13 r18 → (V_X2_putSide_65 P p_X2_link q_X2_link p_X2_sideFrom q_X2_sideFrom h13 a1 a2 r18))) ∧ (a3 = (-1) → (0 ≤ a2 ∧ a2 < 30) ∧ ((0 ≤ (h13 10 a2) ∧ (h13 10 a2) < 200) ∧ (V_X2_putSide_65 P p_X2_link q_X2_link p_X2_sideFrom q_X2_sideFrom h13 a1 a2 (h13 8 (h13 10 a2)))))) ∧ ((h13 11 a2) = 0 → (0 ≤ a2 ∧ a2 < 30) ∧ (∀ h22 : Hp, h22 = hup h13 10 a2 a1 → ((0 ≤ a1 ∧ a1 < 200) ∧ (∀ h24 : Hp, h24 = hup h22 7 a1 a1 → ((0 ≤ a1 ∧ a1 < 200) ∧ (∀ h26 : Hp, h26 = hup h24 8 a1 a1 → (V_X2_putSide_90 P p_X2_link q_X2_link p_X2_sideFrom q_X2_sideFrom h26 a2))))))))))
set_option maxHeartbeats 4000000 in
set_option maxRecDepth 100000 in
theorem w_X2_putSide {l : Launch} (P : Int → Hp → Prop) (p_X2_link : Int → Int → Hp → Prop) (q_X2_link : Int → Int → Hp → Hp → Prop) (p_X2_sideFrom : Int → Int → Hp → Prop) (q_X2_sideFrom : Int → Int → Hp → Int → Prop) (h0 : Hp) (a1 : Int) (a2 : Int) (a3 : Int)
    (c_X2_link : ∀ (b1 : Int) (b2 : Int) (h : Hp), p_X2_link b1 b2 h → Ct l yX2_link cX2_link 3 none 0 0 0 [vr 1, vi b1, vi b2] h [7, 8] (fun _ h1 => q_X2_link b1 b2 h h1) (fun _ => False))
    (c_X2_sideFrom : ∀ (b1 : Int) (b2 : Int) (h : Hp), p_X2_sideFrom b1 b2 h → Ct l yX2_sideFrom cX2_sideFrom 3 (some .int) 0 0 0 [vr 1, vi b1, vi b2] h [] (fun r _ => q_X2_sideFrom b1 b2 h r) (fun _ => False))
    (o : RH h0 → InR a1 → InR a2 → InR a3 → V_X2_putSide P p_X2_link q_X2_link p_X2_sideFrom q_X2_sideFrom h0 a1 a2 a3) :
    Ct l yX2_putSide cX2_putSide 6 none 1 22 0 [vr 1, vi a1, vi a2, vi a3] h0 [6, 7, 8, 10, 11] P (fun _ => False) := by
  refine Ct.of (own := RX2) (by decide) rfl (Nat.le_of_ble_eq_true rfl) ?_
  intro X C hXl hXM hXh hXP hXX hXc hXr hav hR0
  have hmain : V_X2_putSide P p_X2_link q_X2_link p_X2_sideFrom q_X2_sideFrom h0 a1 a2 a3 := o hR0 (hav (vi a1) (by simp)) (hav (vi a2) (by simp)) (hav (vi a3) (by simp))
  have B_90 : ∀ (h : Hp) (x2 : Int), V_X2_putSide_90 P p_X2_link q_X2_link p_X2_sideFrom q_X2_sideFrom h x2 → Wh X 90 [(0, vr 1), (2, vi x2)] [] h 0 := by
    intro h x2 v
    unfold V_X2_putSide_90 at v
    refine r_aload_n 0 C dX2_putSide_90 rfl ?_
    refine gf_X2_28 C dX2_putSide_91 ?_
    refine r_iload_n 1 C dX2_putSide_94 rfl ?_
    refine r_dup2 C dX2_putSide_95 trivial trivial ?_
    obtain ⟨o1, v⟩ := v
    refine r_iaload (r := 11) (N := 30) C dX2_putSide_96 rfl o1 ?_
    refine r_iconst C dX2_putSide_97 ⟨by decide, by decide⟩ ?_
    obtain ⟨o2, v⟩ := v
    refine r_iadd C dX2_putSide_98 o2 ?_
    obtain ⟨o3, v⟩ := v
    refine s_iastore (r := 11) (N := 30) C dX2_putSide_99 rfl hXM (by decide) o3 (fun h4 eh4 => ?_)
    have v := v h4 eh4
    exact r_return C dX2_putSide_100 hXr (Nat.zero_le _) (by rw [hXP]; exact v)
  have B_65 : ∀ (h : Hp) (x1 : Int) (x2 : Int) (y0 : Int), V_X2_putSide_65 P p_X2_link q_X2_link p_X2_sideFrom q_X2_sideFrom h x1 x2 y0 → Wh X 65 [(0, vr 1), (1, vi x1), (2, vi x2)] [vi y0] h 0 := by
    intro h x1 x2 y0 v
    unfold V_X2_putSide_65 at v
    refine s_istore C dX2_putSide_65 (by decide) (fun z5 ez5 => ?_)
    have v := v z5 ez5
    show Wh X 67 [(4, vi z5), (0, vr 1), (1, vi x1), (2, vi x2)] [] h 0
    refine r_aload_n 1 C dX2_putSide_67 rfl ?_
    refine gf_X2_15 C dX2_putSide_68 ?_
    refine r_iload 0 C dX2_putSide_71 rfl ?_
    obtain ⟨o6, v⟩ := v
    refine r_iaload (r := 7) (N := 200) C dX2_putSide_73 rfl o6 ?_
    refine s_istore C dX2_putSide_74 (by decide) (fun z7 ez7 => ?_)
    have v := v z7 ez7
    show Wh X 76 [(5, vi z7), (4, vi z5), (0, vr 1), (1, vi x1), (2, vi x2)] [] h 0
    refine r_aload_n 2 C dX2_putSide_76 rfl ?_
    refine r_iload 1 C dX2_putSide_77 rfl ?_
    refine r_iload_n 3 C dX2_putSide_79 rfl ?_
    obtain ⟨o8, v⟩ := v
    refine s_callv [z5, x1] [] C dX2_putSide_80 ck_X2_49 (r := 1) (fY := 0) (nY := 0) rfl rfl (by decide) (by decide) (Nat.le_of_ble_eq_true rfl) rfl (MY := [7, 8]) hXM (by decide) (by rw [hXl]; exact c_X2_link z5 x1 h o8) (fun h9 fh9 kh9 qh9 => ?_)
    have v := v h9 fh9 kh9 qh9
    refine r_aload_n 2 C dX2_putSide_83 rfl ?_
    refine r_iload_n 3 C dX2_putSide_84 rfl ?_
    refine r_iload 0 C dX2_putSide_85 rfl ?_
    obtain ⟨o10, v⟩ := v
    refine s_callv [x1, z7] [] C dX2_putSide_87 ck_X2_49 (r := 1) (fY := 0) (nY := 0) rfl rfl (by decide) (by decide) (Nat.le_of_ble_eq_true rfl) rfl (MY := [7, 8]) hXM (by decide) (by rw [hXl]; exact c_X2_link x1 z7 h9 o10) (fun h11 fh11 kh11 qh11 => ?_)
    have v := v h11 fh11 kh11 qh11
    exact s_sub [2, 4] rfl (B_90 _ _ v)
  show Wh X 0 [(0, vr 1), (1, vi a1), (2, vi a2), (3, vi a3)] [] h0 0
  have v := hmain
  unfold V_X2_putSide at v
  refine r_aload_n 0 C dX2_putSide_0 rfl ?_
  refine gf_X2_9 C dX2_putSide_1 ?_
  refine r_iload_n 1 C dX2_putSide_4 rfl ?_
  refine r_iload_n 2 C dX2_putSide_5 rfl ?_
  obtain ⟨o12, v⟩ := v
  refine s_iastore (r := 6) (N := 200) C dX2_putSide_6 rfl hXM (by decide) o12 (fun h13 eh13 => ?_)
  have v := v h13 eh13
  refine r_aload_n 0 C dX2_putSide_7 rfl ?_
  refine gf_X2_28 C dX2_putSide_8 ?_
  refine r_iload_n 2 C dX2_putSide_11 rfl ?_
  obtain ⟨o14, v⟩ := v
  refine r_iaload (r := 11) (N := 30) C dX2_putSide_12 rfl o14 ?_
  refine r_if_ne (tgt := 40) C dX2_putSide_13 (by decide) (fun c15 => ?_) (fun c15 => ?_)
  · have v := v.1 c15
    refine r_iload_n 3 C dX2_putSide_40 rfl ?_
    refine r_iconst C dX2_putSide_41 ⟨by decide, by decide⟩ ?_
    refine r_icmp_ne (tgt := 59) C dX2_putSide_42 (by decide) (fun c16 => ?_) (fun c16 => ?_)
    · have v := v.1 c16
      refine r_aload_n 0 C dX2_putSide_59 rfl ?_
      refine r_iload_n 2 C dX2_putSide_60 rfl ?_
      refine r_iload_n 3 C dX2_putSide_61 rfl ?_
      obtain ⟨o17, v⟩ := v
      refine s_calli0 [a2, a3] [] C dX2_putSide_62 ck_X2_45 (r := 1) (fY := 0) (nY := 0) rfl rfl (by decide) (by decide) (Nat.le_of_ble_eq_true rfl) rfl (by rw [hXl]; exact c_X2_sideFrom a2 a3 h13 o17) (fun r18 gr18 qr18 => ?_)
      have v := v r18 gr18 qr18
      exact s_sub [0, 1, 2] rfl (B_65 _ _ _ _ v)
    · have v := v.2 c16
      refine r_aload_n 0 C dX2_putSide_45 rfl ?_
      refine gf_X2_18 C dX2_putSide_46 ?_
      refine r_aload_n 0 C dX2_putSide_49 rfl ?_
      refine gf_X2_25 C dX2_putSide_50 ?_
      refine r_iload_n 2 C dX2_putSide_53 rfl ?_
      obtain ⟨o19, v⟩ := v
      refine r_iaload (r := 10) (N := 30) C dX2_putSide_54 rfl o19 ?_
      obtain ⟨o20, v⟩ := v
      refine r_iaload (r := 8) (N := 200) C dX2_putSide_55 rfl o20 ?_
      refine r_goto (tgt := 65) C dX2_putSide_56 (by decide) ?_
      exact s_sub [0, 1, 2] rfl (B_65 _ _ _ _ v)
  · have v := v.2 c15
    refine r_aload_n 0 C dX2_putSide_16 rfl ?_
    refine gf_X2_25 C dX2_putSide_17 ?_
    refine r_iload_n 2 C dX2_putSide_20 rfl ?_
    refine r_iload_n 1 C dX2_putSide_21 rfl ?_
    obtain ⟨o21, v⟩ := v
    refine s_iastore (r := 10) (N := 30) C dX2_putSide_22 rfl hXM (by decide) o21 (fun h22 eh22 => ?_)
    have v := v h22 eh22
    refine r_aload_n 0 C dX2_putSide_23 rfl ?_
    refine gf_X2_15 C dX2_putSide_24 ?_
    refine r_iload_n 1 C dX2_putSide_27 rfl ?_
    refine r_iload_n 1 C dX2_putSide_28 rfl ?_
    obtain ⟨o23, v⟩ := v
    refine s_iastore (r := 7) (N := 200) C dX2_putSide_29 rfl hXM (by decide) o23 (fun h24 eh24 => ?_)
    have v := v h24 eh24
    refine r_aload_n 0 C dX2_putSide_30 rfl ?_
    refine gf_X2_18 C dX2_putSide_31 ?_
    refine r_iload_n 1 C dX2_putSide_34 rfl ?_
    refine r_iload_n 1 C dX2_putSide_35 rfl ?_
    obtain ⟨o25, v⟩ := v
    refine s_iastore (r := 8) (N := 200) C dX2_putSide_36 rfl hXM (by decide) o25 (fun h26 eh26 => ?_)
    have v := v h26 eh26
    refine r_goto (tgt := 90) C dX2_putSide_37 (by decide) ?_
    exact s_sub [0, 2] rfl (B_90 _ _ v)

def V_X2_dropEdge (P : Int → Hp → Prop) (p_X2_takeSide : Int → Hp → Prop) (q_X2_takeSide : Int → Hp → Hp → Prop) (h0 : Hp) (a1 : Int) : Prop :=
  InR (2 * a1) ∧ (p_X2_takeSide (2 * a1) h0 ∧ (∀ h3 : Hp, Fr [7, 8, 10, 11] h0 h3 → RH h3 → q_X2_takeSide (2 * a1) h0 h3 → (InR (2 * a1) ∧ (InR ((2 * a1) + 1) ∧ (p_X2_takeSide ((2 * a1) + 1) h3 ∧ (∀ h7 : Hp, Fr [7, 8, 10, 11] h3 h7 → RH h7 → q_X2_takeSide ((2 * a1) + 1) h3 h7 → ((0 ≤ a1 ∧ a1 < 100) ∧ (∀ h9 : Hp, h9 = hup h7 9 a1 0 → (InR ((h9 1 8) - 1) ∧ (∀ h11 : Hp, h11 = hup h9 1 8 ((h9 1 8) - 1) → (P 0 h11)))))))))))
set_option maxHeartbeats 4000000 in
set_option maxRecDepth 100000 in
theorem w_X2_dropEdge {l : Launch} (P : Int → Hp → Prop) (p_X2_takeSide : Int → Hp → Prop) (q_X2_takeSide : Int → Hp → Hp → Prop) (h0 : Hp) (a1 : Int)
    (c_X2_takeSide : ∀ (b1 : Int) (h : Hp), p_X2_takeSide b1 h → Ct l yX2_takeSide cX2_takeSide 3 none 1 22 0 [vr 1, vi b1] h [7, 8, 10, 11] (fun _ h1 => q_X2_takeSide b1 h h1) (fun _ => False))
    (o : RH h0 → InR a1 → V_X2_dropEdge P p_X2_takeSide q_X2_takeSide h0 a1) :
    Ct l yX2_dropEdge cX2_dropEdge 2 none 2 44 0 [vr 1, vi a1] h0 [1, 7, 8, 9, 10, 11] P (fun _ => False) := by
  refine Ct.of (own := RX2) (by decide) rfl (Nat.le_of_ble_eq_true rfl) ?_
  intro X C hXl hXM hXh hXP hXX hXc hXr hav hR0
  have hmain : V_X2_dropEdge P p_X2_takeSide q_X2_takeSide h0 a1 := o hR0 (hav (vi a1) (by simp))
  show Wh X 0 [(0, vr 1), (1, vi a1)] [] h0 0
  have v := hmain
  unfold V_X2_dropEdge at v
  refine r_aload_n 0 C dX2_dropEdge_0 rfl ?_
  refine r_iconst C dX2_dropEdge_1 ⟨by decide, by decide⟩ ?_
  refine r_iload_n 1 C dX2_dropEdge_2 rfl ?_
  obtain ⟨o1, v⟩ := v
  refine r_imul C dX2_dropEdge_3 o1 ?_
  obtain ⟨o2, v⟩ := v
  refine s_callv [(2 * a1)] [] C dX2_dropEdge_4 ck_X2_53 (r := 1) (fY := 1) (nY := 22) rfl rfl (by decide) (by decide) (Nat.le_of_ble_eq_true rfl) rfl (MY := [7, 8, 10, 11]) hXM (by decide) (by rw [hXl]; exact c_X2_takeSide (2 * a1) h0 o2) (fun h3 fh3 kh3 qh3 => ?_)
  have v := v h3 fh3 kh3 qh3
  refine r_aload_n 0 C dX2_dropEdge_7 rfl ?_
  refine r_iconst C dX2_dropEdge_8 ⟨by decide, by decide⟩ ?_
  refine r_iload_n 1 C dX2_dropEdge_9 rfl ?_
  obtain ⟨o4, v⟩ := v
  refine r_imul C dX2_dropEdge_10 o4 ?_
  refine r_iconst C dX2_dropEdge_11 ⟨by decide, by decide⟩ ?_
  obtain ⟨o5, v⟩ := v
  refine r_iadd C dX2_dropEdge_12 o5 ?_
  obtain ⟨o6, v⟩ := v
  refine s_callv [((2 * a1) + 1)] [] C dX2_dropEdge_13 ck_X2_53 (r := 1) (fY := 1) (nY := 22) rfl rfl (by decide) (by decide) (Nat.le_of_ble_eq_true rfl) rfl (MY := [7, 8, 10, 11]) hXM (by decide) (by rw [hXl]; exact c_X2_takeSide ((2 * a1) + 1) h3 o6) (fun h7 fh7 kh7 qh7 => ?_)
  have v := v h7 fh7 kh7 qh7
  refine r_aload_n 0 C dX2_dropEdge_16 rfl ?_
  refine gf_X2_21 C dX2_dropEdge_17 ?_
  refine r_iload_n 1 C dX2_dropEdge_20 rfl ?_
  refine r_iconst C dX2_dropEdge_21 ⟨by decide, by decide⟩ ?_
  obtain ⟨o8, v⟩ := v
  refine s_bastore (r := 9) (N := 100) C dX2_dropEdge_22 rfl hXM (by decide) o8 (by decide) (fun h9 eh9 => ?_)
  have v := v h9 eh9
  refine r_aload_n 0 C dX2_dropEdge_23 rfl ?_
  refine r_dup C dX2_dropEdge_24 trivial ?_
  refine gf_X2_38 C dX2_dropEdge_25 ?_
  refine r_iconst C dX2_dropEdge_28 ⟨by decide, by decide⟩ ?_
  obtain ⟨o10, v⟩ := v
  refine r_isub C dX2_dropEdge_29 o10 ?_
  refine pf_X2_38 C dX2_dropEdge_30 hXM (by decide) (fun h11 eh11 => ?_)
  have v := v h11 eh11
  exact r_return C dX2_dropEdge_33 hXr (Nat.zero_le _) (by rw [hXP]; exact v)

def V_X2_takeSide_56 (P : Int → Hp → Prop) (p_X2_link : Int → Int → Hp → Prop) (q_X2_link : Int → Int → Hp → Hp → Prop) (h : Hp) (x1 : Int) : Prop :=
  (0 ≤ x1 ∧ x1 < 200) ∧ ((0 ≤ x1 ∧ x1 < 200) ∧ (p_X2_link (h 8 x1) (h 7 x1) h ∧ (∀ h4 : Hp, Fr [7, 8] h h4 → RH h4 → q_X2_link (h 8 x1) (h 7 x1) h h4 → (P 0 h4))))
def V_X2_takeSide (P : Int → Hp → Prop) (p_X2_link : Int → Int → Hp → Prop) (q_X2_link : Int → Int → Hp → Hp → Prop) (h0 : Hp) (a1 : Int) : Prop :=
  (0 ≤ a1 ∧ a1 < 200) ∧ (∀ z6 : Int, z6 = (h0 6 a1) → ((0 ≤ z6 ∧ z6 < 30) ∧ (InR ((h0 11 z6) - 1) ∧ ((0 ≤ z6 ∧ z6 < 30) ∧ (∀ h10 : Hp, h10 = hup h0 11 z6 ((h0 11 z6) - 1) → ((0 ≤ z6 ∧ z6 < 30) ∧ ((¬ (h10 11 z6) = 0 → (0 ≤ z6 ∧ z6 < 30) ∧ ((¬ (h10 10 z6) = a1 → V_X2_takeSide_56 P p_X2_link q_X2_link h10 a1) ∧ ((h10 10 z6) = a1 → (0 ≤ a1 ∧ a1 < 200) ∧ ((0 ≤ z6 ∧ z6 < 30) ∧ (∀ h17 : Hp, h17 = hup h10 10 z6 (h10 7 a1) → (V_X2_takeSide_56 P p_X2_link q_X2_link h17 a1)))))) ∧ ((h10 11 z6) = 0 → (0 ≤ z6 ∧ z6 < 30) ∧ (∀ h19 : Hp, h19 = hup h10 10 z6 (-1) → (P 0 h19))))))))))
set_option maxHeartbeats 4000000 in
set_option maxRecDepth 100000 in
theorem w_X2_takeSide {l : Launch} (P : Int → Hp → Prop) (p_X2_link : Int → Int → Hp → Prop) (q_X2_link : Int → Int → Hp → Hp → Prop) (h0 : Hp) (a1 : Int)
    (c_X2_link : ∀ (b1 : Int) (b2 : Int) (h : Hp), p_X2_link b1 b2 h → Ct l yX2_link cX2_link 3 none 0 0 0 [vr 1, vi b1, vi b2] h [7, 8] (fun _ h1 => q_X2_link b1 b2 h h1) (fun _ => False))
    (o : RH h0 → InR a1 → V_X2_takeSide P p_X2_link q_X2_link h0 a1) :
    Ct l yX2_takeSide cX2_takeSide 3 none 1 22 0 [vr 1, vi a1] h0 [7, 8, 10, 11] P (fun _ => False) := by
  refine Ct.of (own := RX2) (by decide) rfl (Nat.le_of_ble_eq_true rfl) ?_
  intro X C hXl hXM hXh hXP hXX hXc hXr hav hR0
  have hmain : V_X2_takeSide P p_X2_link q_X2_link h0 a1 := o hR0 (hav (vi a1) (by simp))
  have B_56 : ∀ (h : Hp) (x1 : Int), V_X2_takeSide_56 P p_X2_link q_X2_link h x1 → Wh X 56 [(0, vr 1), (1, vi x1)] [] h 0 := by
    intro h x1 v
    unfold V_X2_takeSide_56 at v
    refine r_aload_n 0 C dX2_takeSide_56 rfl ?_
    refine r_aload_n 0 C dX2_takeSide_57 rfl ?_
    refine gf_X2_18 C dX2_takeSide_58 ?_
    refine r_iload_n 1 C dX2_takeSide_61 rfl ?_
    obtain ⟨o1, v⟩ := v
    refine r_iaload (r := 8) (N := 200) C dX2_takeSide_62 rfl o1 ?_
    refine r_aload_n 0 C dX2_takeSide_63 rfl ?_
    refine gf_X2_15 C dX2_takeSide_64 ?_
    refine r_iload_n 1 C dX2_takeSide_67 rfl ?_
    obtain ⟨o2, v⟩ := v
    refine r_iaload (r := 7) (N := 200) C dX2_takeSide_68 rfl o2 ?_
    obtain ⟨o3, v⟩ := v
    refine s_callv [(h 8 x1), (h 7 x1)] [] C dX2_takeSide_69 ck_X2_49 (r := 1) (fY := 0) (nY := 0) rfl rfl (by decide) (by decide) (Nat.le_of_ble_eq_true rfl) rfl (MY := [7, 8]) hXM (by decide) (by rw [hXl]; exact c_X2_link (h 8 x1) (h 7 x1) h o3) (fun h4 fh4 kh4 qh4 => ?_)
    have v := v h4 fh4 kh4 qh4
    exact r_return C dX2_takeSide_72 hXr (Nat.zero_le _) (by rw [hXP]; exact v)
  show Wh X 0 [(0, vr 1), (1, vi a1)] [] h0 0
  have v := hmain
  unfold V_X2_takeSide at v
  refine r_aload_n 0 C dX2_takeSide_0 rfl ?_
  refine gf_X2_9 C dX2_takeSide_1 ?_
  refine r_iload_n 1 C dX2_takeSide_4 rfl ?_
  obtain ⟨o5, v⟩ := v
  refine r_iaload (r := 6) (N := 200) C dX2_takeSide_5 rfl o5 ?_
  refine s_istore_n C dX2_takeSide_6 (by decide) (fun z6 ez6 => ?_)
  have v := v z6 ez6
  show Wh X 7 [(2, vi z6), (0, vr 1), (1, vi a1)] [] h0 0
  refine r_aload_n 1 C dX2_takeSide_7 rfl ?_
  refine gf_X2_28 C dX2_takeSide_8 ?_
  refine r_iload_n 0 C dX2_takeSide_11 rfl ?_
  refine r_dup2 C dX2_takeSide_12 trivial trivial ?_
  obtain ⟨o7, v⟩ := v
  refine r_iaload (r := 11) (N := 30) C dX2_takeSide_13 rfl o7 ?_
  refine r_iconst C dX2_takeSide_14 ⟨by decide, by decide⟩ ?_
  obtain ⟨o8, v⟩ := v
  refine r_isub C dX2_takeSide_15 o8 ?_
  obtain ⟨o9, v⟩ := v
  refine s_iastore (r := 11) (N := 30) C dX2_takeSide_16 rfl hXM (by decide) o9 (fun h10 eh10 => ?_)
  have v := v h10 eh10
  refine r_aload_n 1 C dX2_takeSide_17 rfl ?_
  refine gf_X2_28 C dX2_takeSide_18 ?_
  refine r_iload_n 0 C dX2_takeSide_21 rfl ?_
  obtain ⟨o11, v⟩ := v
  refine r_iaload (r := 11) (N := 30) C dX2_takeSide_22 rfl o11 ?_
  refine r_if_ne (tgt := 34) C dX2_takeSide_23 (by decide) (fun c12 => ?_) (fun c12 => ?_)
  · have v := v.1 c12
    refine r_aload_n 1 C dX2_takeSide_34 rfl ?_
    refine gf_X2_25 C dX2_takeSide_35 ?_
    refine r_iload_n 0 C dX2_takeSide_38 rfl ?_
    obtain ⟨o13, v⟩ := v
    refine r_iaload (r := 10) (N := 30) C dX2_takeSide_39 rfl o13 ?_
    refine r_iload_n 2 C dX2_takeSide_40 rfl ?_
    refine r_icmp_ne (tgt := 56) C dX2_takeSide_41 (by decide) (fun c14 => ?_) (fun c14 => ?_)
    · have v := v.1 c14
      exact s_sub [1, 2] rfl (B_56 _ _ v)
    · have v := v.2 c14
      refine r_aload_n 1 C dX2_takeSide_44 rfl ?_
      refine gf_X2_25 C dX2_takeSide_45 ?_
      refine r_iload_n 0 C dX2_takeSide_48 rfl ?_
      refine r_aload_n 1 C dX2_takeSide_49 rfl ?_
      refine gf_X2_15 C dX2_takeSide_50 ?_
      refine r_iload_n 2 C dX2_takeSide_53 rfl ?_
      obtain ⟨o15, v⟩ := v
      refine r_iaload (r := 7) (N := 200) C dX2_takeSide_54 rfl o15 ?_
      obtain ⟨o16, v⟩ := v
      refine s_iastore (r := 10) (N := 30) C dX2_takeSide_55 rfl hXM (by decide) o16 (fun h17 eh17 => ?_)
      have v := v h17 eh17
      exact s_sub [1, 2] rfl (B_56 _ _ v)
  · have v := v.2 c12
    refine r_aload_n 1 C dX2_takeSide_26 rfl ?_
    refine gf_X2_25 C dX2_takeSide_27 ?_
    refine r_iload_n 0 C dX2_takeSide_30 rfl ?_
    refine r_iconst C dX2_takeSide_31 ⟨by decide, by decide⟩ ?_
    obtain ⟨o18, v⟩ := v
    refine s_iastore (r := 10) (N := 30) C dX2_takeSide_32 rfl hXM (by decide) o18 (fun h19 eh19 => ?_)
    have v := v h19 eh19
    exact r_return C dX2_takeSide_33 hXr (Nat.zero_le _) (by rw [hXP]; exact v)

def V_X2_link (P : Int → Hp → Prop) (h0 : Hp) (a1 : Int) (a2 : Int) : Prop :=
  (0 ≤ a1 ∧ a1 < 200) ∧ (∀ h2 : Hp, h2 = hup h0 7 a1 a2 → ((0 ≤ a2 ∧ a2 < 200) ∧ (∀ h4 : Hp, h4 = hup h2 8 a2 a1 → (P 0 h4))))
set_option maxHeartbeats 4000000 in
set_option maxRecDepth 100000 in
theorem w_X2_link {l : Launch} (P : Int → Hp → Prop) (h0 : Hp) (a1 : Int) (a2 : Int)
    (o : RH h0 → InR a1 → InR a2 → V_X2_link P h0 a1 a2) :
    Ct l yX2_link cX2_link 3 none 0 0 0 [vr 1, vi a1, vi a2] h0 [7, 8] P (fun _ => False) := by
  refine Ct.of (own := RX2) (by decide) rfl (Nat.le_of_ble_eq_true rfl) ?_
  intro X C hXl hXM hXh hXP hXX hXc hXr hav hR0
  have hmain : V_X2_link P h0 a1 a2 := o hR0 (hav (vi a1) (by simp)) (hav (vi a2) (by simp))
  show Wh X 0 [(0, vr 1), (1, vi a1), (2, vi a2)] [] h0 0
  have v := hmain
  unfold V_X2_link at v
  refine r_aload_n 0 C dX2_link_0 rfl ?_
  refine gf_X2_15 C dX2_link_1 ?_
  refine r_iload_n 1 C dX2_link_4 rfl ?_
  refine r_iload_n 2 C dX2_link_5 rfl ?_
  obtain ⟨o1, v⟩ := v
  refine s_iastore (r := 7) (N := 200) C dX2_link_6 rfl hXM (by decide) o1 (fun h2 eh2 => ?_)
  have v := v h2 eh2
  refine r_aload_n 0 C dX2_link_7 rfl ?_
  refine gf_X2_18 C dX2_link_8 ?_
  refine r_iload_n 2 C dX2_link_11 rfl ?_
  refine r_iload_n 1 C dX2_link_12 rfl ?_
  obtain ⟨o3, v⟩ := v
  refine s_iastore (r := 8) (N := 200) C dX2_link_13 rfl hXM (by decide) o3 (fun h4 eh4 => ?_)
  have v := v h4 eh4
  exact r_return C dX2_link_14 hXr (Nat.zero_le _) (by rw [hXP]; exact v)

def V_X2_dropAll (P : Int → Hp → Prop) (h0 : Hp) : Prop :=
  ∀ h1 : Hp, h1 = hup h0 1 6 0 → (∀ h2 : Hp, h2 = hup h1 1 7 0 → (∀ h3 : Hp, h3 = hup h2 1 8 0 → (P 0 h3)))
set_option maxHeartbeats 4000000 in
set_option maxRecDepth 100000 in
theorem w_X2_dropAll {l : Launch} (P : Int → Hp → Prop) (h0 : Hp)
    (o : RH h0 → V_X2_dropAll P h0) :
    Ct l yX2_dropAll cX2_dropAll 1 none 0 0 0 [vr 1] h0 [1] P (fun _ => False) := by
  refine Ct.of (own := RX2) (by decide) rfl (Nat.le_of_ble_eq_true rfl) ?_
  intro X C hXl hXM hXh hXP hXX hXc hXr hav hR0
  have hmain : V_X2_dropAll P h0 := o hR0 
  show Wh X 0 [(0, vr 1)] [] h0 0
  have v := hmain
  unfold V_X2_dropAll at v
  refine r_aload_n 0 C dX2_dropAll_0 rfl ?_
  refine r_iconst C dX2_dropAll_1 ⟨by decide, by decide⟩ ?_
  refine pf_X2_31 C dX2_dropAll_2 hXM (by decide) (fun h1 eh1 => ?_)
  have v := v h1 eh1
  refine r_aload_n 0 C dX2_dropAll_5 rfl ?_
  refine r_iconst C dX2_dropAll_6 ⟨by decide, by decide⟩ ?_
  refine pf_X2_35 C dX2_dropAll_7 hXM (by decide) (fun h2 eh2 => ?_)
  have v := v h2 eh2
  refine r_aload_n 0 C dX2_dropAll_10 rfl ?_
  refine r_iconst C dX2_dropAll_11 ⟨by decide, by decide⟩ ?_
  refine pf_X2_38 C dX2_dropAll_12 hXM (by decide) (fun h3 eh3 => ?_)
  have v := v h3 eh3
  exact r_return C dX2_dropAll_15 hXr (Nat.zero_le _) (by rw [hXP]; exact v)

def V_X2_target (P : Int → Hp → Prop) (h0 : Hp) (a1 : Int) : Prop :=
  (0 ≤ (jxor a1 1) ∧ (jxor a1 1) < 200) ∧ (P (h0 6 (jxor a1 1)) h0)
set_option maxHeartbeats 4000000 in
set_option maxRecDepth 100000 in
theorem w_X2_target {l : Launch} (P : Int → Hp → Prop) (h0 : Hp) (a1 : Int)
    (o : RH h0 → InR a1 → V_X2_target P h0 a1) :
    Ct l yX2_target cX2_target 2 (some .int) 0 0 0 [vr 1, vi a1] h0 [] P (fun _ => False) := by
  refine Ct.of (own := RX2) (by decide) rfl (Nat.le_of_ble_eq_true rfl) ?_
  intro X C hXl hXM hXh hXP hXX hXc hXr hav hR0
  have hmain : V_X2_target P h0 a1 := o hR0 (hav (vi a1) (by simp))
  show Wh X 0 [(0, vr 1), (1, vi a1)] [] h0 0
  have v := hmain
  unfold V_X2_target at v
  refine r_aload_n 0 C dX2_target_0 rfl ?_
  refine gf_X2_9 C dX2_target_1 ?_
  refine r_iload_n 1 C dX2_target_4 rfl ?_
  refine r_iconst C dX2_target_5 ⟨by decide, by decide⟩ ?_
  refine r_ixor C dX2_target_6 ?_
  obtain ⟨o1, v⟩ := v
  refine r_iaload (r := 6) (N := 200) C dX2_target_7 rfl o1 ?_
  exact r_ireturn C dX2_target_8 hXr (Nat.zero_le _) (by rw [hXP]; exact v)

def V_X2_sideBehind (P : Int → Hp → Prop) (h0 : Hp) (a1 : Int) : Prop :=
  (0 ≤ (jxor a1 1) ∧ (jxor a1 1) < 200) ∧ (P (h0 7 (jxor a1 1)) h0)
set_option maxHeartbeats 4000000 in
set_option maxRecDepth 100000 in
theorem w_X2_sideBehind {l : Launch} (P : Int → Hp → Prop) (h0 : Hp) (a1 : Int)
    (o : RH h0 → InR a1 → V_X2_sideBehind P h0 a1) :
    Ct l yX2_sideBehind cX2_sideBehind 2 (some .int) 0 0 0 [vr 1, vi a1] h0 [] P (fun _ => False) := by
  refine Ct.of (own := RX2) (by decide) rfl (Nat.le_of_ble_eq_true rfl) ?_
  intro X C hXl hXM hXh hXP hXX hXc hXr hav hR0
  have hmain : V_X2_sideBehind P h0 a1 := o hR0 (hav (vi a1) (by simp))
  show Wh X 0 [(0, vr 1), (1, vi a1)] [] h0 0
  have v := hmain
  unfold V_X2_sideBehind at v
  refine r_aload_n 0 C dX2_sideBehind_0 rfl ?_
  refine gf_X2_15 C dX2_sideBehind_1 ?_
  refine r_iload_n 1 C dX2_sideBehind_4 rfl ?_
  refine r_iconst C dX2_sideBehind_5 ⟨by decide, by decide⟩ ?_
  refine r_ixor C dX2_sideBehind_6 ?_
  obtain ⟨o1, v⟩ := v
  refine r_iaload (r := 7) (N := 200) C dX2_sideBehind_7 rfl o1 ?_
  exact r_ireturn C dX2_sideBehind_8 hXr (Nat.zero_le _) (by rw [hXP]; exact v)

def V_X2_sideFrom_23 (P : Int → Hp → Prop) (h : Hp) (y0 : Int) : Prop :=
  P y0 h
def V_X2_sideFrom (P : Int → Hp → Prop) (h0 : Hp) (a1 : Int) (a2 : Int) : Prop :=
  InR (2 * a2) ∧ ((0 ≤ (2 * a2) ∧ (2 * a2) < 200) ∧ ((¬ (h0 6 (2 * a2)) = a1 → InR (2 * a2) ∧ (InR ((2 * a2) + 1) ∧ (V_X2_sideFrom_23 P h0 ((2 * a2) + 1)))) ∧ ((h0 6 (2 * a2)) = a1 → InR (2 * a2) ∧ (V_X2_sideFrom_23 P h0 (2 * a2)))))
set_option maxHeartbeats 4000000 in
set_option maxRecDepth 100000 in
theorem w_X2_sideFrom {l : Launch} (P : Int → Hp → Prop) (h0 : Hp) (a1 : Int) (a2 : Int)
    (o : RH h0 → InR a1 → InR a2 → V_X2_sideFrom P h0 a1 a2) :
    Ct l yX2_sideFrom cX2_sideFrom 3 (some .int) 0 0 0 [vr 1, vi a1, vi a2] h0 [] P (fun _ => False) := by
  refine Ct.of (own := RX2) (by decide) rfl (Nat.le_of_ble_eq_true rfl) ?_
  intro X C hXl hXM hXh hXP hXX hXc hXr hav hR0
  have hmain : V_X2_sideFrom P h0 a1 a2 := o hR0 (hav (vi a1) (by simp)) (hav (vi a2) (by simp))
  have B_23 : ∀ (h : Hp) (y0 : Int), V_X2_sideFrom_23 P h y0 → Wh X 23 [(0, vr 1)] [vi y0] h 0 := by
    intro h y0 v
    unfold V_X2_sideFrom_23 at v
    exact r_ireturn C dX2_sideFrom_23 hXr (Nat.zero_le _) (by rw [hXP]; exact v)
  show Wh X 0 [(0, vr 1), (1, vi a1), (2, vi a2)] [] h0 0
  have v := hmain
  unfold V_X2_sideFrom at v
  refine r_aload_n 0 C dX2_sideFrom_0 rfl ?_
  refine gf_X2_9 C dX2_sideFrom_1 ?_
  refine r_iconst C dX2_sideFrom_4 ⟨by decide, by decide⟩ ?_
  refine r_iload_n 2 C dX2_sideFrom_5 rfl ?_
  obtain ⟨o1, v⟩ := v
  refine r_imul C dX2_sideFrom_6 o1 ?_
  obtain ⟨o2, v⟩ := v
  refine r_iaload (r := 6) (N := 200) C dX2_sideFrom_7 rfl o2 ?_
  refine r_iload_n 1 C dX2_sideFrom_8 rfl ?_
  refine r_icmp_ne (tgt := 18) C dX2_sideFrom_9 (by decide) (fun c3 => ?_) (fun c3 => ?_)
  · have v := v.1 c3
    refine r_iconst C dX2_sideFrom_18 ⟨by decide, by decide⟩ ?_
    refine r_iload_n 2 C dX2_sideFrom_19 rfl ?_
    obtain ⟨o4, v⟩ := v
    refine r_imul C dX2_sideFrom_20 o4 ?_
    refine r_iconst C dX2_sideFrom_21 ⟨by decide, by decide⟩ ?_
    obtain ⟨o5, v⟩ := v
    refine r_iadd C dX2_sideFrom_22 o5 ?_
    exact s_sub [0] rfl (B_23 _ _ v)
  · have v := v.2 c3
    refine r_iconst C dX2_sideFrom_12 ⟨by decide, by decide⟩ ?_
    refine r_iload_n 2 C dX2_sideFrom_13 rfl ?_
    obtain ⟨o6, v⟩ := v
    refine r_imul C dX2_sideFrom_14 o6 ?_
    refine r_goto (tgt := 23) C dX2_sideFrom_15 (by decide) ?_
    exact s_sub [0] rfl (B_23 _ _ v)

def V_X2_mayFollow_36 (P : Int → Hp → Prop) (h : Hp) (y0 : Int) : Prop :=
  (y0 = 0 ∨ y0 = 1) ∧ P y0 h
def V_X2_mayFollow_31 (P : Int → Hp → Prop) (h : Hp) : Prop :=
  V_X2_mayFollow_36 P h 1
def V_X2_mayFollow (P : Int → Hp → Prop) (h0 : Hp) (a1 : Int) (a2 : Int) : Prop :=
  (a2 = (-1) → V_X2_mayFollow_31 P h0) ∧ (¬ a2 = (-1) → InR (2 * a2) ∧ ((0 ≤ (2 * a2) ∧ (2 * a2) < 200) ∧ (((h0 6 (2 * a2)) = a1 → V_X2_mayFollow_31 P h0) ∧ (¬ (h0 6 (2 * a2)) = a1 → InR (2 * a2) ∧ (InR ((2 * a2) + 1) ∧ ((0 ≤ ((2 * a2) + 1) ∧ ((2 * a2) + 1) < 200) ∧ ((¬ (h0 6 ((2 * a2) + 1)) = a1 → V_X2_mayFollow_36 P h0 0) ∧ ((h0 6 ((2 * a2) + 1)) = a1 → V_X2_mayFollow_31 P h0))))))))
set_option maxHeartbeats 4000000 in
set_option maxRecDepth 100000 in
theorem w_X2_mayFollow {l : Launch} (P : Int → Hp → Prop) (h0 : Hp) (a1 : Int) (a2 : Int)
    (o : RH h0 → InR a1 → InR a2 → V_X2_mayFollow P h0 a1 a2) :
    Ct l yX2_mayFollow cX2_mayFollow 3 (some .boolean) 0 0 0 [vr 1, vi a1, vi a2] h0 [] P (fun _ => False) := by
  refine Ct.of (own := RX2) (by decide) rfl (Nat.le_of_ble_eq_true rfl) ?_
  intro X C hXl hXM hXh hXP hXX hXc hXr hav hR0
  have hmain : V_X2_mayFollow P h0 a1 a2 := o hR0 (hav (vi a1) (by simp)) (hav (vi a2) (by simp))
  have B_36 : ∀ (h : Hp) (y0 : Int), V_X2_mayFollow_36 P h y0 → Wh X 36 [(0, vr 1)] [vi y0] h 0 := by
    intro h y0 v
    unfold V_X2_mayFollow_36 at v
    exact r_zreturn C dX2_mayFollow_36 hXr (Nat.zero_le _) v.1 (by rw [hXP]; exact v.2)
  have B_31 : ∀ (h : Hp), V_X2_mayFollow_31 P h → Wh X 31 [(0, vr 1)] [] h 0 := by
    intro h v
    unfold V_X2_mayFollow_31 at v
    refine r_iconst C dX2_mayFollow_31 ⟨by decide, by decide⟩ ?_
    refine r_goto (tgt := 36) C dX2_mayFollow_32 (by decide) ?_
    exact s_sub [0] rfl (B_36 _ _ v)
  show Wh X 0 [(0, vr 1), (1, vi a1), (2, vi a2)] [] h0 0
  have v := hmain
  unfold V_X2_mayFollow at v
  refine r_iload_n 2 C dX2_mayFollow_0 rfl ?_
  refine r_iconst C dX2_mayFollow_1 ⟨by decide, by decide⟩ ?_
  refine r_icmp_eq (tgt := 31) C dX2_mayFollow_2 (by decide) (fun c1 => ?_) (fun c1 => ?_)
  · have v := v.1 c1
    exact s_sub [0] rfl (B_31 _ v)
  · have v := v.2 c1
    refine r_aload_n 0 C dX2_mayFollow_5 rfl ?_
    refine gf_X2_9 C dX2_mayFollow_6 ?_
    refine r_iconst C dX2_mayFollow_9 ⟨by decide, by decide⟩ ?_
    refine r_iload_n 2 C dX2_mayFollow_10 rfl ?_
    obtain ⟨o2, v⟩ := v
    refine r_imul C dX2_mayFollow_11 o2 ?_
    obtain ⟨o3, v⟩ := v
    refine r_iaload (r := 6) (N := 200) C dX2_mayFollow_12 rfl o3 ?_
    refine r_iload_n 1 C dX2_mayFollow_13 rfl ?_
    refine r_icmp_eq (tgt := 31) C dX2_mayFollow_14 (by decide) (fun c4 => ?_) (fun c4 => ?_)
    · have v := v.1 c4
      exact s_sub [0] rfl (B_31 _ v)
    · have v := v.2 c4
      refine r_aload_n 0 C dX2_mayFollow_17 rfl ?_
      refine gf_X2_9 C dX2_mayFollow_18 ?_
      refine r_iconst C dX2_mayFollow_21 ⟨by decide, by decide⟩ ?_
      refine r_iload_n 2 C dX2_mayFollow_22 rfl ?_
      obtain ⟨o5, v⟩ := v
      refine r_imul C dX2_mayFollow_23 o5 ?_
      refine r_iconst C dX2_mayFollow_24 ⟨by decide, by decide⟩ ?_
      obtain ⟨o6, v⟩ := v
      refine r_iadd C dX2_mayFollow_25 o6 ?_
      obtain ⟨o7, v⟩ := v
      refine r_iaload (r := 6) (N := 200) C dX2_mayFollow_26 rfl o7 ?_
      refine r_iload_n 1 C dX2_mayFollow_27 rfl ?_
      refine r_icmp_ne (tgt := 35) C dX2_mayFollow_28 (by decide) (fun c8 => ?_) (fun c8 => ?_)
      · have v := v.1 c8
        refine r_iconst C dX2_mayFollow_35 ⟨by decide, by decide⟩ ?_
        exact s_sub [0] rfl (B_36 _ _ v)
      · have v := v.2 c8
        exact s_sub [0] rfl (B_31 _ v)

def V_X2_areJoined_10 (P : Int → Hp → Prop) (p_X2_target : Int → Hp → Prop) (q_X2_target : Int → Hp → Int → Prop) (I_10 : Nat → Hp → Int → Int → Int → Int → Prop) (n_10 : Nat) (h : Hp) (x1 : Int) (x2 : Int) (x3 : Int) (x4 : Int) : Prop :=
  (0 ≤ x1 ∧ x1 < 30) ∧ (((h 11 x1) ≤ x4 → P 0 h) ∧ (¬ (h 11 x1) ≤ x4 → p_X2_target x3 h ∧ (∀ r4 : Int, InR r4 → q_X2_target x3 h r4 → ((¬ r4 = x2 → (0 ≤ x3 ∧ x3 < 200) ∧ (∀ z7 : Int, z7 = (h 7 x3) → (InR (x4 + 1) ∧ (∀ z8 : Int, z8 = x4 + 1 → (∃ n', n' < n_10 ∧ I_10 n' h x1 x2 z7 z8))))) ∧ (r4 = x2 → P 1 h)))))
def V_X2_areJoined (P : Int → Hp → Prop) (p_X2_target : Int → Hp → Prop) (q_X2_target : Int → Hp → Int → Prop) (I_10 : Nat → Hp → Int → Int → Int → Int → Prop) (h0 : Hp) (a1 : Int) (a2 : Int) : Prop :=
  (0 ≤ a1 ∧ a1 < 30) ∧ (∀ z11 : Int, z11 = (h0 10 a1) → (∀ z12 : Int, z12 = 0 → (∃ n', I_10 n' h0 a1 a2 z11 z12)))
set_option maxHeartbeats 4000000 in
set_option maxRecDepth 100000 in
theorem w_X2_areJoined {l : Launch} (P : Int → Hp → Prop) (p_X2_target : Int → Hp → Prop) (q_X2_target : Int → Hp → Int → Prop) (I_10 : Nat → Hp → Int → Int → Int → Int → Prop) (h0 : Hp) (a1 : Int) (a2 : Int)
    (c_X2_target : ∀ (b1 : Int) (h : Hp), p_X2_target b1 h → Ct l yX2_target cX2_target 2 (some .int) 0 0 0 [vr 1, vi b1] h [] (fun r _ => q_X2_target b1 h r) (fun _ => False))
    (o_10 : ∀ (n_10 : Nat) (h : Hp) (x1 : Int) (x2 : Int) (x3 : Int) (x4 : Int), RH h → Fr [] h0 h → InR x1 → InR x2 → InR x3 → InR x4 → I_10 n_10 h x1 x2 x3 x4 → V_X2_areJoined_10 P p_X2_target q_X2_target I_10 n_10 h x1 x2 x3 x4)
    (o : RH h0 → InR a1 → InR a2 → V_X2_areJoined P p_X2_target q_X2_target I_10 h0 a1 a2) :
    Ct l yX2_areJoined cX2_areJoined 5 (some .boolean) 1 21 0 [vr 1, vi a1, vi a2] h0 [] P (fun _ => False) := by
  refine Ct.of (own := RX2) (by decide) rfl (Nat.le_of_ble_eq_true rfl) ?_
  intro X C hXl hXM hXh hXP hXX hXc hXr hav hR0
  have hmain : V_X2_areJoined P p_X2_target q_X2_target I_10 h0 a1 a2 := o hR0 (hav (vi a1) (by simp)) (hav (vi a2) (by simp))
  have B_10 : ∀ (n_10 : Nat) (h : Hp) (x1 : Int) (x2 : Int) (x3 : Int) (x4 : Int), I_10 n_10 h x1 x2 x3 x4 → Wh X 10 [(0, vr 1), (1, vi x1), (2, vi x2), (3, vi x3), (4, vi x4)] [] h 0 := by
    intro n_10
    induction n_10 using Nat.strongRecOn with
    | _ n_10 ih_10 =>
      intro h x1 x2 x3 x4 hI
      refine s_use fun hR hF hL => ?_
      have v := o_10 n_10 h x1 x2 x3 x4 hR (by rw [hXM, hXh] at hF; exact hF) (hL (1, vi x1) (by simp)) (hL (2, vi x2) (by simp)) (hL (3, vi x3) (by simp)) (hL (4, vi x4) (by simp)) hI
      unfold V_X2_areJoined_10 at v
      refine r_iload 4 C dX2_areJoined_10 rfl ?_
      refine r_aload_n 0 C dX2_areJoined_12 rfl ?_
      refine gf_X2_28 C dX2_areJoined_13 ?_
      refine r_iload_n 1 C dX2_areJoined_16 rfl ?_
      obtain ⟨o1, v⟩ := v
      refine r_iaload (r := 11) (N := 30) C dX2_areJoined_17 rfl o1 ?_
      refine r_icmp_ge (tgt := 45) C dX2_areJoined_18 (by decide) (fun c2 => ?_) (fun c2 => ?_)
      · have v := v.1 c2
        refine r_iconst C dX2_areJoined_45 ⟨by decide, by decide⟩ ?_
        exact r_zreturn C dX2_areJoined_46 hXr (Nat.zero_le _) (by decide) (by rw [hXP]; exact v)
      · have v := v.2 c2
        refine r_aload_n 0 C dX2_areJoined_21 rfl ?_
        refine r_iload_n 3 C dX2_areJoined_22 rfl ?_
        obtain ⟨o3, v⟩ := v
        refine s_calli0 [x3] [] C dX2_areJoined_23 ck_X2_57 (r := 1) (fY := 0) (nY := 0) rfl rfl (by decide) (by decide) (Nat.le_of_ble_eq_true rfl) rfl (by rw [hXl]; exact c_X2_target x3 h o3) (fun r4 gr4 qr4 => ?_)
        have v := v r4 gr4 qr4
        refine r_iload_n 2 C dX2_areJoined_26 rfl ?_
        refine r_icmp_ne (tgt := 32) C dX2_areJoined_27 (by decide) (fun c5 => ?_) (fun c5 => ?_)
        · have v := v.1 c5
          refine r_aload_n 0 C dX2_areJoined_32 rfl ?_
          refine gf_X2_15 C dX2_areJoined_33 ?_
          refine r_iload_n 3 C dX2_areJoined_36 rfl ?_
          obtain ⟨o6, v⟩ := v
          refine r_iaload (r := 7) (N := 200) C dX2_areJoined_37 rfl o6 ?_
          refine s_istore_n C dX2_areJoined_38 (by decide) (fun z7 ez7 => ?_)
          have v := v z7 ez7
          show Wh X 39 [(3, vi z7), (0, vr 1), (1, vi x1), (2, vi x2), (4, vi x4)] [] h 0
          obtain ⟨o9, v⟩ := v
          refine s_iinc 4 C dX2_areJoined_39 rfl (by decide) o9 (fun z8 ez8 => ?_)
          have v := v z8 ez8
          show Wh X 42 [(4, vi z8), (3, vi z7), (0, vr 1), (1, vi x1), (2, vi x2)] [] h 0
          refine r_goto (tgt := 10) C dX2_areJoined_42 (by decide) ?_
          obtain ⟨n', hn', hI'⟩ := v
          exact s_sub [2, 3, 4, 1, 0] rfl (ih_10 n' hn' _ _ _ _ _ hI')
        · have v := v.2 c5
          refine r_iconst C dX2_areJoined_30 ⟨by decide, by decide⟩ ?_
          exact r_zreturn C dX2_areJoined_31 hXr (Nat.zero_le _) (by decide) (by rw [hXP]; exact v)
  show Wh X 0 [(0, vr 1), (1, vi a1), (2, vi a2)] [] h0 0
  have v := hmain
  unfold V_X2_areJoined at v
  refine r_aload_n 0 C dX2_areJoined_0 rfl ?_
  refine gf_X2_25 C dX2_areJoined_1 ?_
  refine r_iload_n 1 C dX2_areJoined_4 rfl ?_
  obtain ⟨o10, v⟩ := v
  refine r_iaload (r := 10) (N := 30) C dX2_areJoined_5 rfl o10 ?_
  refine s_istore_n C dX2_areJoined_6 (by decide) (fun z11 ez11 => ?_)
  have v := v z11 ez11
  show Wh X 7 [(3, vi z11), (0, vr 1), (1, vi a1), (2, vi a2)] [] h0 0
  refine r_iconst C dX2_areJoined_7 ⟨by decide, by decide⟩ ?_
  refine s_istore C dX2_areJoined_8 (by decide) (fun z12 ez12 => ?_)
  have v := v z12 ez12
  show Wh X 10 [(4, vi z12), (3, vi z11), (0, vr 1), (1, vi a1), (2, vi a2)] [] h0 0
  obtain ⟨n', hI'⟩ := v
  exact s_sub [2, 3, 4, 1, 0] rfl (B_10 n' _ _ _ _ _ hI')

def V_X2_lonelyVertices_24 (P : Int → Hp → Prop) (I_4 : Nat → Hp → Int → Int → Prop) (n_4 : Nat) (h : Hp) (x1 : Int) (x2 : Int) : Prop :=
  InR (x2 + 1) ∧ (∀ z1 : Int, z1 = x2 + 1 → (∃ n', n' < n_4 ∧ I_4 n' h x1 z1))
def V_X2_lonelyVertices_4 (P : Int → Hp → Prop) (I_4 : Nat → Hp → Int → Int → Prop) (n_4 : Nat) (h : Hp) (x1 : Int) (x2 : Int) : Prop :=
  ((h 1 6) ≤ x2 → P x1 h) ∧ (¬ (h 1 6) ≤ x2 → (0 ≤ x2 ∧ x2 < 30) ∧ ((¬ (h 11 x2) = 0 → V_X2_lonelyVertices_24 P I_4 n_4 h x1 x2) ∧ ((h 11 x2) = 0 → InR (x1 + 1) ∧ (∀ z6 : Int, z6 = x1 + 1 → (V_X2_lonelyVertices_24 P I_4 n_4 h z6 x2)))))
def V_X2_lonelyVertices (P : Int → Hp → Prop) (I_4 : Nat → Hp → Int → Int → Prop) (h0 : Hp) : Prop :=
  ∀ z8 : Int, z8 = 0 → (∀ z9 : Int, z9 = 0 → (∃ n', I_4 n' h0 z8 z9))
set_option maxHeartbeats 4000000 in
set_option maxRecDepth 100000 in
theorem w_X2_lonelyVertices {l : Launch} (P : Int → Hp → Prop) (I_4 : Nat → Hp → Int → Int → Prop) (h0 : Hp)
    (o_4 : ∀ (n_4 : Nat) (h : Hp) (x1 : Int) (x2 : Int), RH h → Fr [] h0 h → InR x1 → InR x2 → I_4 n_4 h x1 x2 → V_X2_lonelyVertices_4 P I_4 n_4 h x1 x2)
    (o : RH h0 → V_X2_lonelyVertices P I_4 h0) :
    Ct l yX2_lonelyVertices cX2_lonelyVertices 3 (some .int) 0 0 0 [vr 1] h0 [] P (fun _ => False) := by
  refine Ct.of (own := RX2) (by decide) rfl (Nat.le_of_ble_eq_true rfl) ?_
  intro X C hXl hXM hXh hXP hXX hXc hXr hav hR0
  have hmain : V_X2_lonelyVertices P I_4 h0 := o hR0 
  have B_4 : ∀ (n_4 : Nat) (h : Hp) (x1 : Int) (x2 : Int), I_4 n_4 h x1 x2 → Wh X 4 [(0, vr 1), (1, vi x1), (2, vi x2)] [] h 0 := by
    intro n_4
    induction n_4 using Nat.strongRecOn with
    | _ n_4 ih_4 =>
      intro h x1 x2 hI
      refine s_use fun hR hF hL => ?_
      have v := o_4 n_4 h x1 x2 hR (by rw [hXM, hXh] at hF; exact hF) (hL (1, vi x1) (by simp)) (hL (2, vi x2) (by simp)) hI
      unfold V_X2_lonelyVertices_4 at v
      have B_24 : ∀ (h : Hp) (x1 : Int) (x2 : Int), V_X2_lonelyVertices_24 P I_4 n_4 h x1 x2 → Wh X 24 [(0, vr 1), (1, vi x1), (2, vi x2)] [] h 0 := by
        intro h x1 x2 v
        unfold V_X2_lonelyVertices_24 at v
        obtain ⟨o2, v⟩ := v
        refine s_iinc 2 C dX2_lonelyVertices_24 rfl (by decide) o2 (fun z1 ez1 => ?_)
        have v := v z1 ez1
        show Wh X 27 [(2, vi z1), (0, vr 1), (1, vi x1)] [] h 0
        refine r_goto (tgt := 4) C dX2_lonelyVertices_27 (by decide) ?_
        obtain ⟨n', hn', hI'⟩ := v
        exact s_sub [1, 2, 0] rfl (ih_4 n' hn' _ _ _ hI')
      refine r_iload_n 2 C dX2_lonelyVertices_4 rfl ?_
      refine r_aload_n 0 C dX2_lonelyVertices_5 rfl ?_
      refine gf_X2_31 C dX2_lonelyVertices_6 ?_
      refine r_icmp_ge (tgt := 30) C dX2_lonelyVertices_9 (by decide) (fun c3 => ?_) (fun c3 => ?_)
      · have v := v.1 c3
        refine r_iload_n 1 C dX2_lonelyVertices_30 rfl ?_
        exact r_ireturn C dX2_lonelyVertices_31 hXr (Nat.zero_le _) (by rw [hXP]; exact v)
      · have v := v.2 c3
        refine r_aload_n 0 C dX2_lonelyVertices_12 rfl ?_
        refine gf_X2_28 C dX2_lonelyVertices_13 ?_
        refine r_iload_n 2 C dX2_lonelyVertices_16 rfl ?_
        obtain ⟨o4, v⟩ := v
        refine r_iaload (r := 11) (N := 30) C dX2_lonelyVertices_17 rfl o4 ?_
        refine r_if_ne (tgt := 24) C dX2_lonelyVertices_18 (by decide) (fun c5 => ?_) (fun c5 => ?_)
        · have v := v.1 c5
          exact s_sub [0, 1, 2] rfl (B_24 _ _ _ v)
        · have v := v.2 c5
          obtain ⟨o7, v⟩ := v
          refine s_iinc 1 C dX2_lonelyVertices_21 rfl (by decide) o7 (fun z6 ez6 => ?_)
          have v := v z6 ez6
          show Wh X 24 [(1, vi z6), (0, vr 1), (2, vi x2)] [] h 0
          exact s_sub [1, 0, 2] rfl (B_24 _ _ _ v)
  show Wh X 0 [(0, vr 1)] [] h0 0
  have v := hmain
  unfold V_X2_lonelyVertices at v
  refine r_iconst C dX2_lonelyVertices_0 ⟨by decide, by decide⟩ ?_
  refine s_istore_n C dX2_lonelyVertices_1 (by decide) (fun z8 ez8 => ?_)
  have v := v z8 ez8
  show Wh X 2 [(1, vi z8), (0, vr 1)] [] h0 0
  refine r_iconst C dX2_lonelyVertices_2 ⟨by decide, by decide⟩ ?_
  refine s_istore_n C dX2_lonelyVertices_3 (by decide) (fun z9 ez9 => ?_)
  have v := v z9 ez9
  show Wh X 4 [(2, vi z9), (1, vi z8), (0, vr 1)] [] h0 0
  obtain ⟨n', hI'⟩ := v
  exact s_sub [2, 1, 0] rfl (B_4 n' _ _ _ hI')
end
section
theorem zz_end : True := trivial
end

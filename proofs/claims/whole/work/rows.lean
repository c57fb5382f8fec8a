section
-- ===== PART A: goes FIRST, ahead of the names: the tables' words, and 'selects' of the private methods out of them =====
/-- a private method of a class that the tables say can be made, by its rows of tables_1 -/
def lw_okq (q : MethodName × Nat) : Prop := (q.1.cls ≠ "java/lang/invoke/MethodHandle" ∧ q.1.cls ≠ "java/lang/invoke/VarHandle") ∧ Cond.instantiable q.1.cls q.2 ∈ tables_1 ∧ Cond.privateMethod q.1 ∈ tables_1 ∧ Cond.instanceMethod q.1 ∈ tables_1
theorem lw_p0 : lw_okq (⟨"SimplicialSet", "removeAll", "()V"⟩, 10) := ⟨⟨by decide +kernel, by decide +kernel⟩, List.mem_of_getElem? (i := 15) (by decide +kernel), List.mem_of_getElem? (i := 278) (by decide +kernel), List.mem_of_getElem? (i := 279) (by decide +kernel)⟩
theorem lw_p1 : lw_okq (⟨"SimplicialSet", "checkPlace", "(IIIIII)I"⟩, 10) := ⟨⟨by decide +kernel, by decide +kernel⟩, List.mem_of_getElem? (i := 15) (by decide +kernel), List.mem_of_getElem? (i := 298) (by decide +kernel), List.mem_of_getElem? (i := 299) (by decide +kernel)⟩
theorem lw_p2 : lw_okq (⟨"SimplicialSet", "pointAt", "(III)I"⟩, 10) := ⟨⟨by decide +kernel, by decide +kernel⟩, List.mem_of_getElem? (i := 15) (by decide +kernel), List.mem_of_getElem? (i := 320) (by decide +kernel), List.mem_of_getElem? (i := 321) (by decide +kernel)⟩
theorem lw_p3 : lw_okq (⟨"SimplicialSet", "joinEnds", "(I)Z"⟩, 10) := ⟨⟨by decide +kernel, by decide +kernel⟩, List.mem_of_getElem? (i := 15) (by decide +kernel), List.mem_of_getElem? (i := 342) (by decide +kernel), List.mem_of_getElem? (i := 343) (by decide +kernel)⟩
theorem lw_p4 : lw_okq (⟨"SimplicialSet$Residues", "numberCells", "(LSimplicialSet$Cells;I)I"⟩, 5) := ⟨⟨by decide +kernel, by decide +kernel⟩, List.mem_of_getElem? (i := 107) (by decide +kernel), List.mem_of_getElem? (i := 367) (by decide +kernel), List.mem_of_getElem? (i := 368) (by decide +kernel)⟩
theorem lw_p5 : lw_okq (⟨"SimplicialSet$Residues", "loadColumn", "(LSimplicialSet$Cells;I)V"⟩, 5) := ⟨⟨by decide +kernel, by decide +kernel⟩, List.mem_of_getElem? (i := 107) (by decide +kernel), List.mem_of_getElem? (i := 374) (by decide +kernel), List.mem_of_getElem? (i := 375) (by decide +kernel)⟩
theorem lw_p6 : lw_okq (⟨"SimplicialSet$Residues", "residue", "(J)J"⟩, 5) := ⟨⟨by decide +kernel, by decide +kernel⟩, List.mem_of_getElem? (i := 107) (by decide +kernel), List.mem_of_getElem? (i := 381) (by decide +kernel), List.mem_of_getElem? (i := 382) (by decide +kernel)⟩
theorem lw_p7 : lw_okq (⟨"SimplicialSet$Homology", "eliminate", "()V"⟩, 4) := ⟨⟨by decide +kernel, by decide +kernel⟩, List.mem_of_getElem? (i := 101) (by decide +kernel), List.mem_of_getElem? (i := 385) (by decide +kernel), List.mem_of_getElem? (i := 386) (by decide +kernel)⟩
theorem lw_p8 : lw_okq (⟨"SimplicialSet$Residues", "swap", "(II)V"⟩, 5) := ⟨⟨by decide +kernel, by decide +kernel⟩, List.mem_of_getElem? (i := 107) (by decide +kernel), List.mem_of_getElem? (i := 401) (by decide +kernel), List.mem_of_getElem? (i := 402) (by decide +kernel)⟩
theorem lw_p9 : lw_okq (⟨"SimplicialSet$Homology", "clearBelow", "(II)V"⟩, 4) := ⟨⟨by decide +kernel, by decide +kernel⟩, List.mem_of_getElem? (i := 101) (by decide +kernel), List.mem_of_getElem? (i := 411) (by decide +kernel), List.mem_of_getElem? (i := 412) (by decide +kernel)⟩
theorem lw_p10 : lw_okq (⟨"SimplicialSet$Residues", "subtract", "(IIJ)V"⟩, 5) := ⟨⟨by decide +kernel, by decide +kernel⟩, List.mem_of_getElem? (i := 107) (by decide +kernel), List.mem_of_getElem? (i := 425) (by decide +kernel), List.mem_of_getElem? (i := 426) (by decide +kernel)⟩
theorem lw_p11 : lw_okq (⟨"SimplicialSet$Homology", "isolatePivot", "(I)V"⟩, 4) := ⟨⟨by decide +kernel, by decide +kernel⟩, List.mem_of_getElem? (i := 101) (by decide +kernel), List.mem_of_getElem? (i := 443) (by decide +kernel), List.mem_of_getElem? (i := 444) (by decide +kernel)⟩
theorem lw_p12 : lw_okq (⟨"SimplicialSet$Residues", "swapColumns", "(II)V"⟩, 5) := ⟨⟨by decide +kernel, by decide +kernel⟩, List.mem_of_getElem? (i := 107) (by decide +kernel), List.mem_of_getElem? (i := 459) (by decide +kernel), List.mem_of_getElem? (i := 460) (by decide +kernel)⟩
theorem lw_p13 : lw_okq (⟨"SimplicialSet$Residues", "subtractColumn", "(IIJ)V"⟩, 5) := ⟨⟨by decide +kernel, by decide +kernel⟩, List.mem_of_getElem? (i := 107) (by decide +kernel), List.mem_of_getElem? (i := 468) (by decide +kernel), List.mem_of_getElem? (i := 469) (by decide +kernel)⟩
theorem lw_p14 : lw_okq (⟨"SimplicialSet$Homology", "orderByDivision", "(I)V"⟩, 4) := ⟨⟨by decide +kernel, by decide +kernel⟩, List.mem_of_getElem? (i := 101) (by decide +kernel), List.mem_of_getElem? (i := 475) (by decide +kernel), List.mem_of_getElem? (i := 476) (by decide +kernel)⟩
theorem lw_p15 : lw_okq (⟨"SimplicialSet$Horns", "findMeetingPoints", "(LSimplicialSet$Cells;I)V"⟩, 3) := ⟨⟨by decide +kernel, by decide +kernel⟩, List.mem_of_getElem? (i := 84) (by decide +kernel), List.mem_of_getElem? (i := 503) (by decide +kernel), List.mem_of_getElem? (i := 504) (by decide +kernel)⟩
def lw_privs_1 : List (MethodName × Nat) := [(⟨"SimplicialSet", "removeAll", "()V"⟩, 10), (⟨"SimplicialSet", "checkPlace", "(IIIIII)I"⟩, 10), (⟨"SimplicialSet", "pointAt", "(III)I"⟩, 10), (⟨"SimplicialSet", "joinEnds", "(I)Z"⟩, 10), (⟨"SimplicialSet$Residues", "numberCells", "(LSimplicialSet$Cells;I)I"⟩, 5), (⟨"SimplicialSet$Residues", "loadColumn", "(LSimplicialSet$Cells;I)V"⟩, 5), (⟨"SimplicialSet$Residues", "residue", "(J)J"⟩, 5), (⟨"SimplicialSet$Homology", "eliminate", "()V"⟩, 4), (⟨"SimplicialSet$Residues", "swap", "(II)V"⟩, 5), (⟨"SimplicialSet$Homology", "clearBelow", "(II)V"⟩, 4), (⟨"SimplicialSet$Residues", "subtract", "(IIJ)V"⟩, 5), (⟨"SimplicialSet$Homology", "isolatePivot", "(I)V"⟩, 4), (⟨"SimplicialSet$Residues", "swapColumns", "(II)V"⟩, 5), (⟨"SimplicialSet$Residues", "subtractColumn", "(IIJ)V"⟩, 5), (⟨"SimplicialSet$Homology", "orderByDivision", "(I)V"⟩, 4), (⟨"SimplicialSet$Horns", "findMeetingPoints", "(LSimplicialSet$Cells;I)V"⟩, 3)]
theorem lw_r1 : ∀ q ∈ lw_privs_1, lw_okq q := List.forall_mem_cons.mpr ⟨lw_p0, List.forall_mem_cons.mpr ⟨lw_p1, List.forall_mem_cons.mpr ⟨lw_p2, List.forall_mem_cons.mpr ⟨lw_p3, List.forall_mem_cons.mpr ⟨lw_p4, List.forall_mem_cons.mpr ⟨lw_p5, List.forall_mem_cons.mpr ⟨lw_p6, List.forall_mem_cons.mpr ⟨lw_p7, List.forall_mem_cons.mpr ⟨lw_p8, List.forall_mem_cons.mpr ⟨lw_p9, List.forall_mem_cons.mpr ⟨lw_p10, List.forall_mem_cons.mpr ⟨lw_p11, List.forall_mem_cons.mpr ⟨lw_p12, List.forall_mem_cons.mpr ⟨lw_p13, List.forall_mem_cons.mpr ⟨lw_p14, List.forall_mem_cons.mpr ⟨lw_p15, fun _ h => absurd h List.not_mem_nil⟩⟩⟩⟩⟩⟩⟩⟩⟩⟩⟩⟩⟩⟩⟩⟩
theorem lw_p16 : lw_okq (⟨"SimplicialSet", "appendSubsets", "(II)V"⟩, 10) := ⟨⟨by decide +kernel, by decide +kernel⟩, List.mem_of_getElem? (i := 15) (by decide +kernel), List.mem_of_getElem? (i := 530) (by decide +kernel), List.mem_of_getElem? (i := 531) (by decide +kernel)⟩
theorem lw_p17 : lw_okq (⟨"SimplicialSet", "setFacesOfSubset", "(II)V"⟩, 10) := ⟨⟨by decide +kernel, by decide +kernel⟩, List.mem_of_getElem? (i := 15) (by decide +kernel), List.mem_of_getElem? (i := 534) (by decide +kernel), List.mem_of_getElem? (i := 535) (by decide +kernel)⟩
theorem lw_p18 : lw_okq (⟨"SimplicialSet$Pairs", "collectPartners", "(ILSimplicialSet$Cells;I)Z"⟩, 5) := ⟨⟨by decide +kernel, by decide +kernel⟩, List.mem_of_getElem? (i := 62) (by decide +kernel), List.mem_of_getElem? (i := 577) (by decide +kernel), List.mem_of_getElem? (i := 578) (by decide +kernel)⟩
theorem lw_p19 : lw_okq (⟨"SimplicialSet$Pairs", "faceOfPair", "(II)I"⟩, 5) := ⟨⟨by decide +kernel, by decide +kernel⟩, List.mem_of_getElem? (i := 62) (by decide +kernel), List.mem_of_getElem? (i := 587) (by decide +kernel), List.mem_of_getElem? (i := 588) (by decide +kernel)⟩
theorem lw_p20 : lw_okq (⟨"SimplicialSet$Pairs", "find", "(II)I"⟩, 5) := ⟨⟨by decide +kernel, by decide +kernel⟩, List.mem_of_getElem? (i := 62) (by decide +kernel), List.mem_of_getElem? (i := 595) (by decide +kernel), List.mem_of_getElem? (i := 596) (by decide +kernel)⟩
theorem lw_p21 : lw_okq (⟨"SimplicialSetModel", "addCell", "(I)I"⟩, 34) := ⟨⟨by decide +kernel, by decide +kernel⟩, List.mem_of_getElem? (i := 600) (by decide +kernel), List.mem_of_getElem? (i := 714) (by decide +kernel), List.mem_of_getElem? (i := 715) (by decide +kernel)⟩
theorem lw_p22 : lw_okq (⟨"SimplicialSetModel", "noCell", "(I)Z"⟩, 34) := ⟨⟨by decide +kernel, by decide +kernel⟩, List.mem_of_getElem? (i := 600) (by decide +kernel), List.mem_of_getElem? (i := 729) (by decide +kernel), List.mem_of_getElem? (i := 730) (by decide +kernel)⟩
theorem lw_p23 : lw_okq (⟨"SimplicialSetModel", "isMask", "(III)Z"⟩, 34) := ⟨⟨by decide +kernel, by decide +kernel⟩, List.mem_of_getElem? (i := 600) (by decide +kernel), List.mem_of_getElem? (i := 733) (by decide +kernel), List.mem_of_getElem? (i := 734) (by decide +kernel)⟩
theorem lw_p24 : lw_okq (⟨"SimplicialSetModel", "areFacesSo", "()Z"⟩, 34) := ⟨⟨by decide +kernel, by decide +kernel⟩, List.mem_of_getElem? (i := 600) (by decide +kernel), List.mem_of_getElem? (i := 747) (by decide +kernel), List.mem_of_getElem? (i := 748) (by decide +kernel)⟩
theorem lw_p25 : lw_okq (⟨"SimplicialSetModel", "takeFace", "(IIIII)V"⟩, 34) := ⟨⟨by decide +kernel, by decide +kernel⟩, List.mem_of_getElem? (i := 600) (by decide +kernel), List.mem_of_getElem? (i := 751) (by decide +kernel), List.mem_of_getElem? (i := 752) (by decide +kernel)⟩
theorem lw_p26 : lw_okq (⟨"SimplicialSetModel", "putFace", "(IIII)V"⟩, 34) := ⟨⟨by decide +kernel, by decide +kernel⟩, List.mem_of_getElem? (i := 600) (by decide +kernel), List.mem_of_getElem? (i := 761) (by decide +kernel), List.mem_of_getElem? (i := 762) (by decide +kernel)⟩
theorem lw_p27 : lw_okq (⟨"SimplicialSetModel", "countOf", "(I)I"⟩, 34) := ⟨⟨by decide +kernel, by decide +kernel⟩, List.mem_of_getElem? (i := 600) (by decide +kernel), List.mem_of_getElem? (i := 773) (by decide +kernel), List.mem_of_getElem? (i := 774) (by decide +kernel)⟩
theorem lw_p28 : lw_okq (⟨"SimplicialSetModel", "simplexBarred", "(IIIIII)I"⟩, 34) := ⟨⟨by decide +kernel, by decide +kernel⟩, List.mem_of_getElem? (i := 600) (by decide +kernel), List.mem_of_getElem? (i := 785) (by decide +kernel), List.mem_of_getElem? (i := 786) (by decide +kernel)⟩
theorem lw_p29 : lw_okq (⟨"SimplicialSetModel", "entryOf", "(II)I"⟩, 34) := ⟨⟨by decide +kernel, by decide +kernel⟩, List.mem_of_getElem? (i := 600) (by decide +kernel), List.mem_of_getElem? (i := 820) (by decide +kernel), List.mem_of_getElem? (i := 821) (by decide +kernel)⟩
theorem lw_p30 : lw_okq (⟨"SimplicialSetModel", "rankOf", "(I)I"⟩, 34) := ⟨⟨by decide +kernel, by decide +kernel⟩, List.mem_of_getElem? (i := 600) (by decide +kernel), List.mem_of_getElem? (i := 828) (by decide +kernel), List.mem_of_getElem? (i := 829) (by decide +kernel)⟩
theorem lw_p31 : lw_okq (⟨"SimplicialSetModel", "layMatrix", "(I)V"⟩, 34) := ⟨⟨by decide +kernel, by decide +kernel⟩, List.mem_of_getElem? (i := 600) (by decide +kernel), List.mem_of_getElem? (i := 832) (by decide +kernel), List.mem_of_getElem? (i := 833) (by decide +kernel)⟩
def lw_privs_2 : List (MethodName × Nat) := [(⟨"SimplicialSet", "appendSubsets", "(II)V"⟩, 10), (⟨"SimplicialSet", "setFacesOfSubset", "(II)V"⟩, 10), (⟨"SimplicialSet$Pairs", "collectPartners", "(ILSimplicialSet$Cells;I)Z"⟩, 5), (⟨"SimplicialSet$Pairs", "faceOfPair", "(II)I"⟩, 5), (⟨"SimplicialSet$Pairs", "find", "(II)I"⟩, 5), (⟨"SimplicialSetModel", "addCell", "(I)I"⟩, 34), (⟨"SimplicialSetModel", "noCell", "(I)Z"⟩, 34), (⟨"SimplicialSetModel", "isMask", "(III)Z"⟩, 34), (⟨"SimplicialSetModel", "areFacesSo", "()Z"⟩, 34), (⟨"SimplicialSetModel", "takeFace", "(IIIII)V"⟩, 34), (⟨"SimplicialSetModel", "putFace", "(IIII)V"⟩, 34), (⟨"SimplicialSetModel", "countOf", "(I)I"⟩, 34), (⟨"SimplicialSetModel", "simplexBarred", "(IIIIII)I"⟩, 34), (⟨"SimplicialSetModel", "entryOf", "(II)I"⟩, 34), (⟨"SimplicialSetModel", "rankOf", "(I)I"⟩, 34), (⟨"SimplicialSetModel", "layMatrix", "(I)V"⟩, 34)]
theorem lw_r2 : ∀ q ∈ lw_privs_2, lw_okq q := List.forall_mem_cons.mpr ⟨lw_p16, List.forall_mem_cons.mpr ⟨lw_p17, List.forall_mem_cons.mpr ⟨lw_p18, List.forall_mem_cons.mpr ⟨lw_p19, List.forall_mem_cons.mpr ⟨lw_p20, List.forall_mem_cons.mpr ⟨lw_p21, List.forall_mem_cons.mpr ⟨lw_p22, List.forall_mem_cons.mpr ⟨lw_p23, List.forall_mem_cons.mpr ⟨lw_p24, List.forall_mem_cons.mpr ⟨lw_p25, List.forall_mem_cons.mpr ⟨lw_p26, List.forall_mem_cons.mpr ⟨lw_p27, List.forall_mem_cons.mpr ⟨lw_p28, List.forall_mem_cons.mpr ⟨lw_p29, List.forall_mem_cons.mpr ⟨lw_p30, List.forall_mem_cons.mpr ⟨lw_p31, fun _ h => absurd h List.not_mem_nil⟩⟩⟩⟩⟩⟩⟩⟩⟩⟩⟩⟩⟩⟩⟩⟩
theorem lw_p32 : lw_okq (⟨"SimplicialSetModel", "rankBy", "(J)I"⟩, 34) := ⟨⟨by decide +kernel, by decide +kernel⟩, List.mem_of_getElem? (i := 600) (by decide +kernel), List.mem_of_getElem? (i := 837) (by decide +kernel), List.mem_of_getElem? (i := 838) (by decide +kernel)⟩
theorem lw_p33 : lw_okq (⟨"SimplicialSetModel", "clearColumn", "(IIJ)V"⟩, 34) := ⟨⟨by decide +kernel, by decide +kernel⟩, List.mem_of_getElem? (i := 600) (by decide +kernel), List.mem_of_getElem? (i := 844) (by decide +kernel), List.mem_of_getElem? (i := 845) (by decide +kernel)⟩
theorem lw_p34 : lw_okq (⟨"SimplicialSetModel", "layTorsion", "(I)V"⟩, 34) := ⟨⟨by decide +kernel, by decide +kernel⟩, List.mem_of_getElem? (i := 600) (by decide +kernel), List.mem_of_getElem? (i := 857) (by decide +kernel), List.mem_of_getElem? (i := 858) (by decide +kernel)⟩
theorem lw_p35 : lw_okq (⟨"SimplicialSetModel", "minorOf", "(I)J"⟩, 34) := ⟨⟨by decide +kernel, by decide +kernel⟩, List.mem_of_getElem? (i := 600) (by decide +kernel), List.mem_of_getElem? (i := 861) (by decide +kernel), List.mem_of_getElem? (i := 862) (by decide +kernel)⟩
theorem lw_p36 : lw_okq (⟨"SimplicialSetModel", "minorBy", "(IJ)J"⟩, 34) := ⟨⟨by decide +kernel, by decide +kernel⟩, List.mem_of_getElem? (i := 600) (by decide +kernel), List.mem_of_getElem? (i := 865) (by decide +kernel), List.mem_of_getElem? (i := 866) (by decide +kernel)⟩
theorem lw_p37 : lw_okq (⟨"SimplicialSetModel", "factorAt", "(I)J"⟩, 34) := ⟨⟨by decide +kernel, by decide +kernel⟩, List.mem_of_getElem? (i := 600) (by decide +kernel), List.mem_of_getElem? (i := 872) (by decide +kernel), List.mem_of_getElem? (i := 873) (by decide +kernel)⟩
theorem lw_p38 : lw_okq (⟨"SimplicialSetModel", "takesLeast", "(I)Z"⟩, 34) := ⟨⟨by decide +kernel, by decide +kernel⟩, List.mem_of_getElem? (i := 600) (by decide +kernel), List.mem_of_getElem? (i := 876) (by decide +kernel), List.mem_of_getElem? (i := 877) (by decide +kernel)⟩
theorem lw_p39 : lw_okq (⟨"SimplicialSetModel", "clearsCross", "(I)Z"⟩, 34) := ⟨⟨by decide +kernel, by decide +kernel⟩, List.mem_of_getElem? (i := 600) (by decide +kernel), List.mem_of_getElem? (i := 880) (by decide +kernel), List.mem_of_getElem? (i := 881) (by decide +kernel)⟩
theorem lw_p40 : lw_okq (⟨"SimplicialSetModel", "addRow", "(IIJ)V"⟩, 34) := ⟨⟨by decide +kernel, by decide +kernel⟩, List.mem_of_getElem? (i := 600) (by decide +kernel), List.mem_of_getElem? (i := 884) (by decide +kernel), List.mem_of_getElem? (i := 885) (by decide +kernel)⟩
theorem lw_p41 : lw_okq (⟨"SimplicialSetModel", "product64", "(JJ)J"⟩, 34) := ⟨⟨by decide +kernel, by decide +kernel⟩, List.mem_of_getElem? (i := 600) (by decide +kernel), List.mem_of_getElem? (i := 888) (by decide +kernel), List.mem_of_getElem? (i := 889) (by decide +kernel)⟩
theorem lw_p42 : lw_okq (⟨"SimplicialSetModel", "addColumn", "(IIJ)V"⟩, 34) := ⟨⟨by decide +kernel, by decide +kernel⟩, List.mem_of_getElem? (i := 600) (by decide +kernel), List.mem_of_getElem? (i := 894) (by decide +kernel), List.mem_of_getElem? (i := 895) (by decide +kernel)⟩
theorem lw_p43 : lw_okq (⟨"SimplicialSetModel", "oddRow", "(I)I"⟩, 34) := ⟨⟨by decide +kernel, by decide +kernel⟩, List.mem_of_getElem? (i := 600) (by decide +kernel), List.mem_of_getElem? (i := 898) (by decide +kernel), List.mem_of_getElem? (i := 899) (by decide +kernel)⟩
theorem lw_p44 : lw_okq (⟨"SimplicialSetModel", "hornsAt", "(IZ)I"⟩, 34) := ⟨⟨by decide +kernel, by decide +kernel⟩, List.mem_of_getElem? (i := 600) (by decide +kernel), List.mem_of_getElem? (i := 916) (by decide +kernel), List.mem_of_getElem? (i := 917) (by decide +kernel)⟩
theorem lw_p45 : lw_okq (⟨"SimplicialSetModel", "layFilled", "(II)V"⟩, 34) := ⟨⟨by decide +kernel, by decide +kernel⟩, List.mem_of_getElem? (i := 600) (by decide +kernel), List.mem_of_getElem? (i := 920) (by decide +kernel), List.mem_of_getElem? (i := 921) (by decide +kernel)⟩
theorem lw_p46 : lw_okq (⟨"SimplicialSetModel", "vertexOf", "(II)I"⟩, 34) := ⟨⟨by decide +kernel, by decide +kernel⟩, List.mem_of_getElem? (i := 600) (by decide +kernel), List.mem_of_getElem? (i := 924) (by decide +kernel), List.mem_of_getElem? (i := 925) (by decide +kernel)⟩
theorem lw_p47 : lw_okq (⟨"SimplicialSetModel", "addSubset", "(III)V"⟩, 34) := ⟨⟨by decide +kernel, by decide +kernel⟩, List.mem_of_getElem? (i := 600) (by decide +kernel), List.mem_of_getElem? (i := 936) (by decide +kernel), List.mem_of_getElem? (i := 937) (by decide +kernel)⟩
def lw_privs_3 : List (MethodName × Nat) := [(⟨"SimplicialSetModel", "rankBy", "(J)I"⟩, 34), (⟨"SimplicialSetModel", "clearColumn", "(IIJ)V"⟩, 34), (⟨"SimplicialSetModel", "layTorsion", "(I)V"⟩, 34), (⟨"SimplicialSetModel", "minorOf", "(I)J"⟩, 34), (⟨"SimplicialSetModel", "minorBy", "(IJ)J"⟩, 34), (⟨"SimplicialSetModel", "factorAt", "(I)J"⟩, 34), (⟨"SimplicialSetModel", "takesLeast", "(I)Z"⟩, 34), (⟨"SimplicialSetModel", "clearsCross", "(I)Z"⟩, 34), (⟨"SimplicialSetModel", "addRow", "(IIJ)V"⟩, 34), (⟨"SimplicialSetModel", "product64", "(JJ)J"⟩, 34), (⟨"SimplicialSetModel", "addColumn", "(IIJ)V"⟩, 34), (⟨"SimplicialSetModel", "oddRow", "(I)I"⟩, 34), (⟨"SimplicialSetModel", "hornsAt", "(IZ)I"⟩, 34), (⟨"SimplicialSetModel", "layFilled", "(II)V"⟩, 34), (⟨"SimplicialSetModel", "vertexOf", "(II)I"⟩, 34), (⟨"SimplicialSetModel", "addSubset", "(III)V"⟩, 34)]
theorem lw_r3 : ∀ q ∈ lw_privs_3, lw_okq q := List.forall_mem_cons.mpr ⟨lw_p32, List.forall_mem_cons.mpr ⟨lw_p33, List.forall_mem_cons.mpr ⟨lw_p34, List.forall_mem_cons.mpr ⟨lw_p35, List.forall_mem_cons.mpr ⟨lw_p36, List.forall_mem_cons.mpr ⟨lw_p37, List.forall_mem_cons.mpr ⟨lw_p38, List.forall_mem_cons.mpr ⟨lw_p39, List.forall_mem_cons.mpr ⟨lw_p40, List.forall_mem_cons.mpr ⟨lw_p41, List.forall_mem_cons.mpr ⟨lw_p42, List.forall_mem_cons.mpr ⟨lw_p43, List.forall_mem_cons.mpr ⟨lw_p44, List.forall_mem_cons.mpr ⟨lw_p45, List.forall_mem_cons.mpr ⟨lw_p46, List.forall_mem_cons.mpr ⟨lw_p47, fun _ h => absurd h List.not_mem_nil⟩⟩⟩⟩⟩⟩⟩⟩⟩⟩⟩⟩⟩⟩⟩⟩
theorem lw_p48 : lw_okq (⟨"SimplicialSetModel", "cellBy", "(I)I"⟩, 34) := ⟨⟨by decide +kernel, by decide +kernel⟩, List.mem_of_getElem? (i := 600) (by decide +kernel), List.mem_of_getElem? (i := 940) (by decide +kernel), List.mem_of_getElem? (i := 941) (by decide +kernel)⟩
theorem lw_p49 : lw_okq (⟨"SimplicialSetModel", "layPairs", "()V"⟩, 34) := ⟨⟨by decide +kernel, by decide +kernel⟩, List.mem_of_getElem? (i := 600) (by decide +kernel), List.mem_of_getElem? (i := 959) (by decide +kernel), List.mem_of_getElem? (i := 960) (by decide +kernel)⟩
theorem lw_p50 : lw_okq (⟨"SimplicialSetModel", "addPair", "(IIIII)V"⟩, 34) := ⟨⟨by decide +kernel, by decide +kernel⟩, List.mem_of_getElem? (i := 600) (by decide +kernel), List.mem_of_getElem? (i := 963) (by decide +kernel), List.mem_of_getElem? (i := 964) (by decide +kernel)⟩
theorem lw_p51 : lw_okq (⟨"SimplicialSetModel", "layPairFaces", "(I)V"⟩, 34) := ⟨⟨by decide +kernel, by decide +kernel⟩, List.mem_of_getElem? (i := 600) (by decide +kernel), List.mem_of_getElem? (i := 967) (by decide +kernel), List.mem_of_getElem? (i := 968) (by decide +kernel)⟩
theorem lw_p52 : lw_okq (⟨"SimplicialSetModel", "pairBy", "(IIII)I"⟩, 34) := ⟨⟨by decide +kernel, by decide +kernel⟩, List.mem_of_getElem? (i := 600) (by decide +kernel), List.mem_of_getElem? (i := 971) (by decide +kernel), List.mem_of_getElem? (i := 972) (by decide +kernel)⟩
def lw_privs_4 : List (MethodName × Nat) := [(⟨"SimplicialSetModel", "cellBy", "(I)I"⟩, 34), (⟨"SimplicialSetModel", "layPairs", "()V"⟩, 34), (⟨"SimplicialSetModel", "addPair", "(IIIII)V"⟩, 34), (⟨"SimplicialSetModel", "layPairFaces", "(I)V"⟩, 34), (⟨"SimplicialSetModel", "pairBy", "(IIII)I"⟩, 34)]
theorem lw_r4 : ∀ q ∈ lw_privs_4, lw_okq q := List.forall_mem_cons.mpr ⟨lw_p48, List.forall_mem_cons.mpr ⟨lw_p49, List.forall_mem_cons.mpr ⟨lw_p50, List.forall_mem_cons.mpr ⟨lw_p51, List.forall_mem_cons.mpr ⟨lw_p52, fun _ h => absurd h List.not_mem_nil⟩⟩⟩⟩⟩
def lw_privs : List (MethodName × Nat) := lw_privs_1 ++ (lw_privs_2 ++ (lw_privs_3 ++ (lw_privs_4)))
def lw_tbl : List Cond := k2_sels lw_privs ++ tables_1
theorem lw_privs_ok : ∀ q ∈ lw_privs, lw_okq q := by
  show ∀ q ∈ lw_privs_1 ++ (lw_privs_2 ++ (lw_privs_3 ++ (lw_privs_4))), lw_okq q
  exact List.forall_mem_append.mpr ⟨lw_r1, List.forall_mem_append.mpr ⟨lw_r2, List.forall_mem_append.mpr ⟨lw_r3, lw_r4⟩⟩⟩
end
section
/-! ===== BEGIN words of one list among another's, by their places ===== -/
theorem goodIn_r {big : List Cond} (ws : List Cond) (ps : List Nat) (hp : ws = ps.filterMap (fun i => big[i]?)) (h : ws.all goodWord = true) : GoodIn big ws := by
  intro w hw
  have h1 := List.all_eq_true.mp h w hw
  rw [hp] at hw
  obtain ⟨i, -, hi⟩ := List.mem_filterMap.mp hw
  have hm : w ∈ big := by first | exact List.mem_of_getElem? hi | exact List.getElem?_mem hi
  exact ⟨hm, good_of_word h1⟩
theorem goodIn_app {big a b : List Cond} (ha : GoodIn big a) (hb : GoodIn big b) : GoodIn big (a ++ b) := fun w h => (List.mem_append.mp h).elim (ha w) (hb w)
theorem goodIn_ca {big a b : List Cond} {c : Cond} (ha : GoodIn big (c :: a)) (hb : GoodIn big b) : GoodIn big (c :: (a ++ b)) := fun w h => (List.mem_cons.mp h).elim (fun e => ha w (List.mem_cons.mpr (Or.inl e))) (fun h => (List.mem_append.mp h).elim (fun h => ha w (List.mem_cons.mpr (Or.inr h))) (hb w))
theorem goodIn_sub {big ws : List Cond} (hm : ∀ w ∈ ws, w ∈ big) (h : ws.all goodWord = true) : GoodIn big ws := fun w hw => ⟨hm w hw, good_of_word (List.all_eq_true.mp h w hw)⟩
/-! ===== END ===== -/

/-! ===== BEGIN printed: names, fields, word lists, decode rows ===== -/
def RX0 : String := "SimplicialSet$Cells"
def TX0 : u_T := fun k => match k with
  | 0 => ("SimplicialSet$Cells", "dimensions", "[I", true)
  | 1 => ("SimplicialSet$Cells", "faces", "[I", true)
  | _ => ("SimplicialSet$Cells", "count", "I", false)
def tyX0 : Nat → FieldType := fun k => match k with
  | 0 => .array .int
  | 1 => .array .int
  | _ => .int
abbrev wsX00 : List Cond := u_ws RX0 TX0 3
theorem nmX0 : ∀ a, a < 3 → ∀ b, b < 3 → a ≠ b → (TX0 a).2.1 ≠ (TX0 b).2.1 := by decide +kernel
theorem tyX0_ok : ∀ k, k < 3 → parseFieldDescriptor (TX0 k).2.2.1 = some (tyX0 k) := by decide +kernel
abbrev cX0_init : ByteArray := prog_2_method_1_code
def yX0_init : MethodName := ⟨RX0, "<init>", "()V"⟩
abbrev cX0_has : ByteArray := prog_2_method_2_code
def yX0_has : MethodName := ⟨RX0, "has", "(I)Z"⟩
abbrev cX0_isMask : ByteArray := prog_2_method_3_code
def yX0_isMask : MethodName := ⟨RX0, "isMask", "(III)Z"⟩
abbrev cX0_faceAt : ByteArray := prog_2_method_4_code
def yX0_faceAt : MethodName := ⟨RX0, "faceAt", "(II)I"⟩
abbrev cX0_append : ByteArray := prog_2_method_5_code
def yX0_append : MethodName := ⟨RX0, "append", "(I[I)I"⟩
abbrev cX0_copyFrom : ByteArray := prog_2_method_6_code
def yX0_copyFrom : MethodName := ⟨RX0, "copyFrom", "(LSimplicialSet$Cells;)V"⟩
abbrev cX0_countOf : ByteArray := prog_2_method_7_code
def yX0_countOf : MethodName := ⟨RX0, "countOf", "(I)I"⟩
abbrev cX0_greatestDimension : ByteArray := prog_2_method_8_code
def yX0_greatestDimension : MethodName := ⟨RX0, "greatestDimension", "()I"⟩
abbrev cX0_faceOf : ByteArray := prog_2_method_9_code
def yX0_faceOf : MethodName := ⟨RX0, "faceOf", "(III)I"⟩
def RX1 : String := "SimplicialSet$Draft"
def TX1 : u_T := fun k => match k with
  | 0 => ("SimplicialSet$Draft", "faces", "[I", true)
  | _ => ("SimplicialSet$Draft", "size", "I", false)
def tyX1 : Nat → FieldType := fun k => match k with
  | 0 => .array .int
  | _ => .int
abbrev wsX10 : List Cond := u_ws RX1 TX1 2
theorem nmX1 : ∀ a, a < 2 → ∀ b, b < 2 → a ≠ b → (TX1 a).2.1 ≠ (TX1 b).2.1 := by decide +kernel
theorem tyX1_ok : ∀ k, k < 2 → parseFieldDescriptor (TX1 k).2.2.1 = some (tyX1 k) := by decide +kernel
abbrev cX1_init : ByteArray := prog_3_method_1_code
def yX1_init : MethodName := ⟨RX1, "<init>", "()V"⟩
abbrev cX1_exists : ByteArray := prog_3_method_2_code
def yX1_exists : MethodName := ⟨RX1, "exists", "()Z"⟩
abbrev cX1_begin : ByteArray := prog_3_method_3_code
def yX1_begin : MethodName := ⟨RX1, "begin", "(I)V"⟩
abbrev cX1_drop : ByteArray := prog_3_method_4_code
def yX1_drop : MethodName := ⟨RX1, "drop", "()V"⟩
abbrev cX1_isComplete : ByteArray := prog_3_method_5_code
def yX1_isComplete : MethodName := ⟨RX1, "isComplete", "()Z"⟩
abbrev cX1_satisfiesIdentities : ByteArray := prog_3_method_6_code
def yX1_satisfiesIdentities : MethodName := ⟨RX1, "satisfiesIdentities", "(LSimplicialSet$Cells;)Z"⟩
def RX2 : String := "SimplicialSet$Homology"
def TX2 : u_T := fun k => match k with
  | 0 => ("SimplicialSet$Homology", "matrix", "LSimplicialSet$Residues;", true)
  | 1 => ("SimplicialSet$Homology", "factors", "[J", true)
  | 2 => ("SimplicialSet$Homology", "rank", "I", false)
  | _ => ("SimplicialSet$Homology", "minor", "J", false)
def tyX2 : Nat → FieldType := fun k => match k with
  | 0 => .object "SimplicialSet$Residues"
  | 1 => .array .long
  | 2 => .int
  | _ => .long
abbrev wsX20 : List Cond := u_ws RX2 TX2 4
theorem nmX2 : ∀ a, a < 4 → ∀ b, b < 4 → a ≠ b → (TX2 a).2.1 ≠ (TX2 b).2.1 := by decide +kernel
theorem tyX2_ok : ∀ k, k < 4 → parseFieldDescriptor (TX2 k).2.2.1 = some (tyX2 k) := by decide +kernel
abbrev cX2_init : ByteArray := prog_4_method_1_code
def yX2_init : MethodName := ⟨RX2, "<init>", "()V"⟩
abbrev cX2_rankOf : ByteArray := prog_4_method_2_code
def yX2_rankOf : MethodName := ⟨RX2, "rankOf", "(LSimplicialSet$Cells;I)I"⟩
abbrev cX2_findFactors : ByteArray := prog_4_method_3_code
def yX2_findFactors : MethodName := ⟨RX2, "findFactors", "(LSimplicialSet$Cells;I)V"⟩
abbrev cX2_unitFactors : ByteArray := prog_4_method_4_code
def yX2_unitFactors : MethodName := ⟨RX2, "unitFactors", "()I"⟩
abbrev cX2_eliminate : ByteArray := prog_4_method_5_code
def yX2_eliminate : MethodName := ⟨RX2, "eliminate", "()V"⟩
abbrev cX2_clearBelow : ByteArray := prog_4_method_6_code
def yX2_clearBelow : MethodName := ⟨RX2, "clearBelow", "(II)V"⟩
abbrev cX2_isolatePivot : ByteArray := prog_4_method_7_code
def yX2_isolatePivot : MethodName := ⟨RX2, "isolatePivot", "(I)V"⟩
abbrev cX2_orderByDivision : ByteArray := prog_4_method_8_code
def yX2_orderByDivision : MethodName := ⟨RX2, "orderByDivision", "(I)V"⟩
def RX3 : String := "SimplicialSet$Horns"
def TX3 : u_T := fun k => match k with
  | 0 => ("SimplicialSet$Horns", "filled", "[J", true)
  | 1 => ("SimplicialSet$Horns", "meetsAsA", "[I", true)
  | _ => ("SimplicialSet$Horns", "meetsAsB", "[I", true)
def tyX3 : Nat → FieldType := fun k => match k with
  | 0 => .array .long
  | 1 => .array .int
  | _ => .array .int
abbrev wsX30 : List Cond := u_ws RX3 TX3 3
theorem nmX3 : ∀ a, a < 3 → ∀ b, b < 3 → a ≠ b → (TX3 a).2.1 ≠ (TX3 b).2.1 := by decide +kernel
theorem tyX3_ok : ∀ k, k < 3 → parseFieldDescriptor (TX3 k).2.2.1 = some (tyX3 k) := by decide +kernel
abbrev cX3_init : ByteArray := prog_5_method_1_code
def yX3_init : MethodName := ⟨RX3, "<init>", "()V"⟩
abbrev cX3_forget : ByteArray := prog_5_method_2_code
def yX3_forget : MethodName := ⟨RX3, "forget", "()V"⟩
abbrev cX3_markFilled : ByteArray := prog_5_method_3_code
def yX3_markFilled : MethodName := ⟨RX3, "markFilled", "(LSimplicialSet$Cells;I)V"⟩
abbrev cX3_countUnmarked : ByteArray := prog_5_method_4_code
def yX3_countUnmarked : MethodName := ⟨RX3, "countUnmarked", "(LSimplicialSet$Cells;I)I"⟩
abbrev cX3_findMeetingPoints : ByteArray := prog_5_method_5_code
def yX3_findMeetingPoints : MethodName := ⟨RX3, "findMeetingPoints", "(LSimplicialSet$Cells;I)V"⟩
abbrev cX3_lower : ByteArray := prog_5_method_6_code
def yX3_lower : MethodName := ⟨RX3, "lower", "(I)I"⟩
abbrev cX3_upper : ByteArray := prog_5_method_7_code
def yX3_upper : MethodName := ⟨RX3, "upper", "(I)I"⟩
def RX4 : String := "SimplicialSet$Pairs"
def TX4 : u_T := fun k => match k with
  | 0 => ("SimplicialSet$Pairs", "sizes", "[I", true)
  | 1 => ("SimplicialSet$Pairs", "firsts", "[I", true)
  | 2 => ("SimplicialSet$Pairs", "seconds", "[I", true)
  | 3 => ("SimplicialSet$Pairs", "row", "[I", true)
  | _ => ("SimplicialSet$Pairs", "count", "I", false)
def tyX4 : Nat → FieldType := fun k => match k with
  | 0 => .array .int
  | 1 => .array .int
  | 2 => .array .int
  | 3 => .array .int
  | _ => .int
abbrev wsX40 : List Cond := u_ws RX4 TX4 5
theorem nmX4 : ∀ a, a < 5 → ∀ b, b < 5 → a ≠ b → (TX4 a).2.1 ≠ (TX4 b).2.1 := by decide +kernel
theorem tyX4_ok : ∀ k, k < 5 → parseFieldDescriptor (TX4 k).2.2.1 = some (tyX4 k) := by decide +kernel
abbrev cX4_init : ByteArray := prog_6_method_1_code
def yX4_init : MethodName := ⟨RX4, "<init>", "()V"⟩
abbrev cX4_collect : ByteArray := prog_6_method_2_code
def yX4_collect : MethodName := ⟨RX4, "collect", "(LSimplicialSet$Cells;LSimplicialSet$Cells;I)Z"⟩
abbrev cX4_collectPartners : ByteArray := prog_6_method_3_code
def yX4_collectPartners : MethodName := ⟨RX4, "collectPartners", "(ILSimplicialSet$Cells;I)Z"⟩
abbrev cX4_writeTo : ByteArray := prog_6_method_4_code
def yX4_writeTo : MethodName := ⟨RX4, "writeTo", "(LSimplicialSet$Cells;LSimplicialSet$Cells;LSimplicialSet$Cells;)V"⟩
abbrev cX4_faceOfPair : ByteArray := prog_6_method_5_code
def yX4_faceOfPair : MethodName := ⟨RX4, "faceOfPair", "(II)I"⟩
abbrev cX4_find : ByteArray := prog_6_method_6_code
def yX4_find : MethodName := ⟨RX4, "find", "(II)I"⟩
def RX5 : String := "SimplicialSet$Residues"
def TX5 : u_T := fun k => match k with
  | 0 => ("SimplicialSet$Residues", "entries", "[J", true)
  | 1 => ("SimplicialSet$Residues", "placeOf", "[I", true)
  | 2 => ("SimplicialSet$Residues", "rows", "I", false)
  | 3 => ("SimplicialSet$Residues", "columns", "I", false)
  | _ => ("SimplicialSet$Residues", "modulus", "J", false)
def tyX5 : Nat → FieldType := fun k => match k with
  | 0 => .array .long
  | 1 => .array .int
  | 2 => .int
  | 3 => .int
  | _ => .long
abbrev wsX50 : List Cond := u_ws RX5 TX5 5
theorem nmX5 : ∀ a, a < 5 → ∀ b, b < 5 → a ≠ b → (TX5 a).2.1 ≠ (TX5 b).2.1 := by decide +kernel
theorem tyX5_ok : ∀ k, k < 5 → parseFieldDescriptor (TX5 k).2.2.1 = some (tyX5 k) := by decide +kernel
abbrev cX5_init : ByteArray := prog_7_method_1_code
def yX5_init : MethodName := ⟨RX5, "<init>", "()V"⟩
abbrev cX5_load : ByteArray := prog_7_method_2_code
def yX5_load : MethodName := ⟨RX5, "load", "(LSimplicialSet$Cells;IJ)V"⟩
abbrev cX5_numberCells : ByteArray := prog_7_method_3_code
def yX5_numberCells : MethodName := ⟨RX5, "numberCells", "(LSimplicialSet$Cells;I)I"⟩
abbrev cX5_loadColumn : ByteArray := prog_7_method_4_code
def yX5_loadColumn : MethodName := ⟨RX5, "loadColumn", "(LSimplicialSet$Cells;I)V"⟩
abbrev cX5_residue : ByteArray := prog_7_method_5_code
def yX5_residue : MethodName := ⟨RX5, "residue", "(J)J"⟩
abbrev cX5_times : ByteArray := prog_7_method_6_code
def yX5_times : MethodName := ⟨RX5, "times", "(JJ)J"⟩
abbrev cX5_power : ByteArray := prog_7_method_7_code
def yX5_power : MethodName := ⟨RX5, "power", "(JJ)J"⟩
abbrev cX5_at : ByteArray := prog_7_method_8_code
def yX5_at : MethodName := ⟨RX5, "at", "(II)J"⟩
abbrev cX5_rowWithEntry : ByteArray := prog_7_method_9_code
def yX5_rowWithEntry : MethodName := ⟨RX5, "rowWithEntry", "(II)I"⟩
abbrev cX5_swapRows : ByteArray := prog_7_method_10_code
def yX5_swapRows : MethodName := ⟨RX5, "swapRows", "(II)V"⟩
abbrev cX5_swapColumns : ByteArray := prog_7_method_11_code
def yX5_swapColumns : MethodName := ⟨RX5, "swapColumns", "(II)V"⟩
abbrev cX5_swap : ByteArray := prog_7_method_12_code
def yX5_swap : MethodName := ⟨RX5, "swap", "(II)V"⟩
abbrev cX5_subtractRow : ByteArray := prog_7_method_13_code
def yX5_subtractRow : MethodName := ⟨RX5, "subtractRow", "(IIJ)V"⟩
abbrev cX5_subtractColumn : ByteArray := prog_7_method_14_code
def yX5_subtractColumn : MethodName := ⟨RX5, "subtractColumn", "(IIJ)V"⟩
abbrev cX5_subtract : ByteArray := prog_7_method_15_code
def yX5_subtract : MethodName := ⟨RX5, "subtract", "(IIJ)V"⟩
abbrev cX5_moveLeast : ByteArray := prog_7_method_16_code
def yX5_moveLeast : MethodName := ⟨RX5, "moveLeast", "(I)V"⟩
abbrev cX5_isLess : ByteArray := prog_7_method_17_code
def yX5_isLess : MethodName := ⟨RX5, "isLess", "(JJ)Z"⟩
abbrev cX5_isIsolated : ByteArray := prog_7_method_18_code
def yX5_isIsolated : MethodName := ⟨RX5, "isIsolated", "(I)Z"⟩
abbrev cX5_reduceCross : ByteArray := prog_7_method_19_code
def yX5_reduceCross : MethodName := ⟨RX5, "reduceCross", "(I)V"⟩
def RX6 : String := "SimplicialSet"
def TX6 : u_T := fun k => match k with
  | 0 => ("SimplicialSet", "present", "LSimplicialSet$Cells;", false)
  | 1 => ("SimplicialSet", "spare", "LSimplicialSet$Cells;", false)
  | 2 => ("SimplicialSet", "saved", "LSimplicialSet$Cells;", true)
  | 3 => ("SimplicialSet", "draft", "LSimplicialSet$Draft;", true)
  | 4 => ("SimplicialSet", "pairs", "LSimplicialSet$Pairs;", true)
  | 5 => ("SimplicialSet", "horns", "LSimplicialSet$Horns;", true)
  | 6 => ("SimplicialSet", "homology", "LSimplicialSet$Homology;", true)
  | 7 => ("SimplicialSet", "partOf", "[I", true)
  | 8 => ("SimplicialSet", "faceRow", "[I", true)
  | _ => ("SimplicialSet", "cellOfSubset", "[I", true)
def tyX6 : Nat → FieldType := fun k => match k with
  | 0 => .object "SimplicialSet$Cells"
  | 1 => .object "SimplicialSet$Cells"
  | 2 => .object "SimplicialSet$Cells"
  | 3 => .object "SimplicialSet$Draft"
  | 4 => .object "SimplicialSet$Pairs"
  | 5 => .object "SimplicialSet$Horns"
  | 6 => .object "SimplicialSet$Homology"
  | 7 => .array .int
  | 8 => .array .int
  | _ => .array .int
abbrev wsX60 : List Cond := u_ws RX6 TX6 10
theorem nmX6 : ∀ a, a < 10 → ∀ b, b < 10 → a ≠ b → (TX6 a).2.1 ≠ (TX6 b).2.1 := by decide +kernel
theorem tyX6_ok : ∀ k, k < 10 → parseFieldDescriptor (TX6 k).2.2.1 = some (tyX6 k) := by decide +kernel
abbrev cX6_init : ByteArray := prog_1_method_1_code
def yX6_init : MethodName := ⟨RX6, "<init>", "()V"⟩
abbrev cX6_addVertex : ByteArray := prog_1_method_2_code
def yX6_addVertex : MethodName := ⟨RX6, "addVertex", "()I"⟩
abbrev cX6_beginCell : ByteArray := prog_1_method_3_code
def yX6_beginCell : MethodName := ⟨RX6, "beginCell", "(I)I"⟩
abbrev cX6_setFace : ByteArray := prog_1_method_4_code
def yX6_setFace : MethodName := ⟨RX6, "setFace", "(III)I"⟩
abbrev cX6_endCell : ByteArray := prog_1_method_5_code
def yX6_endCell : MethodName := ⟨RX6, "endCell", "()I"⟩
abbrev cX6_clear : ByteArray := prog_1_method_6_code
def yX6_clear : MethodName := ⟨RX6, "clear", "()I"⟩
abbrev cX6_cellCount : ByteArray := prog_1_method_7_code
def yX6_cellCount : MethodName := ⟨RX6, "cellCount", "(I)I"⟩
abbrev cX6_dimension : ByteArray := prog_1_method_8_code
def yX6_dimension : MethodName := ⟨RX6, "dimension", "(I)I"⟩
abbrev cX6_faceCell : ByteArray := prog_1_method_9_code
def yX6_faceCell : MethodName := ⟨RX6, "faceCell", "(IIII)I"⟩
abbrev cX6_faceMask : ByteArray := prog_1_method_10_code
def yX6_faceMask : MethodName := ⟨RX6, "faceMask", "(IIII)I"⟩
abbrev cX6_degeneracyMask : ByteArray := prog_1_method_11_code
def yX6_degeneracyMask : MethodName := ⟨RX6, "degeneracyMask", "(IIII)I"⟩
abbrev cX6_vertex : ByteArray := prog_1_method_12_code
def yX6_vertex : MethodName := ⟨RX6, "vertex", "(IIII)I"⟩
abbrev cX6_simplexCount : ByteArray := prog_1_method_13_code
def yX6_simplexCount : MethodName := ⟨RX6, "simplexCount", "(I)I"⟩
abbrev cX6_eulerCharacteristic : ByteArray := prog_1_method_14_code
def yX6_eulerCharacteristic : MethodName := ⟨RX6, "eulerCharacteristic", "()I"⟩
abbrev cX6_partCount : ByteArray := prog_1_method_15_code
def yX6_partCount : MethodName := ⟨RX6, "partCount", "()I"⟩
abbrev cX6_incidence : ByteArray := prog_1_method_16_code
def yX6_incidence : MethodName := ⟨RX6, "incidence", "(II)I"⟩
abbrev cX6_betti : ByteArray := prog_1_method_17_code
def yX6_betti : MethodName := ⟨RX6, "betti", "(I)I"⟩
abbrev cX6_torsionCount : ByteArray := prog_1_method_18_code
def yX6_torsionCount : MethodName := ⟨RX6, "torsionCount", "(I)I"⟩
abbrev cX6_torsion : ByteArray := prog_1_method_19_code
def yX6_torsion : MethodName := ⟨RX6, "torsion", "(II)J"⟩
abbrev cX6_hornCount : ByteArray := prog_1_method_20_code
def yX6_hornCount : MethodName := ⟨RX6, "hornCount", "(I)I"⟩
abbrev cX6_unfilledCount : ByteArray := prog_1_method_21_code
def yX6_unfilledCount : MethodName := ⟨RX6, "unfilledCount", "(I)I"⟩
abbrev cX6_loadSimplex : ByteArray := prog_1_method_22_code
def yX6_loadSimplex : MethodName := ⟨RX6, "loadSimplex", "(I)I"⟩
abbrev cX6_loadSphere : ByteArray := prog_1_method_23_code
def yX6_loadSphere : MethodName := ⟨RX6, "loadSphere", "(I)I"⟩
abbrev cX6_save : ByteArray := prog_1_method_24_code
def yX6_save : MethodName := ⟨RX6, "save", "()I"⟩
abbrev cX6_product : ByteArray := prog_1_method_25_code
def yX6_product : MethodName := ⟨RX6, "product", "()I"⟩
abbrev cX6_removeAll : ByteArray := prog_1_method_26_code
def yX6_removeAll : MethodName := ⟨RX6, "removeAll", "()V"⟩
abbrev cX6_checkPlace : ByteArray := prog_1_method_27_code
def yX6_checkPlace : MethodName := ⟨RX6, "checkPlace", "(IIIIII)I"⟩
abbrev cX6_pointAt : ByteArray := prog_1_method_28_code
def yX6_pointAt : MethodName := ⟨RX6, "pointAt", "(III)I"⟩
abbrev cX6_joinEnds : ByteArray := prog_1_method_29_code
def yX6_joinEnds : MethodName := ⟨RX6, "joinEnds", "(I)Z"⟩
abbrev cX6_appendSubsets : ByteArray := prog_1_method_30_code
def yX6_appendSubsets : MethodName := ⟨RX6, "appendSubsets", "(II)V"⟩
abbrev cX6_setFacesOfSubset : ByteArray := prog_1_method_31_code
def yX6_setFacesOfSubset : MethodName := ⟨RX6, "setFacesOfSubset", "(II)V"⟩
abbrev cX6_pack : ByteArray := prog_1_method_32_code
def yX6_pack : MethodName := ⟨RX6, "pack", "(II)I"⟩
abbrev cX6_cellOf : ByteArray := prog_1_method_33_code
def yX6_cellOf : MethodName := ⟨RX6, "cellOf", "(I)I"⟩
abbrev cX6_maskOf : ByteArray := prog_1_method_34_code
def yX6_maskOf : MethodName := ⟨RX6, "maskOf", "(I)I"⟩
abbrev cX6_lowBits : ByteArray := prog_1_method_35_code
def yX6_lowBits : MethodName := ⟨RX6, "lowBits", "(I)I"⟩
abbrev cX6_numberAt : ByteArray := prog_1_method_36_code
def yX6_numberAt : MethodName := ⟨RX6, "numberAt", "(II)I"⟩
abbrev cX6_hasBit : ByteArray := prog_1_method_37_code
def yX6_hasBit : MethodName := ⟨RX6, "hasBit", "(II)Z"⟩
abbrev cX6_withoutBit : ByteArray := prog_1_method_38_code
def yX6_withoutBit : MethodName := ⟨RX6, "withoutBit", "(II)I"⟩
abbrev cX6_withClearBit : ByteArray := prog_1_method_39_code
def yX6_withClearBit : MethodName := ⟨RX6, "withClearBit", "(II)I"⟩
abbrev cX6_gatherBits : ByteArray := prog_1_method_40_code
def yX6_gatherBits : MethodName := ⟨RX6, "gatherBits", "(II)I"⟩
abbrev cX6_spreadBits : ByteArray := prog_1_method_41_code
def yX6_spreadBits : MethodName := ⟨RX6, "spreadBits", "(II)I"⟩
abbrev cX6_sign : ByteArray := prog_1_method_42_code
def yX6_sign : MethodName := ⟨RX6, "sign", "(I)I"⟩
abbrev cX6_gcd : ByteArray := prog_1_method_43_code
def yX6_gcd : MethodName := ⟨RX6, "gcd", "(JJ)J"⟩
abbrev cX6_binomial : ByteArray := prog_1_method_44_code
def yX6_binomial : MethodName := ⟨RX6, "binomial", "(II)I"⟩
def RX7 : String := "SimplicialSetModel"
def TX7 : u_T := fun k => match k with
  | 0 => ("SimplicialSetModel", "cells", "I", false)
  | 1 => ("SimplicialSetModel", "saved", "I", false)
  | 2 => ("SimplicialSetModel", "dimensionOf", "[I", true)
  | 3 => ("SimplicialSetModel", "faceOf", "[I", true)
  | 4 => ("SimplicialSetModel", "maskOf", "[I", true)
  | 5 => ("SimplicialSetModel", "draft", "I", false)
  | 6 => ("SimplicialSetModel", "draftSet", "I", false)
  | 7 => ("SimplicialSetModel", "draftCell", "[I", true)
  | 8 => ("SimplicialSetModel", "draftMask", "[I", true)
  | 9 => ("SimplicialSetModel", "gotCell", "I", false)
  | 10 => ("SimplicialSetModel", "gotMask", "I", false)
  | 11 => ("SimplicialSetModel", "partOf", "[I", true)
  | 12 => ("SimplicialSetModel", "rows", "I", false)
  | 13 => ("SimplicialSetModel", "columns", "I", false)
  | 14 => ("SimplicialSetModel", "matrix", "[I", true)
  | 15 => ("SimplicialSetModel", "work", "[J", true)
  | 16 => ("SimplicialSetModel", "isUsed", "[Z", true)
  | 17 => ("SimplicialSetModel", "pivotRow", "[I", true)
  | 18 => ("SimplicialSetModel", "pivotColumn", "[I", true)
  | 19 => ("SimplicialSetModel", "modulus", "J", false)
  | 20 => ("SimplicialSetModel", "factorOf", "[J", true)
  | 21 => ("SimplicialSetModel", "factors", "I", false)
  | 22 => ("SimplicialSetModel", "allRows", "I", false)
  | 23 => ("SimplicialSetModel", "allColumns", "I", false)
  | 24 => ("SimplicialSetModel", "isFilled", "[Z", true)
  | 25 => ("SimplicialSetModel", "subsetOf", "[I", true)
  | 26 => ("SimplicialSetModel", "pairs", "I", false)
  | 27 => ("SimplicialSetModel", "pairDimension", "[I", true)
  | 28 => ("SimplicialSetModel", "pairOne", "[I", true)
  | 29 => ("SimplicialSetModel", "pairOther", "[I", true)
  | 30 => ("SimplicialSetModel", "pairMask", "[I", true)
  | 31 => ("SimplicialSetModel", "pairOtherMask", "[I", true)
  | 32 => ("SimplicialSetModel", "newFace", "[I", true)
  | _ => ("SimplicialSetModel", "newMask", "[I", true)
def tyX7 : Nat → FieldType := fun k => match k with
  | 0 => .int
  | 1 => .int
  | 2 => .array .int
  | 3 => .array .int
  | 4 => .array .int
  | 5 => .int
  | 6 => .int
  | 7 => .array .int
  | 8 => .array .int
  | 9 => .int
  | 10 => .int
  | 11 => .array .int
  | 12 => .int
  | 13 => .int
  | 14 => .array .int
  | 15 => .array .long
  | 16 => .array .boolean
  | 17 => .array .int
  | 18 => .array .int
  | 19 => .long
  | 20 => .array .long
  | 21 => .int
  | 22 => .int
  | 23 => .int
  | 24 => .array .boolean
  | 25 => .array .int
  | 26 => .int
  | 27 => .array .int
  | 28 => .array .int
  | 29 => .array .int
  | 30 => .array .int
  | 31 => .array .int
  | 32 => .array .int
  | _ => .array .int
abbrev wsX70 : List Cond := u_ws RX7 TX7 34
theorem nmX7 : ∀ a, a < 34 → ∀ b, b < 34 → a ≠ b → (TX7 a).2.1 ≠ (TX7 b).2.1 := by decide +kernel
theorem tyX7_ok : ∀ k, k < 34 → parseFieldDescriptor (TX7 k).2.2.1 = some (tyX7 k) := by decide +kernel
abbrev cX7_init : ByteArray := prog_9_method_1_code
def yX7_init : MethodName := ⟨RX7, "<init>", "()V"⟩
abbrev cX7_bits : ByteArray := prog_9_method_2_code
def yX7_bits : MethodName := ⟨RX7, "bits", "(I)I"⟩
abbrev cX7_in : ByteArray := prog_9_method_3_code
def yX7_in : MethodName := ⟨RX7, "in", "(III)Z"⟩
abbrev cX7_full : ByteArray := prog_9_method_4_code
def yX7_full : MethodName := ⟨RX7, "full", "(I)I"⟩
abbrev cX7_noCell : ByteArray := prog_9_method_5_code
def yX7_noCell : MethodName := ⟨RX7, "noCell", "(I)Z"⟩
abbrev cX7_isMask : ByteArray := prog_9_method_6_code
def yX7_isMask : MethodName := ⟨RX7, "isMask", "(III)Z"⟩
abbrev cX7_numberAt : ByteArray := prog_9_method_7_code
def yX7_numberAt : MethodName := ⟨RX7, "numberAt", "(II)I"⟩
abbrev cX7_dropped : ByteArray := prog_9_method_8_code
def yX7_dropped : MethodName := ⟨RX7, "dropped", "(III)I"⟩
abbrev cX7_takeFace : ByteArray := prog_9_method_9_code
def yX7_takeFace : MethodName := ⟨RX7, "takeFace", "(IIIII)V"⟩
abbrev cX7_addCell : ByteArray := prog_9_method_10_code
def yX7_addCell : MethodName := ⟨RX7, "addCell", "(I)I"⟩
abbrev cX7_putFace : ByteArray := prog_9_method_11_code
def yX7_putFace : MethodName := ⟨RX7, "putFace", "(IIII)V"⟩
abbrev cX7_addVertex : ByteArray := prog_9_method_12_code
def yX7_addVertex : MethodName := ⟨RX7, "addVertex", "()I"⟩
abbrev cX7_beginCell : ByteArray := prog_9_method_13_code
def yX7_beginCell : MethodName := ⟨RX7, "beginCell", "(I)I"⟩
abbrev cX7_setFace : ByteArray := prog_9_method_14_code
def yX7_setFace : MethodName := ⟨RX7, "setFace", "(III)I"⟩
abbrev cX7_areFacesSo : ByteArray := prog_9_method_15_code
def yX7_areFacesSo : MethodName := ⟨RX7, "areFacesSo", "()Z"⟩
abbrev cX7_endCell : ByteArray := prog_9_method_16_code
def yX7_endCell : MethodName := ⟨RX7, "endCell", "()I"⟩
abbrev cX7_clear : ByteArray := prog_9_method_17_code
def yX7_clear : MethodName := ⟨RX7, "clear", "()I"⟩
abbrev cX7_countOf : ByteArray := prog_9_method_18_code
def yX7_countOf : MethodName := ⟨RX7, "countOf", "(I)I"⟩
abbrev cX7_cellCount : ByteArray := prog_9_method_19_code
def yX7_cellCount : MethodName := ⟨RX7, "cellCount", "(I)I"⟩
abbrev cX7_dimension : ByteArray := prog_9_method_20_code
def yX7_dimension : MethodName := ⟨RX7, "dimension", "(I)I"⟩
abbrev cX7_simplexBarred : ByteArray := prog_9_method_21_code
def yX7_simplexBarred : MethodName := ⟨RX7, "simplexBarred", "(IIIIII)I"⟩
abbrev cX7_faceCell : ByteArray := prog_9_method_22_code
def yX7_faceCell : MethodName := ⟨RX7, "faceCell", "(IIII)I"⟩
abbrev cX7_faceMask : ByteArray := prog_9_method_23_code
def yX7_faceMask : MethodName := ⟨RX7, "faceMask", "(IIII)I"⟩
abbrev cX7_degeneracyMask : ByteArray := prog_9_method_24_code
def yX7_degeneracyMask : MethodName := ⟨RX7, "degeneracyMask", "(IIII)I"⟩
abbrev cX7_vertex : ByteArray := prog_9_method_25_code
def yX7_vertex : MethodName := ⟨RX7, "vertex", "(IIII)I"⟩
abbrev cX7_choose : ByteArray := prog_9_method_26_code
def yX7_choose : MethodName := ⟨RX7, "choose", "(II)I"⟩
abbrev cX7_simplexCount : ByteArray := prog_9_method_27_code
def yX7_simplexCount : MethodName := ⟨RX7, "simplexCount", "(I)I"⟩
abbrev cX7_eulerCharacteristic : ByteArray := prog_9_method_28_code
def yX7_eulerCharacteristic : MethodName := ⟨RX7, "eulerCharacteristic", "()I"⟩
abbrev cX7_partCount : ByteArray := prog_9_method_29_code
def yX7_partCount : MethodName := ⟨RX7, "partCount", "()I"⟩
abbrev cX7_entryOf : ByteArray := prog_9_method_30_code
def yX7_entryOf : MethodName := ⟨RX7, "entryOf", "(II)I"⟩
abbrev cX7_incidence : ByteArray := prog_9_method_31_code
def yX7_incidence : MethodName := ⟨RX7, "incidence", "(II)I"⟩
abbrev cX7_layMatrix : ByteArray := prog_9_method_32_code
def yX7_layMatrix : MethodName := ⟨RX7, "layMatrix", "(I)V"⟩
abbrev cX7_rest : ByteArray := prog_9_method_33_code
def yX7_rest : MethodName := ⟨RX7, "rest", "(JJ)J"⟩
abbrev cX7_inverse : ByteArray := prog_9_method_34_code
def yX7_inverse : MethodName := ⟨RX7, "inverse", "(JJ)J"⟩
abbrev cX7_clearColumn : ByteArray := prog_9_method_35_code
def yX7_clearColumn : MethodName := ⟨RX7, "clearColumn", "(IIJ)V"⟩
abbrev cX7_rankBy : ByteArray := prog_9_method_36_code
def yX7_rankBy : MethodName := ⟨RX7, "rankBy", "(J)I"⟩
abbrev cX7_rankOf : ByteArray := prog_9_method_37_code
def yX7_rankOf : MethodName := ⟨RX7, "rankOf", "(I)I"⟩
abbrev cX7_betti : ByteArray := prog_9_method_38_code
def yX7_betti : MethodName := ⟨RX7, "betti", "(I)I"⟩
abbrev cX7_minorBy : ByteArray := prog_9_method_39_code
def yX7_minorBy : MethodName := ⟨RX7, "minorBy", "(IJ)J"⟩
abbrev cX7_minorOf : ByteArray := prog_9_method_40_code
def yX7_minorOf : MethodName := ⟨RX7, "minorOf", "(I)J"⟩
abbrev cX7_product64 : ByteArray := prog_9_method_41_code
def yX7_product64 : MethodName := ⟨RX7, "product64", "(JJ)J"⟩
abbrev cX7_common : ByteArray := prog_9_method_42_code
def yX7_common : MethodName := ⟨RX7, "common", "(JJ)J"⟩
abbrev cX7_takesLeast : ByteArray := prog_9_method_43_code
def yX7_takesLeast : MethodName := ⟨RX7, "takesLeast", "(I)Z"⟩
abbrev cX7_addRow : ByteArray := prog_9_method_44_code
def yX7_addRow : MethodName := ⟨RX7, "addRow", "(IIJ)V"⟩
abbrev cX7_addColumn : ByteArray := prog_9_method_45_code
def yX7_addColumn : MethodName := ⟨RX7, "addColumn", "(IIJ)V"⟩
abbrev cX7_clearsCross : ByteArray := prog_9_method_46_code
def yX7_clearsCross : MethodName := ⟨RX7, "clearsCross", "(I)Z"⟩
abbrev cX7_oddRow : ByteArray := prog_9_method_47_code
def yX7_oddRow : MethodName := ⟨RX7, "oddRow", "(I)I"⟩
abbrev cX7_factorAt : ByteArray := prog_9_method_48_code
def yX7_factorAt : MethodName := ⟨RX7, "factorAt", "(I)J"⟩
abbrev cX7_layTorsion : ByteArray := prog_9_method_49_code
def yX7_layTorsion : MethodName := ⟨RX7, "layTorsion", "(I)V"⟩
abbrev cX7_torsionCount : ByteArray := prog_9_method_50_code
def yX7_torsionCount : MethodName := ⟨RX7, "torsionCount", "(I)I"⟩
abbrev cX7_torsion : ByteArray := prog_9_method_51_code
def yX7_torsion : MethodName := ⟨RX7, "torsion", "(II)J"⟩
abbrev cX7_vertexOf : ByteArray := prog_9_method_52_code
def yX7_vertexOf : MethodName := ⟨RX7, "vertexOf", "(II)I"⟩
abbrev cX7_layFilled : ByteArray := prog_9_method_53_code
def yX7_layFilled : MethodName := ⟨RX7, "layFilled", "(II)V"⟩
abbrev cX7_hornsAt : ByteArray := prog_9_method_54_code
def yX7_hornsAt : MethodName := ⟨RX7, "hornsAt", "(IZ)I"⟩
abbrev cX7_hornCount : ByteArray := prog_9_method_55_code
def yX7_hornCount : MethodName := ⟨RX7, "hornCount", "(I)I"⟩
abbrev cX7_unfilledCount : ByteArray := prog_9_method_56_code
def yX7_unfilledCount : MethodName := ⟨RX7, "unfilledCount", "(I)I"⟩
abbrev cX7_cellBy : ByteArray := prog_9_method_57_code
def yX7_cellBy : MethodName := ⟨RX7, "cellBy", "(I)I"⟩
abbrev cX7_addSubset : ByteArray := prog_9_method_58_code
def yX7_addSubset : MethodName := ⟨RX7, "addSubset", "(III)V"⟩
abbrev cX7_loadSimplex : ByteArray := prog_9_method_59_code
def yX7_loadSimplex : MethodName := ⟨RX7, "loadSimplex", "(I)I"⟩
abbrev cX7_loadSphere : ByteArray := prog_9_method_60_code
def yX7_loadSphere : MethodName := ⟨RX7, "loadSphere", "(I)I"⟩
abbrev cX7_save : ByteArray := prog_9_method_61_code
def yX7_save : MethodName := ⟨RX7, "save", "()I"⟩
abbrev cX7_addPair : ByteArray := prog_9_method_62_code
def yX7_addPair : MethodName := ⟨RX7, "addPair", "(IIIII)V"⟩
abbrev cX7_layPairs : ByteArray := prog_9_method_63_code
def yX7_layPairs : MethodName := ⟨RX7, "layPairs", "()V"⟩
abbrev cX7_squeezed : ByteArray := prog_9_method_64_code
def yX7_squeezed : MethodName := ⟨RX7, "squeezed", "(II)I"⟩
abbrev cX7_pairBy : ByteArray := prog_9_method_65_code
def yX7_pairBy : MethodName := ⟨RX7, "pairBy", "(IIII)I"⟩
abbrev cX7_greater : ByteArray := prog_9_method_66_code
def yX7_greater : MethodName := ⟨RX7, "greater", "(II)I"⟩
abbrev cX7_layPairFaces : ByteArray := prog_9_method_67_code
def yX7_layPairFaces : MethodName := ⟨RX7, "layPairFaces", "(I)V"⟩
abbrev cX7_product : ByteArray := prog_9_method_68_code
def yX7_product : MethodName := ⟨RX7, "product", "()I"⟩
def RJx145de : String := "java/io/Serializable"
def TJx145de : u_T := fun k => match k with
  | _ => ("", "", "", false)
def tyJx145de : Nat → FieldType := fun k => match k with
  | _ => .int
abbrev wsJx145de0 : List Cond := u_ws RJx145de TJx145de 0
theorem nmJx145de : ∀ a, a < 0 → ∀ b, b < 0 → a ≠ b → (TJx145de a).2.1 ≠ (TJx145de b).2.1 := by decide +kernel
theorem tyJx145de_ok : ∀ k, k < 0 → parseFieldDescriptor (TJx145de k).2.2.1 = some (tyJx145de k) := by decide +kernel
def RJxb160c : String := "java/lang/Comparable"
def TJxb160c : u_T := fun k => match k with
  | _ => ("", "", "", false)
def tyJxb160c : Nat → FieldType := fun k => match k with
  | _ => .int
abbrev wsJxb160c0 : List Cond := u_ws RJxb160c TJxb160c 0
theorem nmJxb160c : ∀ a, a < 0 → ∀ b, b < 0 → a ≠ b → (TJxb160c a).2.1 ≠ (TJxb160c b).2.1 := by decide +kernel
theorem tyJxb160c_ok : ∀ k, k < 0 → parseFieldDescriptor (TJxb160c k).2.2.1 = some (tyJxb160c k) := by decide +kernel
def RJ6 : String := "java/lang/Integer"
def TJ6 : u_T := fun k => match k with
  | _ => ("", "", "", false)
def tyJ6 : Nat → FieldType := fun k => match k with
  | _ => .int
abbrev wsJ60 : List Cond := u_ws RJ6 TJ6 0
theorem nmJ6 : ∀ a, a < 0 → ∀ b, b < 0 → a ≠ b → (TJ6 a).2.1 ≠ (TJ6 b).2.1 := by decide +kernel
theorem tyJ6_ok : ∀ k, k < 0 → parseFieldDescriptor (TJ6 k).2.2.1 = some (tyJ6 k) := by decide +kernel
abbrev cJ6_highestOneBit_0f7a4 : ByteArray := prog_10_method_45_code
def yJ6_highestOneBit_0f7a4 : MethodName := ⟨RJ6, "highestOneBit", "(I)I"⟩
abbrev cJ6_numberOfLeadingZeros_0f7a4 : ByteArray := prog_10_method_47_code
def yJ6_numberOfLeadingZeros_0f7a4 : MethodName := ⟨RJ6, "numberOfLeadingZeros", "(I)I"⟩
abbrev cJ6_bitCount_0f7a4 : ByteArray := prog_10_method_49_code
def yJ6_bitCount_0f7a4 : MethodName := ⟨RJ6, "bitCount", "(I)I"⟩
def RJ9 : String := "java/lang/Math"
def TJ9 : u_T := fun k => match k with
  | _ => ("", "", "", false)
def tyJ9 : Nat → FieldType := fun k => match k with
  | _ => .int
abbrev wsJ90 : List Cond := u_ws RJ9 TJ9 0
theorem nmJ9 : ∀ a, a < 0 → ∀ b, b < 0 → a ≠ b → (TJ9 a).2.1 ≠ (TJ9 b).2.1 := by decide +kernel
theorem tyJ9_ok : ∀ k, k < 0 → parseFieldDescriptor (TJ9 k).2.2.1 = some (tyJ9 k) := by decide +kernel
abbrev cJ9_max_7cf53 : ByteArray := prog_11_method_65_code
def yJ9_max_7cf53 : MethodName := ⟨RJ9, "max", "(II)I"⟩
abbrev cJ9_max_f86c9 : ByteArray := prog_11_method_66_code
def yJ9_max_f86c9 : MethodName := ⟨RJ9, "max", "(JJ)J"⟩
abbrev cJ9_min_7cf53 : ByteArray := prog_11_method_69_code
def yJ9_min_7cf53 : MethodName := ⟨RJ9, "min", "(II)I"⟩
abbrev cJ9_min_f86c9 : ByteArray := prog_11_method_70_code
def yJ9_min_f86c9 : MethodName := ⟨RJ9, "min", "(JJ)J"⟩
def RJxd2413 : String := "java/lang/Number"
def TJxd2413 : u_T := fun k => match k with
  | _ => ("", "", "", false)
def tyJxd2413 : Nat → FieldType := fun k => match k with
  | _ => .int
abbrev wsJxd24130 : List Cond := u_ws RJxd2413 TJxd2413 0
theorem nmJxd2413 : ∀ a, a < 0 → ∀ b, b < 0 → a ≠ b → (TJxd2413 a).2.1 ≠ (TJxd2413 b).2.1 := by decide +kernel
theorem tyJxd2413_ok : ∀ k, k < 0 → parseFieldDescriptor (TJxd2413 k).2.2.1 = some (tyJxd2413 k) := by decide +kernel
def RJ10 : String := "java/lang/System"
def TJ10 : u_T := fun k => match k with
  | _ => ("", "", "", false)
def tyJ10 : Nat → FieldType := fun k => match k with
  | _ => .int
abbrev wsJ100 : List Cond := u_ws RJ10 TJ10 0
theorem nmJ10 : ∀ a, a < 0 → ∀ b, b < 0 → a ≠ b → (TJ10 a).2.1 ≠ (TJ10 b).2.1 := by decide +kernel
theorem tyJ10_ok : ∀ k, k < 0 → parseFieldDescriptor (TJ10 k).2.2.1 = some (tyJ10 k) := by decide +kernel
def RJxfd54e : String := "java/lang/constant/Constable"
def TJxfd54e : u_T := fun k => match k with
  | _ => ("", "", "", false)
def tyJxfd54e : Nat → FieldType := fun k => match k with
  | _ => .int
abbrev wsJxfd54e0 : List Cond := u_ws RJxfd54e TJxfd54e 0
theorem nmJxfd54e : ∀ a, a < 0 → ∀ b, b < 0 → a ≠ b → (TJxfd54e a).2.1 ≠ (TJxfd54e b).2.1 := by decide +kernel
theorem tyJxfd54e_ok : ∀ k, k < 0 → parseFieldDescriptor (TJxfd54e k).2.2.1 = some (tyJxfd54e k) := by decide +kernel
def RJx3cf43 : String := "java/lang/constant/ConstantDesc"
def TJx3cf43 : u_T := fun k => match k with
  | _ => ("", "", "", false)
def tyJx3cf43 : Nat → FieldType := fun k => match k with
  | _ => .int
abbrev wsJx3cf430 : List Cond := u_ws RJx3cf43 TJx3cf43 0
theorem nmJx3cf43 : ∀ a, a < 0 → ∀ b, b < 0 → a ≠ b → (TJx3cf43 a).2.1 ≠ (TJx3cf43 b).2.1 := by decide +kernel
theorem tyJx3cf43_ok : ∀ k, k < 0 → parseFieldDescriptor (TJx3cf43 k).2.2.1 = some (tyJx3cf43 k) := by decide +kernel
def RJ7 : String := "java/util/Arrays"
def TJ7 : u_T := fun k => match k with
  | _ => ("", "", "", false)
def tyJ7 : Nat → FieldType := fun k => match k with
  | _ => .int
abbrev wsJ70 : List Cond := u_ws RJ7 TJ7 0
theorem nmJ7 : ∀ a, a < 0 → ∀ b, b < 0 → a ≠ b → (TJ7 a).2.1 ≠ (TJ7 b).2.1 := by decide +kernel
theorem tyJ7_ok : ∀ k, k < 0 → parseFieldDescriptor (TJ7 k).2.2.1 = some (tyJ7 k) := by decide +kernel
abbrev cJ7_fill_d0a16 : ByteArray := prog_14_method_101_code
def yJ7_fill_d0a16 : MethodName := ⟨RJ7, "fill", "([JJ)V"⟩
abbrev cJ7_fill_53178 : ByteArray := prog_14_method_103_code
def yJ7_fill_53178 : MethodName := ⟨RJ7, "fill", "([II)V"⟩
def RL : String := "SimplicialSetLaw"
abbrev cL_law : ByteArray := code
def yL_law : MethodName := ⟨RL, "law", "([I)Z"⟩
abbrev vwCl : List vw_C := [(RX0, TX0, 3), (RX1, TX1, 2), (RX2, TX2, 4), (RX3, TX3, 3), (RX4, TX4, 5), (RX5, TX5, 5), (RX6, TX6, 10), (RX7, TX7, 34)]
end
section
def shp : List (Nat × Nat) := [(0, 6), (0, 0), (1, 48), (1, 240), (0, 0), (1, 48), (1, 240), (0, 0), (1, 48), (1, 240), (0, 1), (1, 5), (0, 4), (1, 48), (1, 48), (1, 48), (1, 5), (0, 3), (2, 48), (1, 48), (1, 48), (0, 2), (0, 5), (2, 48), (2, 576), (1, 48), (1, 48), (1, 5), (1, 32), (0, 7), (1, 96), (1, 480), (1, 480), (1, 5), (1, 5), (1, 48), (1, 2304), (2, 2304), (3, 48), (1, 48), (1, 48), (2, 48), (3, 2304), (1, 48), (1, 48), (1, 48), (1, 48), (1, 48), (1, 48), (1, 240), (1, 240)]
def fkL : List (List Nat) := [[2, 2, 0], [2, 0], [2, 2, 0, 1], [2, 2, 2], [2, 2, 2, 2, 0], [2, 2, 0, 0, 1], [2, 2, 2, 2, 2, 2, 2, 2, 2, 2], [0, 0, 2, 2, 2, 0, 0, 2, 2, 0, 0, 2, 0, 0, 2, 2, 2, 2, 2, 1, 2, 0, 0, 0, 2, 2, 0, 2, 2, 2, 2, 2, 2, 2]]
def pfL : List (List Nat) := [[0, 0, 7, 10, 12, 17, 21, 26, 27, 28], [2, 3, 0], [], [], [5, 6, 0], [], [], [8, 9, 0], [], [], [11, 0], [], [13, 14, 15, 16, 0], [], [], [], [], [18, 19, 20], [], [], [], [22, 23, 0, 0], [24, 25, 0, 0, 0], [], [], [], [], [], [], [0, 0, 30, 31, 32, 0, 0, 33, 34, 0, 0, 35, 0, 0, 36, 37, 38, 39, 40, 0, 41, 0, 0, 0, 42, 43, 0, 44, 45, 46, 47, 48, 49, 50], [], [], [], [], [], [], [], [], [], [], [], [], [], [], [], [], [], [], [], [], []]
def RR : Nat → String := fun k => match k with
  | 0 => RX0
  | 1 => RX1
  | 2 => RX2
  | 3 => RX3
  | 4 => RX4
  | 5 => RX5
  | 6 => RX6
  | 7 => RX7
  | 8 => RJ6
  | 9 => RJ9
  | 10 => RJ7
  | _ => RL
def TT : Nat → u_T := fun k => match k with
  | 0 => TX0
  | 1 => TX1
  | 2 => TX2
  | 3 => TX3
  | 4 => TX4
  | 5 => TX5
  | 6 => TX6
  | _ => TX7
def tyT : Nat → Nat → FieldType := fun k => match k with
  | 0 => tyX0
  | 1 => tyX1
  | 2 => tyX2
  | 3 => tyX3
  | 4 => tyX4
  | 5 => tyX5
  | 6 => tyX6
  | _ => tyX7
def NN : List Nat := [3, 2, 4, 3, 5, 5, 10, 34]
/-- the tables words that stay good in a callee -/
def gt : List Cond := lw_tbl.filter goodWord
theorem gt_at (i : Nat) {w : Cond} (h : lw_tbl[i]? = some w) (hg : goodWord w = true) : w ∈ gt := List.mem_filter.mpr ⟨List.mem_of_getElem? h, hg⟩
theorem inX0 : ∀ w ∈ wsX00, w ∈ gt := by
  have h : wsX00 = [91, 93, 95].filterMap (fun i => lw_tbl[i]?) := by decide +kernel
  have g : wsX00.all goodWord = true := by decide +kernel
  intro w hw
  have hg := List.all_eq_true.mp g w hw
  rw [h] at hw
  obtain ⟨i, -, hi⟩ := List.mem_filterMap.mp hw
  exact gt_at i hi hg
theorem inX1 : ∀ w ∈ wsX10, w ∈ gt := by
  have h : wsX10 = [109, 111].filterMap (fun i => lw_tbl[i]?) := by decide +kernel
  have g : wsX10.all goodWord = true := by decide +kernel
  intro w hw
  have hg := List.all_eq_true.mp g w hw
  rw [h] at hw
  obtain ⟨i, -, hi⟩ := List.mem_filterMap.mp hw
  exact gt_at i hi hg
theorem inX2 : ∀ w ∈ wsX20, w ∈ gt := by
  have h : wsX20 = [189, 191, 193, 195].filterMap (fun i => lw_tbl[i]?) := by decide +kernel
  have g : wsX20.all goodWord = true := by decide +kernel
  intro w hw
  have hg := List.all_eq_true.mp g w hw
  rw [h] at hw
  obtain ⟨i, -, hi⟩ := List.mem_filterMap.mp hw
  exact gt_at i hi hg
theorem inX3 : ∀ w ∈ wsX30, w ∈ gt := by
  have h : wsX30 = [145, 147, 149].filterMap (fun i => lw_tbl[i]?) := by decide +kernel
  have g : wsX30.all goodWord = true := by decide +kernel
  intro w hw
  have hg := List.all_eq_true.mp g w hw
  rw [h] at hw
  obtain ⟨i, -, hi⟩ := List.mem_filterMap.mp hw
  exact gt_at i hi hg
theorem inX4 : ∀ w ∈ wsX40, w ∈ gt := by
  have h : wsX40 = [125, 127, 129, 131, 133].filterMap (fun i => lw_tbl[i]?) := by decide +kernel
  have g : wsX40.all goodWord = true := by decide +kernel
  intro w hw
  have hg := List.all_eq_true.mp g w hw
  rw [h] at hw
  obtain ⟨i, -, hi⟩ := List.mem_filterMap.mp hw
  exact gt_at i hi hg
theorem inX5 : ∀ w ∈ wsX50, w ∈ gt := by
  have h : wsX50 = [172, 174, 176, 178, 180].filterMap (fun i => lw_tbl[i]?) := by decide +kernel
  have g : wsX50.all goodWord = true := by decide +kernel
  intro w hw
  have hg := List.all_eq_true.mp g w hw
  rw [h] at hw
  obtain ⟨i, -, hi⟩ := List.mem_filterMap.mp hw
  exact gt_at i hi hg
theorem inX6 : ∀ w ∈ wsX60, w ∈ gt := by
  have h : wsX60 = [208, 210, 212, 214, 216, 218, 220, 222, 224, 226].filterMap (fun i => lw_tbl[i]?) := by decide +kernel
  have g : wsX60.all goodWord = true := by decide +kernel
  intro w hw
  have hg := List.all_eq_true.mp g w hw
  rw [h] at hw
  obtain ⟨i, -, hi⟩ := List.mem_filterMap.mp hw
  exact gt_at i hi hg
theorem inX7 : ∀ w ∈ wsX70, w ∈ gt := by
  have h : wsX70 = [692, 694, 696, 698, 700, 702, 704, 706, 708, 710, 712, 714, 716, 718, 720, 722, 724, 726, 728, 730, 732, 734, 736, 738, 740, 742, 744, 746, 748, 750, 752, 754, 756, 758].filterMap (fun i => lw_tbl[i]?) := by decide +kernel
  have g : wsX70.all goodWord = true := by decide +kernel
  intro w hw
  have hg := List.all_eq_true.mp g w hw
  rw [h] at hw
  obtain ⟨i, -, hi⟩ := List.mem_filterMap.mp hw
  exact gt_at i hi hg
def flT : List (Nat × Nat × Nat × Nat) := [(0, 9, 0, 0), (5, 51, 0, 0), (3, 63, 0, 0), (6, 111, 0, 0), (0, 15, 0, 1), (6, 60, 0, 2), (0, 18, 0, 2), (4, 28, 0, 2), (5, 46, 0, 2), (3, 28, 0, 2), (1, 9, 1, 0), (6, 87, 1, 0), (1, 15, 1, 1), (6, 76, 1, 1), (4, 9, 4, 0), (4, 15, 4, 1), (4, 18, 4, 2), (4, 21, 4, 3), (4, 24, 4, 4), (3, 9, 3, 0), (3, 15, 3, 1), (3, 19, 3, 2), (5, 11, 5, 0), (5, 15, 5, 1), (5, 33, 5, 2), (2, 39, 5, 2), (5, 37, 5, 3), (2, 42, 5, 3), (5, 19, 5, 4), (2, 12, 2, 0), (2, 18, 2, 1), (6, 165, 2, 1), (2, 31, 2, 2), (6, 154, 2, 2), (2, 35, 2, 3), (6, 10, 6, 0), (6, 16, 6, 1), (6, 19, 6, 2), (6, 25, 6, 3), (6, 32, 6, 4), (6, 39, 6, 5), (6, 46, 6, 6), (6, 50, 6, 7), (6, 54, 6, 8), (6, 57, 6, 9), (7, 75, 7, 0), (7, 261, 7, 1), (7, 7, 7, 2), (7, 13, 7, 3), (7, 16, 7, 4), (7, 107, 7, 5), (7, 110, 7, 6), (7, 19, 7, 7), (7, 22, 7, 8), (7, 90, 7, 9), (7, 97, 7, 10), (7, 25, 7, 11), (7, 145, 7, 12), (7, 148, 7, 13), (7, 28, 7, 14), (7, 31, 7, 15), (7, 35, 7, 16), (7, 39, 7, 17), (7, 42, 7, 18), (7, 193, 7, 19), (7, 45, 7, 20), (7, 224, 7, 21), (7, 197, 7, 22), (7, 200, 7, 23), (7, 48, 7, 24), (7, 51, 7, 25), (7, 264, 7, 26), (7, 54, 7, 27), (7, 57, 7, 28), (7, 60, 7, 29), (7, 63, 7, 30), (7, 66, 7, 31), (7, 69, 7, 32), (7, 72, 7, 33)]
def ctI : List (Nat × Nat × Int) := [(8, 265, 1431655765), (8, 266, 858993459), (8, 267, 252645135), (8, 127, -2147483648), (8, 264, 65536)]
def ctL : List (Nat × Nat × Int) := [(2, 22, 35184372088777), (5, 73, 65535), (2, 81, 35184372088775), (6, 161, -102), (6, 163, -104), (6, 169, -109), (7, 168, 2147483647), (7, 151, 2), (7, 174, 2147483629), (7, 183, 18), (7, 185, 2305842987738857481), (7, 187, 4611685975477714963), (7, 189, 64), (7, 191, 63), (7, 237, -102), (7, 239, -104), (7, 241, -109)]
def flW (q : Nat × Nat × Nat × Nat) : Cond := .fieldLink (RR q.1) q.2.1 (TT q.2.2.1 q.2.2.2).1 (TT q.2.2.1 q.2.2.2).2.1 (TT q.2.2.1 q.2.2.2).2.2.1
set_option maxRecDepth 20000 in
theorem flT_ok : ∀ q ∈ flT, flW q ∈ gt := by
  have h : flT.map flW = [81, 82, 83, 84, 85, 86, 87, 88, 89, 90, 105, 106, 107, 108, 120, 121, 122, 123, 124, 142, 143, 144, 165, 166, 167, 168, 169, 170, 171, 183, 184, 185, 186, 187, 188, 198, 199, 200, 201, 202, 203, 204, 205, 206, 207, 658, 659, 660, 661, 662, 663, 664, 665, 666, 667, 668, 669, 670, 671, 672, 673, 674, 675, 676, 677, 678, 679, 680, 681, 682, 683, 684, 685, 686, 687, 688, 689, 690, 691].filterMap (fun i => lw_tbl[i]?) := by decide +kernel
  have g : (flT.map flW).all goodWord = true := by decide +kernel
  intro q hq
  have hm : flW q ∈ flT.map flW := List.mem_map_of_mem hq
  have hg := List.all_eq_true.mp g _ hm
  rw [h] at hm
  obtain ⟨i, -, hi⟩ := List.mem_filterMap.mp hm
  exact gt_at i hi hg
theorem flT_lt : ∀ q ∈ flT, q.2.2.1 < 8 ∧ q.2.2.2 < NN.getD q.2.2.1 0 := by decide +kernel
def ctIW (q : Nat × Nat × Int) : Cond := .constant (RR q.1) q.2.1 (Int32.ofInt q.2.2)
theorem ctI_ok : ∀ q ∈ ctI, ctIW q ∈ gt := by
  have h : ctI.map ctIW = [273, 274, 275, 593, 597].filterMap (fun i => lw_tbl[i]?) := by decide +kernel
  have g : (ctI.map ctIW).all goodWord = true := by decide +kernel
  intro q hq
  have hm : ctIW q ∈ ctI.map ctIW := List.mem_map_of_mem hq
  have hg := List.all_eq_true.mp g _ hm
  rw [h] at hm
  obtain ⟨i, -, hi⟩ := List.mem_filterMap.mp hm
  exact gt_at i hi hg
def ctLW (q : Nat × Nat × Int) : Cond := .constantLong (RR q.1) q.2.1 (Int64.ofInt q.2.2)
theorem ctL_ok : ∀ q ∈ ctL, ctLW q ∈ gt := by
  have h : ctL.map ctLW = [411, 462, 467, 539, 540, 541, 888, 903, 904, 921, 922, 923, 944, 945, 961, 962, 963].filterMap (fun i => lw_tbl[i]?) := by decide +kernel
  have g : (ctL.map ctLW).all goodWord = true := by decide +kernel
  intro q hq
  have hm : ctLW q ∈ ctL.map ctLW := List.mem_map_of_mem hq
  have hg := List.all_eq_true.mp g _ hm
  rw [h] at hm
  obtain ⟨i, -, hi⟩ := List.mem_filterMap.mp hm
  exact gt_at i hi hg
theorem cl_at : ∀ ci, ci < 8 → vwCl[ci]? = some (RR ci, TT ci, NN.getD ci 0) := fun ci h => by
  match ci, h with
  | 0, _ => rfl
  | 1, _ => rfl
  | 2, _ => rfl
  | 3, _ => rfl
  | 4, _ => rfl
  | 5, _ => rfl
  | 6, _ => rfl
  | 7, _ => rfl
  | n + 8, h => omega
theorem cl_in : ∀ ci, ci < 8 → ∀ w ∈ u_ws (RR ci) (TT ci) (NN.getD ci 0), w ∈ gt := fun ci h => by
  match ci, h with
  | 0, _ => exact inX0
  | 1, _ => exact inX1
  | 2, _ => exact inX2
  | 3, _ => exact inX3
  | 4, _ => exact inX4
  | 5, _ => exact inX5
  | 6, _ => exact inX6
  | 7, _ => exact inX7
  | n + 8, h => omega
theorem cl_ty : ∀ ci, ci < 8 → ∀ k, k < NN.getD ci 0 → parseFieldDescriptor (TT ci k).2.2.1 = some (tyT ci k) := fun ci h => by
  match ci, h with
  | 0, _ => exact tyX0_ok
  | 1, _ => exact tyX1_ok
  | 2, _ => exact tyX2_ok
  | 3, _ => exact tyX3_ok
  | 4, _ => exact tyX4_ok
  | 5, _ => exact tyX5_ok
  | 6, _ => exact tyX6_ok
  | 7, _ => exact tyX7_ok
  | n + 8, h => omega
theorem cl_nm : ∀ ci, ci < 8 → ∀ a, a < NN.getD ci 0 → ∀ b, b < NN.getD ci 0 → a ≠ b → (TT ci a).2.1 ≠ (TT ci b).2.1 := fun ci h => by
  match ci, h with
  | 0, _ => exact nmX0
  | 1, _ => exact nmX1
  | 2, _ => exact nmX2
  | 3, _ => exact nmX3
  | 4, _ => exact nmX4
  | 5, _ => exact nmX5
  | 6, _ => exact nmX6
  | 7, _ => exact nmX7
  | n + 8, h => omega
theorem cl_len : ∀ ci, ci < 8 → (fkL.getD ci []).length = NN.getD ci 0 := by decide +kernel
theorem cl_kd : ∀ ci, ci < 8 → ∀ k, k < NN.getD ci 0 → ((fkL.getD ci []).getD k 9 = 0 → tyT ci k = .int) ∧ ((fkL.getD ci []).getD k 9 = 1 → tyT ci k = .long) := by decide +kernel
end
section
/-! memory of the 51 cells, by places: ints, longs, the two references that change -/
abbrev Mm : Type := (Nat → Nat → Int32) × (Nat → Nat → Int64) × (Nat → Nat)
def ss_i (μ : Mm) (p k : Nat) : Int32 := μ.1 p k
def ss_l (μ : Mm) (p k : Nat) : Int64 := μ.2.1 p k
def ss_r (μ : Mm) (p k : Nat) : Nat := if p = 0 ∧ k < 2 then μ.2.2 k else (pfL.getD p []).getD k 0
def up2 {α : Type} (f : Nat → Nat → α) (p k : Nat) (v : α) : Nat → Nat → α := fun a b => if a = p ∧ b = k then v else f a b
def ss_wi (μ : Mm) (p k : Nat) (v : Int32) : Mm := (up2 μ.1 p k v, μ.2.1, μ.2.2)
def ss_wl (μ : Mm) (p k : Nat) (v : Int64) : Mm := (μ.1, up2 μ.2.1 p k v, μ.2.2)
def ss_wr (μ : Mm) (k : Nat) (v : Nat) : Mm := (μ.1, μ.2.1, fun j => if j = k then v else μ.2.2 j)
def ss_cp (μ : Mm) (q sp p dp n : Nat) : Mm := (fun a b => if a = p ∧ dp ≤ b ∧ b < dp + n then μ.1 q (sp + (b - dp)) else μ.1 a b, μ.2.1, μ.2.2)
/-- the machine's side: class numbers, slots, addresses of the places, array classes -/
abbrev Wd : Type := (Nat → ClassId) × (Nat → Nat → Nat) × (Nat → Nat) × ClassId × ClassId × ClassId
abbrev wD (ω : Wd) : va_G := (ω.1, ω.2.1)
abbrev wa (ω : Wd) : Nat → Nat := ω.2.2.1
def tys3 (ω : Wd) : List (ClassId × FieldType) := [(ω.2.2.2.1, .int), (ω.2.2.2.2.1, .long), (ω.2.2.2.2.2, .boolean)]
def wA (ω : Wd) : Nat → Prop := fun q => ∃ k, k < 51 ∧ q = wa ω k
def wAp (ω : Wd) : Prop := ∀ i j, i < 51 → j < 51 → wa ω i = wa ω j → i = j
def shA (p : Nat) : Nat × Nat := shp.getD p (9, 0)
def fV (ω : Wd) (μ : Mm) (p k d : Nat) : Value := match d with
  | 0 => .int (ss_i μ p k)
  | 1 => .long (ss_l μ p k)
  | _ => .ref (wa ω (ss_r μ p k))
def fsV (ω : Wd) (μ : Mm) (p ci : Nat) : List Value := (List.range (fkL.getD ci []).length).map (fun k => fV ω μ p k ((fkL.getD ci []).getD k 0))
def ceE (ω : Wd) (μ : Mm) (p : Nat) (sh : Nat × Nat) : va_E := match sh.1 with
  | 0 => .inr (sh.2, fsV ω μ p sh.2)
  | 1 => .inl (ω.2.2.2.1, sh.2, .inl (μ.1 p))
  | 2 => .inl (ω.2.2.2.2.1, sh.2, .inr (.inl (μ.2.1 p)))
  | _ => .inl (ω.2.2.2.2.2, sh.2, .inl (μ.1 p))
def cW (ω : Wd) (μ : Mm) : va_W := (List.range 51).map (fun p => (wa ω p, ceE ω μ p (shA p)))
theorem cW_at {ω : Wd} {μ : Mm} {p : Nat} (h : p < 51) : (cW ω μ)[p]? = some (wa ω p, ceE ω μ p (shA p)) := by
  simp [cW, h]
theorem cW_len {ω : Wd} {μ : Mm} : (cW ω μ).length = 51 := by simp [cW]
theorem cW_D {ω : Wd} {μ : Mm} (h : wAp ω) : va_D (wA ω) (cW ω μ) := by
  have lt : ∀ (i : Nat) (x : Nat × va_E), (cW ω μ)[i]? = some x → i < 51 ∧ x.1 = wa ω i := by
    intro i x hx
    have hi : i < 51 := by
      have := (List.getElem?_eq_some_iff.mp hx).1
      rwa [cW_len] at this
    rw [cW_at hi] at hx
    cases hx
    exact ⟨hi, rfl⟩
  refine ⟨fun i j x y hx hy hxy => ?_, fun k q hq => ⟨k, (lt k q hq).1, (lt k q hq).2⟩⟩
  obtain ⟨a1, a2⟩ := lt i x hx
  obtain ⟨b1, b2⟩ := lt j y hy
  exact h i j a1 b1 (by rw [← a2, ← b2, hxy])
theorem cW_set {ω : Wd} {μ μ' : Mm} {p : Nat} {e : va_E} (hp : p < 51) (he : ceE ω μ' p (shA p) = e) (ho : ∀ q, q ≠ p → ceE ω μ' q (shA q) = ceE ω μ q (shA q)) : (cW ω μ).set p (wa ω p, e) = cW ω μ' := by
  apply List.ext_getElem?
  intro i
  by_cases hi : i < 51
  · rw [cW_at hi]
    by_cases hip : i = p
    · subst hip
      rw [List.getElem?_set_self (by rw [cW_len]; exact hi), he]
    · rw [List.getElem?_set_ne (Ne.symm hip), cW_at hi, ho i hip]
  · rw [List.getElem?_eq_none (by rw [List.length_set, cW_len]; omega), List.getElem?_eq_none (by rw [cW_len]; omega)]
theorem fsV_at {ω : Wd} {μ : Mm} {p ci k : Nat} (h : k < (fkL.getD ci []).length) : (fsV ω μ p ci)[k]? = some (fV ω μ p k ((fkL.getD ci []).getD k 0)) := by
  simp only [fsV, List.getElem?_map, List.getElem?_range h, Option.map_some]
theorem fsV_len {ω : Wd} {μ : Mm} {p ci : Nat} : (fsV ω μ p ci).length = (fkL.getD ci []).length := by simp [fsV]
theorem ceE_o {ω : Wd} {μ : Mm} {p ci : Nat} (h : shA p = (0, ci)) : ceE ω μ p (shA p) = .inr (ci, fsV ω μ p ci) := by rw [h]; rfl
theorem ceE_i {ω : Wd} {μ : Mm} {p n : Nat} (h : shA p = (1, n)) : ceE ω μ p (shA p) = .inl (ω.2.2.2.1, n, .inl (μ.1 p)) := by rw [h]; rfl
theorem ceE_l {ω : Wd} {μ : Mm} {p n : Nat} (h : shA p = (2, n)) : ceE ω μ p (shA p) = .inl (ω.2.2.2.2.1, n, .inr (.inl (μ.2.1 p))) := by rw [h]; rfl
theorem ceE_z {ω : Wd} {μ : Mm} {p n : Nat} (h : shA p = (3, n)) : ceE ω μ p (shA p) = .inl (ω.2.2.2.2.2, n, .inl (μ.1 p)) := by rw [h]; rfl
theorem shA_lt {p k n : Nat} (h : shA p = (k, n)) (hk : k ≠ 9) : p < 51 := by
  rcases Nat.lt_or_ge p 51 with q | q
  · exact q
  · have : shA p = (9, 0) := by
      unfold shA
      rw [List.getD_eq_getElem?_getD, List.getElem?_eq_none (by simpa [shp] using q)]
      rfl
    rw [this] at h
    cases h
    exact absurd rfl hk
theorem ceE_wi_ne {ω : Wd} {μ : Mm} {p k : Nat} {v : Int32} {q : Nat} (hq : q ≠ p) : ceE ω (ss_wi μ p k v) q (shA q) = ceE ω μ q (shA q) := by
  have e1 : (ss_wi μ p k v).1 q = μ.1 q := by funext j; simp [ss_wi, up2, hq]
  have e2 : ∀ ci, fsV ω (ss_wi μ p k v) q ci = fsV ω μ q ci := by
    intro ci
    unfold fsV
    apply List.map_congr_left
    intro j _
    unfold fV ss_i ss_l ss_r
    rw [e1]
    rfl
  unfold ceE
  split <;> first | rw [e2] | rw [e1] | rfl
theorem ceE_wl_ne {ω : Wd} {μ : Mm} {p k : Nat} {v : Int64} {q : Nat} (hq : q ≠ p) : ceE ω (ss_wl μ p k v) q (shA q) = ceE ω μ q (shA q) := by
  have e1 : (ss_wl μ p k v).2.1 q = μ.2.1 q := by funext j; simp [ss_wl, up2, hq]
  have e2 : ∀ ci, fsV ω (ss_wl μ p k v) q ci = fsV ω μ q ci := by
    intro ci
    unfold fsV
    apply List.map_congr_left
    intro j _
    unfold fV ss_i ss_l ss_r
    rw [e1]
    rfl
  unfold ceE
  split <;> first | rw [e2] | rw [e1] | rfl
theorem cW_wi_o {ω : Wd} {μ : Mm} {p ci k : Nat} {v : Int32} (h : shA p = (0, ci)) (hk : k < (fkL.getD ci []).length) (hd : (fkL.getD ci []).getD k 0 = 0) : (cW ω μ).set p (wa ω p, .inr (ci, (fsV ω μ p ci).set k (.int v))) = cW ω (ss_wi μ p k v) := by
  refine cW_set (shA_lt h (by decide)) ?_ (fun q hq => ceE_wi_ne hq)
  rw [ceE_o h]
  congr 2
  apply List.ext_getElem?
  intro i
  by_cases hi : i < (fkL.getD ci []).length
  · rw [fsV_at hi]
    by_cases hik : i = k
    · subst hik
      rw [List.getElem?_set_self (by rw [fsV_len]; exact hi), hd]
      simp [fV, ss_i, ss_wi, up2]
    · rw [List.getElem?_set_ne (Ne.symm hik), fsV_at hi]
      congr 1
      unfold fV ss_i ss_l ss_r ss_wi up2
      split <;> simp [hik]
  · rw [List.getElem?_eq_none (by rw [fsV_len]; omega), List.getElem?_eq_none (by rw [List.length_set, fsV_len]; omega)]
theorem cW_wl_o {ω : Wd} {μ : Mm} {p ci k : Nat} {v : Int64} (h : shA p = (0, ci)) (hk : k < (fkL.getD ci []).length) (hd : (fkL.getD ci []).getD k 0 = 1) : (cW ω μ).set p (wa ω p, .inr (ci, (fsV ω μ p ci).set k (.long v))) = cW ω (ss_wl μ p k v) := by
  refine cW_set (shA_lt h (by decide)) ?_ (fun q hq => ceE_wl_ne hq)
  rw [ceE_o h]
  congr 2
  apply List.ext_getElem?
  intro i
  by_cases hi : i < (fkL.getD ci []).length
  · rw [fsV_at hi]
    by_cases hik : i = k
    · subst hik
      rw [List.getElem?_set_self (by rw [fsV_len]; exact hi), hd]
      simp [fV, ss_l, ss_wl, up2]
    · rw [List.getElem?_set_ne (Ne.symm hik), fsV_at hi]
      congr 1
      unfold fV ss_i ss_l ss_r ss_wl up2
      split <;> simp [hik]
  · rw [List.getElem?_eq_none (by rw [fsV_len]; omega), List.getElem?_eq_none (by rw [List.length_set, fsV_len]; omega)]
theorem cW_wr_o {ω : Wd} {μ : Mm} {k v : Nat} (hk : k < 2) : (cW ω μ).set 0 (wa ω 0, .inr (6, (fsV ω μ 0 6).set k (.ref (wa ω v)))) = cW ω (ss_wr μ k v) := by
  refine cW_set (by decide) ?_ (fun q hq => ?_)
  · rw [ceE_o (ci := 6) (by decide)]
    congr 2
    apply List.ext_getElem?
    intro i
    by_cases hi : i < (fkL.getD 6 []).length
    · rw [fsV_at hi]
      by_cases hik : i = k
      · subst hik
        rw [List.getElem?_set_self (by rw [fsV_len]; exact hi)]
        rcases (show i = 0 ∨ i = 1 by omega) with rfl | rfl <;> rfl
      · rw [List.getElem?_set_ne (Ne.symm hik), fsV_at hi]
        congr 1
        unfold fV ss_i ss_l ss_r ss_wr
        split <;> simp [hik]
    · rw [List.getElem?_eq_none (by rw [fsV_len]; omega), List.getElem?_eq_none (by rw [List.length_set, fsV_len]; omega)]
  · have e2 : ∀ ci, fsV ω (ss_wr μ k v) q ci = fsV ω μ q ci := by
      intro ci
      unfold fsV
      apply List.map_congr_left
      intro j _
      unfold fV ss_i ss_l ss_r ss_wr
      simp [hq]
    unfold ceE
    split <;> first | rw [e2] | rfl
theorem cW_wi_a {ω : Wd} {μ : Mm} {p n k : Nat} {v : Int32} (h : shA p = (1, n)) : (cW ω μ).set p (wa ω p, .inl (ω.2.2.2.1, n, .inl (upd (μ.1 p) k v))) = cW ω (ss_wi μ p k v) := by
  refine cW_set (shA_lt h (by decide)) ?_ (fun q hq => ceE_wi_ne hq)
  rw [ceE_i h]
  congr 3
  congr 1
  funext j
  simp [ss_wi, up2, upd]
theorem cW_wi_z {ω : Wd} {μ : Mm} {p n k : Nat} {v : Int32} (h : shA p = (3, n)) : (cW ω μ).set p (wa ω p, .inl (ω.2.2.2.2.2, n, .inl (upd (μ.1 p) k v))) = cW ω (ss_wi μ p k v) := by
  refine cW_set (shA_lt h (by decide)) ?_ (fun q hq => ceE_wi_ne hq)
  rw [ceE_z h]
  congr 3
  congr 1
  funext j
  simp [ss_wi, up2, upd]
theorem cW_wl_a {ω : Wd} {μ : Mm} {p n k : Nat} {v : Int64} (h : shA p = (2, n)) : (cW ω μ).set p (wa ω p, .inl (ω.2.2.2.2.1, n, .inr (.inl (vp_updL (μ.2.1 p) k v)))) = cW ω (ss_wl μ p k v) := by
  refine cW_set (shA_lt h (by decide)) ?_ (fun q hq => ceE_wl_ne hq)
  rw [ceE_l h]
  congr 4
  congr 1
  funext j
  simp [ss_wl, up2, vp_updL]
theorem cW_cp {ω : Wd} {μ : Mm} {p q n sp dp k : Nat} (h : shA p = (1, n)) : (cW ω μ).set p (wa ω p, .inl (ω.2.2.2.1, n, .inl (va_cpy (μ.1 q) (μ.1 p) sp dp k))) = cW ω (ss_cp μ q sp p dp k) := by
  refine cW_set (shA_lt h (by decide)) ?_ (fun r hr => ?_)
  · rw [ceE_i h]
    congr 3
    congr 1
    funext j
    simp [ss_cp, va_cpy]
  · have e1 : (ss_cp μ q sp p dp k).1 r = μ.1 r := by funext j; simp [ss_cp, hr]
    have e2 : ∀ ci, fsV ω (ss_cp μ q sp p dp k) r ci = fsV ω μ r ci := by
      intro ci
      unfold fsV
      apply List.map_congr_left
      intro j _
      unfold fV ss_i ss_l ss_r
      rw [e1]
      rfl
    unfold ceE
    split <;> first | rw [e2] | rw [e1] | rfl
/-! values and locals -/
def tv (ω : Wd) : Value → Value
  | .ref k => .ref (wa ω k)
  | v => v
theorem tv_cat (ω : Wd) (v : Value) : (tv ω v).category = v.category := by cases v <;> rfl
def nul : Value → Bool
  | .null => true
  | _ => false
def la (ω : Wd) (L : List Value) : List (Nat × Value) := (L.zipIdx.filter (fun q => !nul q.1)).map (fun q => (q.2, tv ω q.1))
theorem la_mem {ω : Wd} {L : List Value} {i : Nat} {w : Value} : (i, w) ∈ la ω L ↔ ∃ v, L[i]? = some v ∧ nul v = false ∧ w = tv ω v := by
  constructor
  · intro h
    obtain ⟨⟨v, j⟩, h1, h2⟩ := List.mem_map.mp h
    obtain ⟨h3, h4⟩ := List.mem_filter.mp h1
    have h5 := List.mem_zipIdx_iff_getElem?.mp h3
    simp at h2
    obtain ⟨rfl, rfl⟩ := h2
    exact ⟨v, h5, by simpa using h4, rfl⟩
  · rintro ⟨v, h1, h2, rfl⟩
    refine List.mem_map.mpr ⟨(v, i), List.mem_filter.mpr ⟨List.mem_zipIdx_iff_getElem?.mpr h1, by simp [h2]⟩, rfl⟩
theorem la_has {ω : Wd} {L : List Value} {ls : Array Slot} {n i : Nat} {v : Value} (h : lv_has ls n (la ω L)) (hi : L[i]? = some v) (hv : nul v = false) : ls[i]? = some (.val (tv ω v)) := h.2.2 (i, tv ω v) (la_mem.mpr ⟨v, hi, hv, rfl⟩)
theorem la_sub {ls : Array Slot} {n : Nat} {l l' : List (Nat × Value)} (h : lv_has ls n l) (hs : ∀ q ∈ l', q ∈ l) : lv_has ls n l' := ⟨h.1, h.2.1, fun q hq => h.2.2 q (hs q hq)⟩
end
section
/-! one straight instruction on locals, stack, memory, a flag that stays true as long as the machine does not throw -/
abbrev Sx : Type := List Value × List Value × Mm × Bool
abbrev IA : Type := Instr × Nat × Nat × Nat × Nat × Int
def oCl (p ci : Nat) : Bool := decide (shA p = (0, ci))
def inb (p t : Nat) (j : Int32) : Bool := decide ((shA p).1 = t) && decide (¬ (j < 0 ∨ (shA p).2 ≤ j.toNatClampNeg))
def noL (L : List Value) (i : Nat) : Bool := match i with
  | 0 => true
  | j + 1 => match L[j]? with
    | some v => v.category == 1
    | none => true
def x0 (x : Sx) : Sx := (x.1, x.2.1, x.2.2.1, false)
def xP (v : Value) (x : Sx) : Sx := (x.1, v :: x.2.1, x.2.2.1, x.2.2.2)
def xLi (i : Nat) (x : Sx) : Sx := match x.1[i]? with
  | some (.int v) => xP (.int v) x
  | _ => x0 x
def xLl (i : Nat) (x : Sx) : Sx := match x.1[i]? with
  | some (.long v) => xP (.long v) x
  | _ => x0 x
def xLa (i : Nat) (x : Sx) : Sx := match x.1[i]? with
  | some (.ref v) => xP (.ref v) x
  | _ => x0 x
def xSi (i : Nat) (x : Sx) : Sx := match x with
  | (L, .int v :: st, μ, f) => (L.set i (.int v), st, μ, decide (i < L.length) && (noL L i && f))
  | x => x0 x
def xSa (i : Nat) (x : Sx) : Sx := match x with
  | (L, .ref v :: st, μ, f) => (L.set i (.ref v), st, μ, decide (i < L.length) && (noL L i && f))
  | x => x0 x
def xSl (i : Nat) (x : Sx) : Sx := match x with
  | (L, .long v :: st, μ, f) => ((L.set i (.long v)).set (i + 1) .null, st, μ, decide (i + 1 < L.length) && (noL L i && f))
  | x => x0 x
def xInc (i : Nat) (n : Int) (x : Sx) : Sx := match x.1[i]? with
  | some (.int v) => (x.1.set i (.int (v + Int32.ofInt n)), x.2.1, x.2.2.1, decide (i < x.1.length) && (noL x.1 i && x.2.2.2))
  | _ => x0 x
def xII (g : Int32 → Int32 → Int32) (x : Sx) : Sx := match x with
  | (L, .int b :: .int a :: st, μ, f) => (L, .int (g a b) :: st, μ, f)
  | x => x0 x
def xIIn (g : Int32 → Int32 → Int32) (x : Sx) : Sx := match x with
  | (L, .int b :: .int a :: st, μ, f) => (L, .int (g a b) :: st, μ, decide (¬ b = 0) && f)
  | x => x0 x
def xJJ (g : Int64 → Int64 → Int64) (x : Sx) : Sx := match x with
  | (L, .long b :: .long a :: st, μ, f) => (L, .long (g a b) :: st, μ, f)
  | x => x0 x
def xJJn (g : Int64 → Int64 → Int64) (x : Sx) : Sx := match x with
  | (L, .long b :: .long a :: st, μ, f) => (L, .long (g a b) :: st, μ, decide (¬ b = 0) && f)
  | x => x0 x
def xJI (g : Int64 → Int32 → Int64) (x : Sx) : Sx := match x with
  | (L, .int b :: .long a :: st, μ, f) => (L, .long (g a b) :: st, μ, f)
  | x => x0 x
def xCmp (x : Sx) : Sx := match x with
  | (L, .long b :: .long a :: st, μ, f) => (L, .int (lg_cmp a b) :: st, μ, f)
  | x => x0 x
def xI2l (x : Sx) : Sx := match x with
  | (L, .int a :: st, μ, f) => (L, .long a.toInt64 :: st, μ, f)
  | x => x0 x
def xDup (x : Sx) : Sx := match x with
  | (L, v :: st, μ, f) => (L, v :: v :: st, μ, (v.category == 1) && f)
  | x => x0 x
def xPop (x : Sx) : Sx := match x with
  | (L, v :: st, μ, f) => (L, st, μ, (v.category == 1) && f)
  | x => x0 x
def xDup2 (x : Sx) : Sx := match x with
  | (L, v :: w :: st, μ, f) => (L, v :: w :: v :: w :: st, μ, (v.category == 1) && ((w.category == 1) && f))
  | x => x0 x
def aV (μ : Mm) (p k d : Nat) : Value := match d with
  | 0 => .int (ss_i μ p k)
  | 1 => .long (ss_l μ p k)
  | _ => .ref (ss_r μ p k)
def xGet (a b d : Nat) (x : Sx) : Sx := match x with
  | (L, .ref p :: st, μ, f) => (L, aV μ p b d :: st, μ, oCl p a && f)
  | x => x0 x
def xPut (a b d : Nat) (x : Sx) : Sx := match x with
  | (L, .int v :: .ref p :: st, μ, f) => (L, st, ss_wi μ p b v, oCl p a && ((d == 0) && f))
  | (L, .long v :: .ref p :: st, μ, f) => (L, st, ss_wl μ p b v, oCl p a && ((d == 1) && f))
  | (L, .ref v :: .ref p :: st, μ, f) => (L, st, ss_wr μ b v, decide (p = 0) && ((a == 6) && (decide (b < 2) && f)))
  | x => x0 x
def xIal (x : Sx) : Sx := match x with
  | (L, .int j :: .ref p :: st, μ, f) => (L, .int (ss_i μ p j.toNatClampNeg) :: st, μ, inb p 1 j && f)
  | x => x0 x
def xZal (x : Sx) : Sx := match x with
  | (L, .int j :: .ref p :: st, μ, f) => (L, .int (ss_i μ p j.toNatClampNeg) :: st, μ, inb p 3 j && f)
  | x => x0 x
def xLal (x : Sx) : Sx := match x with
  | (L, .int j :: .ref p :: st, μ, f) => (L, .long (ss_l μ p j.toNatClampNeg) :: st, μ, inb p 2 j && f)
  | x => x0 x
def xIas (x : Sx) : Sx := match x with
  | (L, .int v :: .int j :: .ref p :: st, μ, f) => (L, st, ss_wi μ p j.toNatClampNeg v, inb p 1 j && f)
  | x => x0 x
def xZas (x : Sx) : Sx := match x with
  | (L, .int v :: .int j :: .ref p :: st, μ, f) => (L, st, ss_wi μ p j.toNatClampNeg (vp_nar .boolean v), inb p 3 j && f)
  | x => x0 x
def xLas (x : Sx) : Sx := match x with
  | (L, .long v :: .int j :: .ref p :: st, μ, f) => (L, st, ss_wl μ p j.toNatClampNeg v, inb p 2 j && f)
  | x => x0 x
def xLen (x : Sx) : Sx := match x with
  | (L, .ref p :: st, μ, f) => (L, .int (Int32.ofNat (shA p).2) :: st, μ, decide (1 ≤ (shA p).1 ∧ (shA p).1 ≤ 3) && f)
  | x => x0 x
def sI (q : IA) (x : Sx) : Sx := match q.1 with
  | .iconst n => xP (.int (Int32.ofInt n)) x
  | .bipush n => xP (.int (Int8.ofInt n).toInt32) x
  | .sipush n => xP (.int (Int16.ofInt n).toInt32) x
  | .lconst n => xP (.long (Int64.ofNat (n : Nat))) x
  | .ldc _ => xP (.int (Int32.ofInt q.2.2.2.2.2)) x
  | .ldc_w _ => xP (.int (Int32.ofInt q.2.2.2.2.2)) x
  | .ldc2_w _ => xP (.long (Int64.ofInt q.2.2.2.2.2)) x
  | .iload_n k => xLi k x
  | .iload i => xLi i x
  | .lload_n k => xLl k x
  | .lload i => xLl i x
  | .aload_n k => xLa k x
  | .aload i => xLa i x
  | .istore_n k => xSi k x
  | .istore i => xSi i x
  | .lstore_n k => xSl k x
  | .lstore i => xSl i x
  | .astore_n k => xSa k x
  | .astore i => xSa i x
  | .iinc i n => xInc i n x
  | .iadd => xII (fun a b => a + b) x
  | .isub => xII (fun a b => a - b) x
  | .imul => xII (fun a b => a * b) x
  | .iand => xII (fun a b => a &&& b) x
  | .ior => xII (fun a b => a ||| b) x
  | .ixor => xII (fun a b => a ^^^ b) x
  | .ishl => xII (fun a b => a <<< (b &&& 31)) x
  | .ishr => xII (fun a b => a >>> (b &&& 31)) x
  | .iushr => xII (fun a b => (a.toUInt32 >>> (b.toUInt32 &&& Int32.toUInt32 31)).toInt32) x
  | .idiv => xIIn (fun a b => a / b) x
  | .irem => xIIn (fun a b => a - a / b * b) x
  | .ladd => xJJ (fun a b => a + b) x
  | .lsub => xJJ (fun a b => a - b) x
  | .lmul => xJJ (fun a b => a * b) x
  | .land => xJJ (fun a b => a &&& b) x
  | .lor => xJJ (fun a b => a ||| b) x
  | .ldiv => xJJn (fun a b => a / b) x
  | .lrem => xJJn (fun a b => a - a / b * b) x
  | .lshl => xJI (fun a b => a <<< (b.toInt64 &&& 63)) x
  | .lshr => xJI (fun a b => a >>> (b.toInt64 &&& 63)) x
  | .lcmp => xCmp x
  | .i2l => xI2l x
  | .dup => xDup x
  | .pop => xPop x
  | .dup2 => xDup2 x
  | .getfield _ => xGet q.2.2.1 q.2.2.2.1 q.2.2.2.2.1 x
  | .putfield _ => xPut q.2.2.1 q.2.2.2.1 q.2.2.2.2.1 x
  | .iaload => xIal x
  | .baload => xZal x
  | .laload => xLal x
  | .iastore => xIas x
  | .bastore => xZas x
  | .lastore => xLas x
  | .arraylength => xLen x
  | _ => x0 x
def flOk (ow idx a b d : Nat) : Bool := flT.contains (ow, idx, a, b) && ((fkL.getD a []).getD b 9 == d)
/-- an instruction of the code at a place, with its notes held against the tables -/
def ckI (ow : Nat) (cc : ByteArray) (pc : Nat) (q : IA) : Bool := decide (decode cc pc = .ok (q.1, q.2.1)) && (match q.1 with
  | .getfield idx => flOk ow idx q.2.2.1 q.2.2.2.1 q.2.2.2.2.1 && (q.2.1 == 3)
  | .putfield idx => flOk ow idx q.2.2.1 q.2.2.2.1 q.2.2.2.2.1 && !(TT q.2.2.1 q.2.2.2.1).2.2.2 && (q.2.1 == 3)
  | .ldc idx => ctI.contains (ow, idx, q.2.2.2.2.2) && (q.2.1 == 2)
  | .ldc_w idx => ctI.contains (ow, idx, q.2.2.2.2.2) && (q.2.1 == 3)
  | .ldc2_w idx => ctL.contains (ow, idx, q.2.2.2.2.2) && (q.2.1 == 3)
  | .bipush _ | .iload _ | .lload _ | .aload _ | .istore _ | .lstore _ | .astore _ => q.2.1 == 2
  | .sipush _ | .iinc _ _ => q.2.1 == 3
  | _ => q.2.1 == 1)
end
section
/-! the straight instructions on the machine -/
abbrev MD : Type := MethodName × ByteArray × Nat × Option FieldType × Nat × Nat × Nat
def isNest : Cond → Bool
  | .methodLinkNest .. => true
  | _ => false
def nw : List Cond := lw_tbl.filter isNest
theorem nw_is {w : Cond} (h : w ∈ nw) : ∃ a i x y, w = .methodLinkNest a i x y := by
  have h2 := (List.mem_filter.mp h).2
  cases w <;> first | exact ⟨_, _, _, _, rfl⟩ | exact absurd h2 Bool.false_ne_true
theorem nw_warm {s U : State} (hW : s.WarmedH U.vm) (h : ∀ w ∈ nw, va_Nw w s) : ∀ w ∈ nw, va_Nw w U := by
  intro w hw
  obtain ⟨a, i, x, y, rfl⟩ := nw_is hw
  exact va_Nw.warmM hW (h _ hw)
def Cx (ω : Wd) (M : MD) (p : Program) (s : State) (m : MethodId) (args : Array Value) (meth : Method) (c : Code) : Prop :=
  p.tables.exec = Jvm.exec ∧ c.code = M.2.1 ∧ c.maxLocals = M.2.2.1 ∧ meth.sig.returnType = M.2.2.2.1 ∧ s.vm.findClass (RR M.2.2.2.2.1) = some m.cls ∧ (∀ w ∈ gt, w.before args s = true) ∧ (∀ w ∈ nw, va_Nw w s) ∧ va_K (wD ω) vwCl (tys3 ω) s ∧ meth.locks = false ∧ wAp ω
def GW (ω : Wd) (M : MD) (p : Program) (l : Launch) (e : Env) (R : Room) (s : State) (m : MethodId) (args : Array Value) (below : List Frame) (meth : Method) (c : Code) (cells slots : Nat) (Z : State → Prop) (pc : Nat) (L st : List Value) (μ : Mm) : Prop :=
  ∀ (H : Heap) (locs : List Loc) (ls : Array Slot), va_P (wD ω) vwCl (cW ω μ) H → va_S (wA ω) s.heap H locs → lv_has ls M.2.2.1 (la ω L) → L.length = M.2.2.1 → W p l e R s m args below meth c H locs cells slots Z (F0 m pc ls (st.map (tv ω)))
theorem la_set1 {ω : Wd} {L : List Value} {i : Nat} {v : Value} (hn : noL L i = true) : ∀ q ∈ la ω (L.set i v), q ∈ (i, tv ω v) :: (la ω L).filter (fun q => !(q.1 == i) && !(q.1 + 1 == i && q.2.category == 2)) := by
  rintro ⟨j, w⟩ hq
  obtain ⟨u, h1, h2, rfl⟩ := la_mem.mp hq
  by_cases hj : j = i
  · subst hj
    rw [List.getElem?_set] at h1
    simp only [if_true] at h1
    split at h1
    · cases h1; exact List.mem_cons_self
    · cases h1
  · rw [List.getElem?_set_ne (Ne.symm hj)] at h1
    refine List.mem_cons_of_mem _ (List.mem_filter.mpr ⟨la_mem.mpr ⟨u, h1, h2, rfl⟩, ?_⟩)
    by_cases hj2 : j + 1 = i
    · subst hj2
      unfold noL at hn
      simp only [h1] at hn
      have hc : u.category = 1 := by simpa using hn
      simp [tv_cat, hc]
    · simp [hj, hj2]
theorem la_set2 {ω : Wd} {L : List Value} {i : Nat} {v : Value} (hn : noL L i = true) : ∀ q ∈ la ω ((L.set i v).set (i + 1) .null), q ∈ (i, tv ω v) :: (la ω L).filter (fun q => !(q.1 == i) && (!(q.1 == i + 1) && !(q.1 + 1 == i && q.2.category == 2))) := by
  rintro ⟨j, w⟩ hq
  obtain ⟨u, h1, h2, rfl⟩ := la_mem.mp hq
  by_cases hj1 : j = i + 1
  · subst hj1
    rw [List.getElem?_set] at h1
    simp only [if_true] at h1
    split at h1
    · cases h1; exact absurd h2 (by decide)
    · cases h1
  rw [List.getElem?_set_ne (Ne.symm hj1)] at h1
  by_cases hj : j = i
  · subst hj
    rw [List.getElem?_set] at h1
    simp only [if_true] at h1
    split at h1
    · cases h1; exact List.mem_cons_self
    · cases h1
  · rw [List.getElem?_set_ne (Ne.symm hj)] at h1
    refine List.mem_cons_of_mem _ (List.mem_filter.mpr ⟨la_mem.mpr ⟨u, h1, h2, rfl⟩, ?_⟩)
    by_cases hj2 : j + 1 = i
    · subst hj2
      unfold noL at hn
      simp only [h1] at hn
      have hc : u.category = 1 := by simpa using hn
      simp [tv_cat, hc]; omega
    · simp [hj, hj1, hj2]
theorem b3 {a b c : Bool} (h : (a && b && c) = true) : a = true ∧ b = true ∧ c = true := by
  revert a b c; decide
theorem b2 {a b : Bool} (h : (a && b) = true) : a = true ∧ b = true := by
  revert a b; decide
theorem b4 {a b c d : Bool} (h : (a && b && c && d) = true) : a = true ∧ b = true ∧ c = true ∧ d = true := by
  revert a b c d; decide
theorem f2 {a b : Bool} (h : (b && a) = true) : a = true ∧ b = true := by
  revert a b; decide
theorem f3 {a b c : Bool} (h : (b && (c && a)) = true) : a = true ∧ b = true ∧ c = true := by
  revert a b c; decide
theorem f4 {a b c d : Bool} (h : (b && (c && (d && a))) = true) : a = true ∧ b = true ∧ c = true ∧ d = true := by
  revert a b c d; decide
theorem fa {a b : Bool} (h : a = true) (k : b = true) : (a && b) = true := by
  rw [h, k]; rfl
section GWS
variable {ω : Wd} {M : MD} {p : Program} {l : Launch} {e : Env} {R : Room} {s : State} {m : MethodId} {args : Array Value} {below : List Frame} {meth : Method} {c : Code} {cells slots : Nat} {Z : State → Prop} {pc n : Nat}
theorem gw_P {v : Value} {x : Sx} (row : ∀ {H : Heap} {locs : List Loc} {ls : Array Slot} {rest : List Value}, W p l e R s m args below meth c H locs cells slots Z (F0 m n ls (tv ω v :: rest)) → W p l e R s m args below meth c H locs cells slots Z (F0 m pc ls rest)) (k : GW ω M p l e R s m args below meth c cells slots Z n (xP v x).1 (xP v x).2.1 (xP v x).2.2.1) : GW ω M p l e R s m args below meth c cells slots Z pc x.1 x.2.1 x.2.2.1 :=
  fun H locs ls hP hS hl hL => row (k H locs ls hP hS hl hL)
theorem gw_Li {i : Nat} {x : Sx} (row : ∀ {H : Heap} {locs : List Loc} {ls : Array Slot} {rest : List Value} {v : Int32}, ls[i]? = some (.val (.int v)) → W p l e R s m args below meth c H locs cells slots Z (F0 m n ls (.int v :: rest)) → W p l e R s m args below meth c H locs cells slots Z (F0 m pc ls rest)) (hf : (xLi i x).2.2.2 = true) (k : GW ω M p l e R s m args below meth c cells slots Z n (xLi i x).1 (xLi i x).2.1 (xLi i x).2.2.1) : GW ω M p l e R s m args below meth c cells slots Z pc x.1 x.2.1 x.2.2.1 := by
  unfold xLi at hf k
  intro H locs ls hP hS hl hL
  cases h : x.1[i]? with
  | none => rw [h] at hf; exact absurd hf Bool.false_ne_true
  | some v =>
    rw [h] at hf k
    cases v <;> first | exact absurd hf Bool.false_ne_true | exact row (la_has hl h rfl) (k H locs ls hP hS hl hL)
theorem gw_Ll {i : Nat} {x : Sx} (row : ∀ {H : Heap} {locs : List Loc} {ls : Array Slot} {rest : List Value} {v : Int64}, ls[i]? = some (.val (.long v)) → W p l e R s m args below meth c H locs cells slots Z (F0 m n ls (.long v :: rest)) → W p l e R s m args below meth c H locs cells slots Z (F0 m pc ls rest)) (hf : (xLl i x).2.2.2 = true) (k : GW ω M p l e R s m args below meth c cells slots Z n (xLl i x).1 (xLl i x).2.1 (xLl i x).2.2.1) : GW ω M p l e R s m args below meth c cells slots Z pc x.1 x.2.1 x.2.2.1 := by
  unfold xLl at hf k
  intro H locs ls hP hS hl hL
  cases h : x.1[i]? with
  | none => rw [h] at hf; exact absurd hf Bool.false_ne_true
  | some v =>
    rw [h] at hf k
    cases v <;> first | exact absurd hf Bool.false_ne_true | exact row (la_has hl h rfl) (k H locs ls hP hS hl hL)
theorem gw_La {i : Nat} {x : Sx} (row : ∀ {H : Heap} {locs : List Loc} {ls : Array Slot} {rest : List Value} {v : Nat}, ls[i]? = some (.val (.ref v)) → W p l e R s m args below meth c H locs cells slots Z (F0 m n ls (.ref v :: rest)) → W p l e R s m args below meth c H locs cells slots Z (F0 m pc ls rest)) (hf : (xLa i x).2.2.2 = true) (k : GW ω M p l e R s m args below meth c cells slots Z n (xLa i x).1 (xLa i x).2.1 (xLa i x).2.2.1) : GW ω M p l e R s m args below meth c cells slots Z pc x.1 x.2.1 x.2.2.1 := by
  unfold xLa at hf k
  intro H locs ls hP hS hl hL
  cases h : x.1[i]? with
  | none => rw [h] at hf; exact absurd hf Bool.false_ne_true
  | some v =>
    rw [h] at hf k
    cases v <;> first | exact absurd hf Bool.false_ne_true | exact row (la_has hl h rfl) (k H locs ls hP hS hl hL)
theorem gw_Si {i : Nat} {x : Sx} (row : ∀ {H : Heap} {locs : List Loc} {ls : Array Slot} {rest : List Value} {v : Int32} {lv : List (Nat × Value)}, lv_has ls M.2.2.1 lv → i < M.2.2.1 → (∀ ls' : Array Slot, lv_has ls' M.2.2.1 ((i, Value.int v) :: lv.filter (fun q => !(q.1 == i) && !(q.1 + 1 == i && q.2.category == 2))) → W p l e R s m args below meth c H locs cells slots Z (F0 m n ls' rest)) → W p l e R s m args below meth c H locs cells slots Z (F0 m pc ls (.int v :: rest))) (hf : (xSi i x).2.2.2 = true) (k : GW ω M p l e R s m args below meth c cells slots Z n (xSi i x).1 (xSi i x).2.1 (xSi i x).2.2.1) : GW ω M p l e R s m args below meth c cells slots Z pc x.1 x.2.1 x.2.2.1 := by
  obtain ⟨L, st, μ, f⟩ := x
  rcases st with _ | ⟨v, st⟩
  · exact absurd hf Bool.false_ne_true
  cases v <;> try exact absurd hf Bool.false_ne_true
  intro H locs ls hP hS hl hL
  obtain ⟨h1, h2, h3⟩ := f3 hf
  have hL : L.length = M.2.2.1 := hL
  exact row hl (by rw [← hL]; exact of_decide_eq_true h2) (fun ls' hl' => k H locs ls' hP hS (la_sub hl' (la_set1 h3)) (by show (L.set _ _).length = _; rw [List.length_set]; exact hL))
theorem gw_Sa {i : Nat} {x : Sx} (row : ∀ {H : Heap} {locs : List Loc} {ls : Array Slot} {rest : List Value} {v : Nat} {lv : List (Nat × Value)}, lv_has ls M.2.2.1 lv → i < M.2.2.1 → (∀ ls' : Array Slot, lv_has ls' M.2.2.1 ((i, Value.ref v) :: lv.filter (fun q => !(q.1 == i) && !(q.1 + 1 == i && q.2.category == 2))) → W p l e R s m args below meth c H locs cells slots Z (F0 m n ls' rest)) → W p l e R s m args below meth c H locs cells slots Z (F0 m pc ls (.ref v :: rest))) (hf : (xSa i x).2.2.2 = true) (k : GW ω M p l e R s m args below meth c cells slots Z n (xSa i x).1 (xSa i x).2.1 (xSa i x).2.2.1) : GW ω M p l e R s m args below meth c cells slots Z pc x.1 x.2.1 x.2.2.1 := by
  obtain ⟨L, st, μ, f⟩ := x
  rcases st with _ | ⟨v, st⟩
  · exact absurd hf Bool.false_ne_true
  cases v <;> try exact absurd hf Bool.false_ne_true
  intro H locs ls hP hS hl hL
  obtain ⟨h1, h2, h3⟩ := f3 hf
  have hL : L.length = M.2.2.1 := hL
  exact row hl (by rw [← hL]; exact of_decide_eq_true h2) (fun ls' hl' => k H locs ls' hP hS (la_sub hl' (la_set1 h3)) (by show (L.set _ _).length = _; rw [List.length_set]; exact hL))
theorem gw_Sl {i : Nat} {x : Sx} (row : ∀ {H : Heap} {locs : List Loc} {ls : Array Slot} {rest : List Value} {v : Int64} {lv : List (Nat × Value)}, lv_has ls M.2.2.1 lv → i + 1 < M.2.2.1 → (∀ ls' : Array Slot, lv_has ls' M.2.2.1 ((i, Value.long v) :: lv.filter (fun q => !(q.1 == i) && (!(q.1 == i + 1) && !(q.1 + 1 == i && q.2.category == 2)))) → W p l e R s m args below meth c H locs cells slots Z (F0 m n ls' rest)) → W p l e R s m args below meth c H locs cells slots Z (F0 m pc ls (.long v :: rest))) (hf : (xSl i x).2.2.2 = true) (k : GW ω M p l e R s m args below meth c cells slots Z n (xSl i x).1 (xSl i x).2.1 (xSl i x).2.2.1) : GW ω M p l e R s m args below meth c cells slots Z pc x.1 x.2.1 x.2.2.1 := by
  obtain ⟨L, st, μ, f⟩ := x
  rcases st with _ | ⟨v, st⟩
  · exact absurd hf Bool.false_ne_true
  cases v <;> try exact absurd hf Bool.false_ne_true
  intro H locs ls hP hS hl hL
  obtain ⟨h1, h2, h3⟩ := f3 hf
  have hL : L.length = M.2.2.1 := hL
  exact row hl (by rw [← hL]; exact of_decide_eq_true h2) (fun ls' hl' => k H locs ls' hP hS (la_sub hl' (la_set2 h3)) (by show ((L.set _ _).set _ _).length = _; rw [List.length_set, List.length_set]; exact hL))
theorem gw_Inc {i : Nat} {z : Int} {x : Sx} (row : ∀ {H : Heap} {locs : List Loc} {ls : Array Slot} {rest : List Value} {v : Int32} {j : Nat} {lv : List (Nat × Value)}, lv_has ls M.2.2.1 lv → lv[j]? = some (i, .int v) → i < M.2.2.1 → (∀ ls' : Array Slot, lv_has ls' M.2.2.1 ((i, Value.int (v + Int32.ofInt z)) :: lv.filter (fun q => !(q.1 == i) && !(q.1 + 1 == i && q.2.category == 2))) → W p l e R s m args below meth c H locs cells slots Z (F0 m n ls' rest)) → W p l e R s m args below meth c H locs cells slots Z (F0 m pc ls rest)) (hf : (xInc i z x).2.2.2 = true) (k : GW ω M p l e R s m args below meth c cells slots Z n (xInc i z x).1 (xInc i z x).2.1 (xInc i z x).2.2.1) : GW ω M p l e R s m args below meth c cells slots Z pc x.1 x.2.1 x.2.2.1 := by
  obtain ⟨L, st, μ, f⟩ := x
  unfold xInc at hf k
  intro H locs ls hP hS hl hL
  have hL : L.length = M.2.2.1 := hL
  cases h : L[i]? with
  | none => simp only [h] at hf; exact absurd hf Bool.false_ne_true
  | some v =>
    simp only [h] at hf k
    cases v <;> first | exact absurd hf Bool.false_ne_true | skip
    obtain ⟨h1, h2, h3⟩ := f3 hf
    obtain ⟨j, hj⟩ := List.getElem?_of_mem (la_mem (ω := ω).mpr ⟨_, h, rfl, rfl⟩)
    exact row hl hj (by rw [← hL]; exact of_decide_eq_true h2) (fun ls' hl' => k H locs ls' hP hS (la_sub hl' (la_set1 h3)) (by show (L.set _ _).length = _; rw [List.length_set]; exact hL))
theorem gw_II {g : Int32 → Int32 → Int32} {x : Sx} (row : ∀ {H : Heap} {locs : List Loc} {ls : Array Slot} {rest : List Value} {a b : Int32}, W p l e R s m args below meth c H locs cells slots Z (F0 m n ls (.int (g a b) :: rest)) → W p l e R s m args below meth c H locs cells slots Z (F0 m pc ls (.int b :: .int a :: rest))) (hf : (xII g x).2.2.2 = true) (k : GW ω M p l e R s m args below meth c cells slots Z n (xII g x).1 (xII g x).2.1 (xII g x).2.2.1) : GW ω M p l e R s m args below meth c cells slots Z pc x.1 x.2.1 x.2.2.1 := by
  obtain ⟨L, st, μ, f⟩ := x
  rcases st with _ | ⟨v, _ | ⟨w, st⟩⟩
  · exact absurd hf Bool.false_ne_true
  · cases v <;> exact absurd hf Bool.false_ne_true
  cases v <;> try exact absurd hf Bool.false_ne_true
  cases w <;> try exact absurd hf Bool.false_ne_true
  exact fun H locs ls hP hS hl hL => row (k H locs ls hP hS hl hL)
theorem gw_IIn {g : Int32 → Int32 → Int32} {x : Sx} (row : ∀ {H : Heap} {locs : List Loc} {ls : Array Slot} {rest : List Value} {a b : Int32}, ¬ b = 0 → W p l e R s m args below meth c H locs cells slots Z (F0 m n ls (.int (g a b) :: rest)) → W p l e R s m args below meth c H locs cells slots Z (F0 m pc ls (.int b :: .int a :: rest))) (hf : (xIIn g x).2.2.2 = true) (k : GW ω M p l e R s m args below meth c cells slots Z n (xIIn g x).1 (xIIn g x).2.1 (xIIn g x).2.2.1) : GW ω M p l e R s m args below meth c cells slots Z pc x.1 x.2.1 x.2.2.1 := by
  obtain ⟨L, st, μ, f⟩ := x
  rcases st with _ | ⟨v, _ | ⟨w, st⟩⟩
  · exact absurd hf Bool.false_ne_true
  · cases v <;> exact absurd hf Bool.false_ne_true
  cases v <;> try exact absurd hf Bool.false_ne_true
  cases w <;> try exact absurd hf Bool.false_ne_true
  exact fun H locs ls hP hS hl hL => row (of_decide_eq_true (f2 hf).2) (k H locs ls hP hS hl hL)
theorem gw_JJ {g : Int64 → Int64 → Int64} {x : Sx} (row : ∀ {H : Heap} {locs : List Loc} {ls : Array Slot} {rest : List Value} {a b : Int64}, W p l e R s m args below meth c H locs cells slots Z (F0 m n ls (.long (g a b) :: rest)) → W p l e R s m args below meth c H locs cells slots Z (F0 m pc ls (.long b :: .long a :: rest))) (hf : (xJJ g x).2.2.2 = true) (k : GW ω M p l e R s m args below meth c cells slots Z n (xJJ g x).1 (xJJ g x).2.1 (xJJ g x).2.2.1) : GW ω M p l e R s m args below meth c cells slots Z pc x.1 x.2.1 x.2.2.1 := by
  obtain ⟨L, st, μ, f⟩ := x
  rcases st with _ | ⟨v, _ | ⟨w, st⟩⟩
  · exact absurd hf Bool.false_ne_true
  · cases v <;> exact absurd hf Bool.false_ne_true
  cases v <;> try exact absurd hf Bool.false_ne_true
  cases w <;> try exact absurd hf Bool.false_ne_true
  exact fun H locs ls hP hS hl hL => row (k H locs ls hP hS hl hL)
theorem gw_JJn {g : Int64 → Int64 → Int64} {x : Sx} (row : ∀ {H : Heap} {locs : List Loc} {ls : Array Slot} {rest : List Value} {a b : Int64}, ¬ b = 0 → W p l e R s m args below meth c H locs cells slots Z (F0 m n ls (.long (g a b) :: rest)) → W p l e R s m args below meth c H locs cells slots Z (F0 m pc ls (.long b :: .long a :: rest))) (hf : (xJJn g x).2.2.2 = true) (k : GW ω M p l e R s m args below meth c cells slots Z n (xJJn g x).1 (xJJn g x).2.1 (xJJn g x).2.2.1) : GW ω M p l e R s m args below meth c cells slots Z pc x.1 x.2.1 x.2.2.1 := by
  obtain ⟨L, st, μ, f⟩ := x
  rcases st with _ | ⟨v, _ | ⟨w, st⟩⟩
  · exact absurd hf Bool.false_ne_true
  · cases v <;> exact absurd hf Bool.false_ne_true
  cases v <;> try exact absurd hf Bool.false_ne_true
  cases w <;> try exact absurd hf Bool.false_ne_true
  exact fun H locs ls hP hS hl hL => row (of_decide_eq_true (f2 hf).2) (k H locs ls hP hS hl hL)
theorem gw_JI {g : Int64 → Int32 → Int64} {x : Sx} (row : ∀ {H : Heap} {locs : List Loc} {ls : Array Slot} {rest : List Value} {a : Int64} {b : Int32}, W p l e R s m args below meth c H locs cells slots Z (F0 m n ls (.long (g a b) :: rest)) → W p l e R s m args below meth c H locs cells slots Z (F0 m pc ls (.int b :: .long a :: rest))) (hf : (xJI g x).2.2.2 = true) (k : GW ω M p l e R s m args below meth c cells slots Z n (xJI g x).1 (xJI g x).2.1 (xJI g x).2.2.1) : GW ω M p l e R s m args below meth c cells slots Z pc x.1 x.2.1 x.2.2.1 := by
  obtain ⟨L, st, μ, f⟩ := x
  rcases st with _ | ⟨v, _ | ⟨w, st⟩⟩
  · exact absurd hf Bool.false_ne_true
  · cases v <;> exact absurd hf Bool.false_ne_true
  cases v <;> try exact absurd hf Bool.false_ne_true
  cases w <;> try exact absurd hf Bool.false_ne_true
  exact fun H locs ls hP hS hl hL => row (k H locs ls hP hS hl hL)
theorem gw_Cmp {x : Sx} (row : ∀ {H : Heap} {locs : List Loc} {ls : Array Slot} {rest : List Value} {a b : Int64}, W p l e R s m args below meth c H locs cells slots Z (F0 m n ls (.int (lg_cmp a b) :: rest)) → W p l e R s m args below meth c H locs cells slots Z (F0 m pc ls (.long b :: .long a :: rest))) (hf : (xCmp x).2.2.2 = true) (k : GW ω M p l e R s m args below meth c cells slots Z n (xCmp x).1 (xCmp x).2.1 (xCmp x).2.2.1) : GW ω M p l e R s m args below meth c cells slots Z pc x.1 x.2.1 x.2.2.1 := by
  obtain ⟨L, st, μ, f⟩ := x
  rcases st with _ | ⟨v, _ | ⟨w, st⟩⟩
  · exact absurd hf Bool.false_ne_true
  · cases v <;> exact absurd hf Bool.false_ne_true
  cases v <;> try exact absurd hf Bool.false_ne_true
  cases w <;> try exact absurd hf Bool.false_ne_true
  exact fun H locs ls hP hS hl hL => row (k H locs ls hP hS hl hL)
theorem gw_I2l {x : Sx} (row : ∀ {H : Heap} {locs : List Loc} {ls : Array Slot} {rest : List Value} {a : Int32}, W p l e R s m args below meth c H locs cells slots Z (F0 m n ls (.long a.toInt64 :: rest)) → W p l e R s m args below meth c H locs cells slots Z (F0 m pc ls (.int a :: rest))) (hf : (xI2l x).2.2.2 = true) (k : GW ω M p l e R s m args below meth c cells slots Z n (xI2l x).1 (xI2l x).2.1 (xI2l x).2.2.1) : GW ω M p l e R s m args below meth c cells slots Z pc x.1 x.2.1 x.2.2.1 := by
  obtain ⟨L, st, μ, f⟩ := x
  rcases st with _ | ⟨v, st⟩
  · exact absurd hf Bool.false_ne_true
  cases v <;> try exact absurd hf Bool.false_ne_true
  exact fun H locs ls hP hS hl hL => row (k H locs ls hP hS hl hL)
theorem gw_Dup {x : Sx} (row : ∀ {H : Heap} {locs : List Loc} {ls : Array Slot} {rest : List Value} {v : Value}, v.category = 1 → W p l e R s m args below meth c H locs cells slots Z (F0 m n ls (v :: v :: rest)) → W p l e R s m args below meth c H locs cells slots Z (F0 m pc ls (v :: rest))) (hf : (xDup x).2.2.2 = true) (k : GW ω M p l e R s m args below meth c cells slots Z n (xDup x).1 (xDup x).2.1 (xDup x).2.2.1) : GW ω M p l e R s m args below meth c cells slots Z pc x.1 x.2.1 x.2.2.1 := by
  obtain ⟨L, st, μ, f⟩ := x
  rcases st with _ | ⟨v, st⟩
  · exact absurd hf Bool.false_ne_true
  exact fun H locs ls hP hS hl hL => row (by rw [tv_cat]; exact eq_of_beq (f2 hf).2) (k H locs ls hP hS hl hL)
theorem gw_Pop {x : Sx} (row : ∀ {H : Heap} {locs : List Loc} {ls : Array Slot} {rest : List Value} {v : Value}, v.category = 1 → W p l e R s m args below meth c H locs cells slots Z (F0 m n ls rest) → W p l e R s m args below meth c H locs cells slots Z (F0 m pc ls (v :: rest))) (hf : (xPop x).2.2.2 = true) (k : GW ω M p l e R s m args below meth c cells slots Z n (xPop x).1 (xPop x).2.1 (xPop x).2.2.1) : GW ω M p l e R s m args below meth c cells slots Z pc x.1 x.2.1 x.2.2.1 := by
  obtain ⟨L, st, μ, f⟩ := x
  rcases st with _ | ⟨v, st⟩
  · exact absurd hf Bool.false_ne_true
  exact fun H locs ls hP hS hl hL => row (by rw [tv_cat]; exact eq_of_beq (f2 hf).2) (k H locs ls hP hS hl hL)
theorem gw_Dup2 {x : Sx} (row : ∀ {H : Heap} {locs : List Loc} {ls : Array Slot} {rest : List Value} {v w : Value}, v.category = 1 → w.category = 1 → W p l e R s m args below meth c H locs cells slots Z (F0 m n ls (v :: w :: v :: w :: rest)) → W p l e R s m args below meth c H locs cells slots Z (F0 m pc ls (v :: w :: rest))) (hf : (xDup2 x).2.2.2 = true) (k : GW ω M p l e R s m args below meth c cells slots Z n (xDup2 x).1 (xDup2 x).2.1 (xDup2 x).2.2.1) : GW ω M p l e R s m args below meth c cells slots Z pc x.1 x.2.1 x.2.2.1 := by
  obtain ⟨L, st, μ, f⟩ := x
  rcases st with _ | ⟨v, _ | ⟨w, st⟩⟩
  · exact absurd hf Bool.false_ne_true
  · exact absurd hf Bool.false_ne_true
  exact fun H locs ls hP hS hl hL => row (by rw [tv_cat]; exact eq_of_beq (f3 hf).2.1) (by rw [tv_cat]; exact eq_of_beq (f3 hf).2.2) (k H locs ls hP hS hl hL)
end GWS
end
section
section GWM
variable {ω : Wd} {M : MD} {p : Program} {l : Launch} {e : Env} {R : Room} {s : State} {m : MethodId} {args : Array Value} {below : List Frame} {meth : Method} {c : Code} {cells slots : Nat} {Z : State → Prop} {pc : Nat}
theorem fl_use {ow idx a b d : Nat} (h : flOk ow idx a b d = true) : flW (ow, idx, a, b) ∈ gt ∧ a < 8 ∧ b < NN.getD a 0 ∧ (fkL.getD a []).getD b 9 = d ∧ (fkL.getD a []).getD b 0 = d := by
  unfold flOk at h
  obtain ⟨h1, h2⟩ := b2 h
  have hm : (ow, idx, a, b) ∈ flT := List.contains_iff_mem.mp h1
  have h3 := flT_lt _ hm
  have h4 : (fkL.getD a []).getD b 9 = d := eq_of_beq h2
  have h5 : b < (fkL.getD a []).length := by rw [cl_len a h3.1]; exact h3.2
  refine ⟨flT_ok _ hm, h3.1, h3.2, h4, ?_⟩
  rw [← h4]
  generalize fkL.getD a [] = F at h5
  rw [List.getD_eq_getElem?_getD, List.getD_eq_getElem?_getD, List.getElem?_eq_getElem h5]
  rfl
theorem gw_Get (C : Cx ω M p s m args meth c) {idx a b d : Nat} {x : Sx} (hd : decode M.2.1 pc = .ok (.getfield idx, 3)) (hw : flOk M.2.2.2.2.1 idx a b d = true) (hf : (xGet a b d x).2.2.2 = true) (k : GW ω M p l e R s m args below meth c cells slots Z (pc + 3) (xGet a b d x).1 (xGet a b d x).2.1 (xGet a b d x).2.2.1) : GW ω M p l e R s m args below meth c cells slots Z pc x.1 x.2.1 x.2.2.1 := by
  obtain ⟨L, st, μ, f⟩ := x
  rcases st with _ | ⟨v, st⟩
  · exact absurd hf Bool.false_ne_true
  cases v <;> try exact absurd hf Bool.false_ne_true
  rename_i q
  obtain ⟨hx, hb, hml, hr, hown, hts, hnw, hK, hlk, hap⟩ := C
  obtain ⟨w1, w2, w3, w4, w5⟩ := fl_use hw
  have ho : shA q = (0, a) := of_decide_eq_true (f2 hf).2
  have hq := shA_lt ho (by decide)
  intro H locs ls hP hS hl hL
  have hkl : b < (fkL.getD a []).length := by rw [cl_len a w2]; exact w3
  refine va_get hx hb hts (cl_in a w2) hown hK hP q (fs := fsV ω μ q a) (by rw [cW_at hq, ceE_o ho]) (cl_at a w2) b w3 (hts _ w1) (fun _ h => h) (fsV_at hkl) hd ?_
  have e1 : fV ω μ q b ((fkL.getD a []).getD b 0) = tv ω (aV μ q b d) := by
    rw [w5]
    rcases d with _ | _ | d <;> rfl
  rw [e1]
  exact k H locs ls hP hS hl hL
theorem gw_Put (C : Cx ω M p s m args meth c) {idx a b d : Nat} {x : Sx} (hd : decode M.2.1 pc = .ok (.putfield idx, 3)) (hw : flOk M.2.2.2.2.1 idx a b d = true) (hfin : (TT a b).2.2.2 = false) (hf : (xPut a b d x).2.2.2 = true) (k : GW ω M p l e R s m args below meth c cells slots Z (pc + 3) (xPut a b d x).1 (xPut a b d x).2.1 (xPut a b d x).2.2.1) : GW ω M p l e R s m args below meth c cells slots Z pc x.1 x.2.1 x.2.2.1 := by
  obtain ⟨L, st, μ, f⟩ := x
  rcases st with _ | ⟨v, _ | ⟨w, st⟩⟩
  · exact absurd hf Bool.false_ne_true
  · cases v <;> exact absurd hf Bool.false_ne_true
  obtain ⟨hx, hb, hml, hr, hown, hts, hnw, hK, hlk, hap⟩ := C
  obtain ⟨w1, w2, w3, w4, w5⟩ := fl_use hw
  have hkl : b < (fkL.getD a []).length := by rw [cl_len a w2]; exact w3
  have kd := cl_kd a w2 b w3
  cases v <;> try exact absurd hf Bool.false_ne_true
  · cases w <;> try exact absurd hf Bool.false_ne_true
    rename_i v q
    obtain ⟨-, f1, f2⟩ := f3 hf
    have ho : shA q = (0, a) := of_decide_eq_true f1
    have hq := shA_lt ho (by decide)
    have hd0 : d = 0 := eq_of_beq f2
    subst hd0
    intro H locs ls hP hS hl hL
    refine va_put hx hb hts (cl_in a w2) (tyT a) (cl_ty a w2) (cl_nm a w2) hown hK hP (cW_D hap) hS q (fs := fsV ω μ q a) (by rw [cW_at hq, ceE_o ho]) (cl_at a w2) b w3 (hts _ w1) (fun _ h => h) hfin (ty := .int) (v := .int v) (by rw [cl_ty a w2 b w3, kd.1 w4]) rfl rfl (by rw [fsV_len]; exact hkl) hd (fun H1 locs1 hP1 hD1 hS1 => ?_)
    rw [cW_wi_o ho hkl w5] at hP1
    exact k H1 locs1 ls hP1 hS1 hl hL
  · cases w <;> try exact absurd hf Bool.false_ne_true
    rename_i v q
    obtain ⟨-, f1, f2⟩ := f3 hf
    have ho : shA q = (0, a) := of_decide_eq_true f1
    have hq := shA_lt ho (by decide)
    have hd0 : d = 1 := eq_of_beq f2
    subst hd0
    intro H locs ls hP hS hl hL
    refine va_put hx hb hts (cl_in a w2) (tyT a) (cl_ty a w2) (cl_nm a w2) hown hK hP (cW_D hap) hS q (fs := fsV ω μ q a) (by rw [cW_at hq, ceE_o ho]) (cl_at a w2) b w3 (hts _ w1) (fun _ h => h) hfin (ty := .long) (v := .long v) (by rw [cl_ty a w2 b w3, kd.2 w4]) rfl rfl (by rw [fsV_len]; exact hkl) hd (fun H1 locs1 hP1 hD1 hS1 => ?_)
    rw [cW_wl_o ho hkl w5] at hP1
    exact k H1 locs1 ls hP1 hS1 hl hL
  · cases w <;> try exact absurd hf Bool.false_ne_true
    rename_i v q
    obtain ⟨-, f1, f2, f3⟩ := f4 hf
    have hq0 : q = 0 := of_decide_eq_true f1
    have ha6 : a = 6 := eq_of_beq f2
    have hb2 : b < 2 := of_decide_eq_true f3
    subst hq0
    subst ha6
    intro H locs ls hP hS hl hL
    refine va_put hx hb hts (cl_in 6 w2) (tyT 6) (cl_ty 6 w2) (cl_nm 6 w2) hown hK hP (cW_D hap) hS 0 (fs := fsV ω μ 0 6) (by rw [cW_at (by decide), ceE_o (ci := 6) (by decide)]) (cl_at 6 w2) b w3 (hts _ w1) (fun _ h => h) hfin (ty := .object "SimplicialSet$Cells") (v := .ref (wa ω v)) (by rw [cl_ty 6 w2 b w3]; rcases (show b = 0 ∨ b = 1 by omega) with rfl | rfl <;> rfl) rfl rfl (by rw [fsV_len]; exact hkl) hd (fun H1 locs1 hP1 hD1 hS1 => ?_)
    rw [cW_wr_o hb2] at hP1
    exact k H1 locs1 ls hP1 hS1 hl hL
theorem inb_use {q t : Nat} {j : Int32} (h : inb q t j = true) : (shA q) = (t, (shA q).2) ∧ vp_in j (shA q).2 := by
  obtain ⟨h1, h2⟩ := b2 h
  have h3 := of_decide_eq_true h1
  exact ⟨by rw [← h3], (of_decide_eq_true h2 : ¬ (j < 0 ∨ (shA q).2 ≤ j.toNatClampNeg))⟩
theorem gw_Ial (C : Cx ω M p s m args meth c) {x : Sx} (hd : decode M.2.1 pc = .ok (.iaload, 1)) (hf : (xIal x).2.2.2 = true) (k : GW ω M p l e R s m args below meth c cells slots Z (pc + 1) (xIal x).1 (xIal x).2.1 (xIal x).2.2.1) : GW ω M p l e R s m args below meth c cells slots Z pc x.1 x.2.1 x.2.2.1 := by
  obtain ⟨L, st, μ, f⟩ := x
  rcases st with _ | ⟨v, _ | ⟨w, st⟩⟩
  · exact absurd hf Bool.false_ne_true
  · cases v <;> exact absurd hf Bool.false_ne_true
  cases v <;> try exact absurd hf Bool.false_ne_true
  cases w <;> try exact absurd hf Bool.false_ne_true
  rename_i j q
  obtain ⟨hx, hb, hml, hr, hown, hts, hnw, hK, hlk, hap⟩ := C
  obtain ⟨h1, h2⟩ := inb_use (f2 hf).2
  have hq := shA_lt h1 (by decide)
  intro H locs ls hP hS hl hL
  exact va_iald hx hb hK hP q 0 (by rw [cW_at hq, ceE_i h1] <;> rfl) rfl h2 hd (k H locs ls hP hS hl hL)
theorem gw_Zal (C : Cx ω M p s m args meth c) {x : Sx} (hd : decode M.2.1 pc = .ok (.baload, 1)) (hf : (xZal x).2.2.2 = true) (k : GW ω M p l e R s m args below meth c cells slots Z (pc + 1) (xZal x).1 (xZal x).2.1 (xZal x).2.2.1) : GW ω M p l e R s m args below meth c cells slots Z pc x.1 x.2.1 x.2.2.1 := by
  obtain ⟨L, st, μ, f⟩ := x
  rcases st with _ | ⟨v, _ | ⟨w, st⟩⟩
  · exact absurd hf Bool.false_ne_true
  · cases v <;> exact absurd hf Bool.false_ne_true
  cases v <;> try exact absurd hf Bool.false_ne_true
  cases w <;> try exact absurd hf Bool.false_ne_true
  rename_i j q
  obtain ⟨hx, hb, hml, hr, hown, hts, hnw, hK, hlk, hap⟩ := C
  obtain ⟨h1, h2⟩ := inb_use (f2 hf).2
  have hq := shA_lt h1 (by decide)
  intro H locs ls hP hS hl hL
  exact va_zald hx hb hK hP q 2 (by rw [cW_at hq, ceE_z h1] <;> rfl) rfl h2 hd (k H locs ls hP hS hl hL)
theorem gw_Lal (C : Cx ω M p s m args meth c) {x : Sx} (hd : decode M.2.1 pc = .ok (.laload, 1)) (hf : (xLal x).2.2.2 = true) (k : GW ω M p l e R s m args below meth c cells slots Z (pc + 1) (xLal x).1 (xLal x).2.1 (xLal x).2.2.1) : GW ω M p l e R s m args below meth c cells slots Z pc x.1 x.2.1 x.2.2.1 := by
  obtain ⟨L, st, μ, f⟩ := x
  rcases st with _ | ⟨v, _ | ⟨w, st⟩⟩
  · exact absurd hf Bool.false_ne_true
  · cases v <;> exact absurd hf Bool.false_ne_true
  cases v <;> try exact absurd hf Bool.false_ne_true
  cases w <;> try exact absurd hf Bool.false_ne_true
  rename_i j q
  obtain ⟨hx, hb, hml, hr, hown, hts, hnw, hK, hlk, hap⟩ := C
  obtain ⟨h1, h2⟩ := inb_use (f2 hf).2
  have hq := shA_lt h1 (by decide)
  intro H locs ls hP hS hl hL
  exact va_lald hx hb hK hP q 1 (by rw [cW_at hq, ceE_l h1] <;> rfl) rfl h2 hd (k H locs ls hP hS hl hL)
theorem gw_Ias (C : Cx ω M p s m args meth c) {x : Sx} (hd : decode M.2.1 pc = .ok (.iastore, 1)) (hf : (xIas x).2.2.2 = true) (k : GW ω M p l e R s m args below meth c cells slots Z (pc + 1) (xIas x).1 (xIas x).2.1 (xIas x).2.2.1) : GW ω M p l e R s m args below meth c cells slots Z pc x.1 x.2.1 x.2.2.1 := by
  obtain ⟨L, st, μ, f⟩ := x
  rcases st with _ | ⟨v, _ | ⟨w, _ | ⟨u, st⟩⟩⟩
  · exact absurd hf Bool.false_ne_true
  · cases v <;> exact absurd hf Bool.false_ne_true
  · cases v <;> first | exact absurd hf Bool.false_ne_true | (cases w <;> exact absurd hf Bool.false_ne_true)
  cases v <;> try exact absurd hf Bool.false_ne_true
  cases w <;> try exact absurd hf Bool.false_ne_true
  cases u <;> try exact absurd hf Bool.false_ne_true
  rename_i v j q
  obtain ⟨hx, hb, hml, hr, hown, hts, hnw, hK, hlk, hap⟩ := C
  obtain ⟨h1, h2⟩ := inb_use (f2 hf).2
  have hq := shA_lt h1 (by decide)
  intro H locs ls hP hS hl hL
  refine va_iast hx hb hK hP (cW_D hap) hS q 0 (by rw [cW_at hq, ceE_i h1] <;> rfl) rfl h2 hd (fun H1 locs1 hP1 hD1 hS1 => ?_)
  rw [cW_wi_a h1] at hP1
  exact k H1 locs1 ls hP1 hS1 hl hL
theorem gw_Zas (C : Cx ω M p s m args meth c) {x : Sx} (hd : decode M.2.1 pc = .ok (.bastore, 1)) (hf : (xZas x).2.2.2 = true) (k : GW ω M p l e R s m args below meth c cells slots Z (pc + 1) (xZas x).1 (xZas x).2.1 (xZas x).2.2.1) : GW ω M p l e R s m args below meth c cells slots Z pc x.1 x.2.1 x.2.2.1 := by
  obtain ⟨L, st, μ, f⟩ := x
  rcases st with _ | ⟨v, _ | ⟨w, _ | ⟨u, st⟩⟩⟩
  · exact absurd hf Bool.false_ne_true
  · cases v <;> exact absurd hf Bool.false_ne_true
  · cases v <;> first | exact absurd hf Bool.false_ne_true | (cases w <;> exact absurd hf Bool.false_ne_true)
  cases v <;> try exact absurd hf Bool.false_ne_true
  cases w <;> try exact absurd hf Bool.false_ne_true
  cases u <;> try exact absurd hf Bool.false_ne_true
  rename_i v j q
  obtain ⟨hx, hb, hml, hr, hown, hts, hnw, hK, hlk, hap⟩ := C
  obtain ⟨h1, h2⟩ := inb_use (f2 hf).2
  have hq := shA_lt h1 (by decide)
  intro H locs ls hP hS hl hL
  refine va_zast hx hb hK hP (cW_D hap) hS q 2 (by rw [cW_at hq, ceE_z h1] <;> rfl) rfl h2 hd (fun H1 locs1 hP1 hD1 hS1 => ?_)
  rw [cW_wi_z h1] at hP1
  exact k H1 locs1 ls hP1 hS1 hl hL
theorem gw_Las (C : Cx ω M p s m args meth c) {x : Sx} (hd : decode M.2.1 pc = .ok (.lastore, 1)) (hf : (xLas x).2.2.2 = true) (k : GW ω M p l e R s m args below meth c cells slots Z (pc + 1) (xLas x).1 (xLas x).2.1 (xLas x).2.2.1) : GW ω M p l e R s m args below meth c cells slots Z pc x.1 x.2.1 x.2.2.1 := by
  obtain ⟨L, st, μ, f⟩ := x
  rcases st with _ | ⟨v, _ | ⟨w, _ | ⟨u, st⟩⟩⟩
  · exact absurd hf Bool.false_ne_true
  · cases v <;> exact absurd hf Bool.false_ne_true
  · cases v <;> first | exact absurd hf Bool.false_ne_true | (cases w <;> exact absurd hf Bool.false_ne_true)
  cases v <;> try exact absurd hf Bool.false_ne_true
  cases w <;> try exact absurd hf Bool.false_ne_true
  cases u <;> try exact absurd hf Bool.false_ne_true
  rename_i v j q
  obtain ⟨hx, hb, hml, hr, hown, hts, hnw, hK, hlk, hap⟩ := C
  obtain ⟨h1, h2⟩ := inb_use (f2 hf).2
  have hq := shA_lt h1 (by decide)
  intro H locs ls hP hS hl hL
  refine va_last hx hb hK hP (cW_D hap) hS q 1 (by rw [cW_at hq, ceE_l h1] <;> rfl) rfl h2 hd (fun H1 locs1 hP1 hD1 hS1 => ?_)
  rw [cW_wl_a h1] at hP1
  exact k H1 locs1 ls hP1 hS1 hl hL
theorem gw_Len (C : Cx ω M p s m args meth c) {x : Sx} (hd : decode M.2.1 pc = .ok (.arraylength, 1)) (hf : (xLen x).2.2.2 = true) (k : GW ω M p l e R s m args below meth c cells slots Z (pc + 1) (xLen x).1 (xLen x).2.1 (xLen x).2.2.1) : GW ω M p l e R s m args below meth c cells slots Z pc x.1 x.2.1 x.2.2.1 := by
  obtain ⟨L, st, μ, f⟩ := x
  rcases st with _ | ⟨v, st⟩
  · exact absurd hf Bool.false_ne_true
  cases v <;> try exact absurd hf Bool.false_ne_true
  rename_i q
  obtain ⟨hx, hb, hml, hr, hown, hts, hnw, hK, hlk, hap⟩ := C
  have h0 := of_decide_eq_true (f2 hf).2
  have h1 : (shA q).1 = 1 ∨ (shA q).1 = 2 ∨ (shA q).1 = 3 := by omega
  intro H locs ls hP hS hl hL
  rcases h1 with h1 | h1 | h1
  · have h2 : shA q = (1, (shA q).2) := by rw [← h1]
    have hq := shA_lt h2 (by decide)
    exact va_alen (x := ((shA q).2, .inl (μ.1 q))) (v := Int32.ofNat (shA q).2) hx hb hK hP q 0 (by rw [cW_at hq, ceE_i h2] <;> rfl) (ty := .int) rfl rfl hd (k H locs ls hP hS hl hL)
  · have h2 : shA q = (2, (shA q).2) := by rw [← h1]
    have hq := shA_lt h2 (by decide)
    exact va_alen (x := ((shA q).2, .inr (.inl (μ.2.1 q)))) (v := Int32.ofNat (shA q).2) hx hb hK hP q 1 (by rw [cW_at hq, ceE_l h2] <;> rfl) (ty := .long) rfl rfl hd (k H locs ls hP hS hl hL)
  · have h2 : shA q = (3, (shA q).2) := by rw [← h1]
    have hq := shA_lt h2 (by decide)
    exact va_alen (x := ((shA q).2, .inl (μ.1 q))) (v := Int32.ofNat (shA q).2) hx hb hK hP q 2 (by rw [cW_at hq, ceE_z h2] <;> rfl) (ty := .boolean) rfl rfl hd (k H locs ls hP hS hl hL)
end GWM
end
section
/-! one instruction of any kind, a block of them -/
section GWB
variable {ω : Wd} {M : MD} {p : Program} {l : Launch} {e : Env} {R : Room} {s : State} {m : MethodId} {args : Array Value} {below : List Frame} {meth : Method} {c : Code} {cells slots : Nat} {Z : State → Prop} {pc : Nat}
theorem sI_fl (q : IA) (x : Sx) (h : (sI q x).2.2.2 = true) : x.2.2.2 = true := by
  obtain ⟨i, len, a, b, d, z⟩ := q
  obtain ⟨L, st, μ, f⟩ := x
  cases f
  · exfalso
    cases i <;> first
      | exact absurd h Bool.false_ne_true
      | (revert h; simp only [sI, xP, xLi, xLl, xLa, xSi, xSa, xSl, xInc, xII, xIIn, xJJ, xJJn, xJI, xCmp, xI2l, xDup, xPop, xDup2, xGet, xPut, xIal, xZal, xLal, xIas, xZas, xLas, xLen, x0]; split <;> (try (rename_i heq; cases heq)) <;> simp [xP, x0])
  · rfl
set_option maxHeartbeats 4000000 in
theorem gw_one (C : Cx ω M p s m args meth c) (q : IA) (x : Sx) (hk : ckI M.2.2.2.2.1 M.2.1 pc q = true) (hf : (sI q x).2.2.2 = true) (k : GW ω M p l e R s m args below meth c cells slots Z (pc + q.2.1) (sI q x).1 (sI q x).2.1 (sI q x).2.2.1) : GW ω M p l e R s m args below meth c cells slots Z pc x.1 x.2.1 x.2.2.1 := by
  obtain ⟨i, len, a, b, d, z⟩ := q
  have C0 := C
  obtain ⟨hx, hb, hml, hr, hown, hts, hnw, hK, hlk, hap⟩ := C
  obtain ⟨hk1, hk2⟩ := b2 hk
  have hd : decode M.2.1 pc = .ok (i, len) := of_decide_eq_true hk1
  cases i <;> try exact absurd hf Bool.false_ne_true
  case iconst n => obtain rfl : len = 1 := eq_of_beq hk2; exact gw_P (fun h => lv_iconst hx hb hd rfl h) k
  case bipush n => obtain rfl : len = 2 := eq_of_beq hk2; exact gw_P (fun h => lv_bipush hx hb hd rfl h) k
  case sipush n => obtain rfl : len = 3 := eq_of_beq hk2; exact gw_P (fun h => lv_sipush hx hb hd rfl h) k
  case lconst n => obtain rfl : len = 1 := eq_of_beq hk2; exact gw_P (fun h => lv_lconst hx hb hd rfl h) k
  case ldc n =>
    obtain ⟨h1, h2⟩ := b2 hk2
    obtain rfl : len = 2 := eq_of_beq h2
    exact gw_P (fun h => lv_ldc hx hb hown (hts _ (ctI_ok _ (List.contains_iff_mem.mp h1))) hd h) k
  case ldc_w n =>
    obtain ⟨h1, h2⟩ := b2 hk2
    obtain rfl : len = 3 := eq_of_beq h2
    exact gw_P (fun h => lv_ldcw hx hb hown (hts _ (ctI_ok _ (List.contains_iff_mem.mp h1))) hd h) k
  case ldc2_w n =>
    obtain ⟨h1, h2⟩ := b2 hk2
    obtain rfl : len = 3 := eq_of_beq h2
    exact gw_P (fun h => lv_ldc2 hx hb hown (hts _ (ctL_ok _ (List.contains_iff_mem.mp h1))) hd h) k
  case iload_n n => obtain rfl : len = 1 := eq_of_beq hk2; exact gw_Li (fun h1 h => lv_iload_n hx hb hd rfl h1 h) hf k
  case iload n => obtain rfl : len = 2 := eq_of_beq hk2; exact gw_Li (fun h1 h => lv_iload hx hb hd h1 h) hf k
  case lload_n n => obtain rfl : len = 1 := eq_of_beq hk2; exact gw_Ll (fun h1 h => lv_lload_n hx hb hd rfl h1 h) hf k
  case lload n => obtain rfl : len = 2 := eq_of_beq hk2; exact gw_Ll (fun h1 h => lv_lload hx hb hd h1 h) hf k
  case aload_n n => obtain rfl : len = 1 := eq_of_beq hk2; exact gw_La (fun h1 h => lv_aload_n hx hb hd rfl h1 h) hf k
  case aload n => obtain rfl : len = 2 := eq_of_beq hk2; exact gw_La (fun h1 h => lv_aload hx hb hd h1 h) hf k
  case istore_n n => obtain rfl : len = 1 := eq_of_beq hk2; exact gw_Si (fun h1 h2 h => lv_istore_n hx hb hd rfl h1 h2 rfl h) hf k
  case istore n => obtain rfl : len = 2 := eq_of_beq hk2; exact gw_Si (fun h1 h2 h => lv_istore hx hb hd h1 h2 rfl h) hf k
  case lstore_n n => obtain rfl : len = 1 := eq_of_beq hk2; exact gw_Sl (fun h1 h2 h => lv_lstore_n hx hb hd rfl h1 h2 rfl h) hf k
  case lstore n => obtain rfl : len = 2 := eq_of_beq hk2; exact gw_Sl (fun h1 h2 h => lv_lstore hx hb hd h1 h2 rfl h) hf k
  case astore_n n => obtain rfl : len = 1 := eq_of_beq hk2; exact gw_Sa (fun h1 h2 h => lv_astore_n hx hb hd rfl h1 h2 rfl h) hf k
  case astore n => obtain rfl : len = 2 := eq_of_beq hk2; exact gw_Sa (fun h1 h2 h => lv_astore hx hb hd h1 h2 rfl h) hf k
  case iinc n z => obtain rfl : len = 3 := eq_of_beq hk2; exact gw_Inc (fun h1 h2 h3 h => lv_iinc hx hb hd h1 h2 rfl h3 rfl h) hf k
  case iadd => obtain rfl : len = 1 := eq_of_beq hk2; exact gw_II (fun h => lv_iadd hx hb hd h) hf k
  case isub => obtain rfl : len = 1 := eq_of_beq hk2; exact gw_II (fun h => lv_isub hx hb hd h) hf k
  case imul => obtain rfl : len = 1 := eq_of_beq hk2; exact gw_II (fun h => lv_imul hx hb hd h) hf k
  case iand => obtain rfl : len = 1 := eq_of_beq hk2; exact gw_II (fun h => lv_iand hx hb hd h) hf k
  case ior => obtain rfl : len = 1 := eq_of_beq hk2; exact gw_II (fun h => lv_ior hx hb hd h) hf k
  case ixor => obtain rfl : len = 1 := eq_of_beq hk2; exact gw_II (fun h => lv_ixor hx hb hd h) hf k
  case ishl => obtain rfl : len = 1 := eq_of_beq hk2; exact gw_II (fun h => lv_ishl hx hb hd h) hf k
  case ishr => obtain rfl : len = 1 := eq_of_beq hk2; exact gw_II (fun h => lv_ishr hx hb hd h) hf k
  case iushr => obtain rfl : len = 1 := eq_of_beq hk2; exact gw_II (fun h => lv_iushr hx hb hd rfl h) hf k
  case idiv => obtain rfl : len = 1 := eq_of_beq hk2; exact gw_IIn (fun h1 h => lv_idiv hx hb hd h1 h) hf k
  case irem => obtain rfl : len = 1 := eq_of_beq hk2; exact gw_IIn (fun h1 h => lv_irem hx hb hd h1 h) hf k
  case ladd => obtain rfl : len = 1 := eq_of_beq hk2; exact gw_JJ (fun h => lv_ladd hx hb hd h) hf k
  case lsub => obtain rfl : len = 1 := eq_of_beq hk2; exact gw_JJ (fun h => lv_lsub hx hb hd h) hf k
  case lmul => obtain rfl : len = 1 := eq_of_beq hk2; exact gw_JJ (fun h => lv_lmul hx hb hd h) hf k
  case land => obtain rfl : len = 1 := eq_of_beq hk2; exact gw_JJ (fun h => lv_land hx hb hd h) hf k
  case lor => obtain rfl : len = 1 := eq_of_beq hk2; exact gw_JJ (fun h => lv_lor hx hb hd h) hf k
  case ldiv => obtain rfl : len = 1 := eq_of_beq hk2; exact gw_JJn (fun h1 h => lv_ldiv hx hb hd h1 h) hf k
  case lrem => obtain rfl : len = 1 := eq_of_beq hk2; exact gw_JJn (fun h1 h => lv_lrem hx hb hd h1 h) hf k
  case lshl => obtain rfl : len = 1 := eq_of_beq hk2; exact gw_JI (fun h => lv_lshl hx hb hd rfl h) hf k
  case lshr => obtain rfl : len = 1 := eq_of_beq hk2; exact gw_JI (fun h => lv_lshr hx hb hd rfl h) hf k
  case lcmp => obtain rfl : len = 1 := eq_of_beq hk2; exact gw_Cmp (fun h => W.lcmp hx hb hd h) hf k
  case i2l => obtain rfl : len = 1 := eq_of_beq hk2; exact gw_I2l (fun h => lv_i2l hx hb hd rfl h) hf k
  case dup => obtain rfl : len = 1 := eq_of_beq hk2; exact gw_Dup (fun h1 h => lv_dup hx hb hd h1 h) hf k
  case pop => obtain rfl : len = 1 := eq_of_beq hk2; exact gw_Pop (fun h1 h => lv_pop hx hb hd h1 h) hf k
  case dup2 => obtain rfl : len = 1 := eq_of_beq hk2; exact gw_Dup2 (fun h1 h2 h => lv_dup2_11 hx hb hd h1 h2 h) hf k
  case getfield n =>
    obtain ⟨h1, h2⟩ := b2 hk2
    obtain rfl : len = 3 := eq_of_beq h2
    exact gw_Get C0 hd h1 hf k
  case putfield n =>
    obtain ⟨h1, h2, h3⟩ := b3 hk2
    obtain rfl : len = 3 := eq_of_beq h3
    exact gw_Put C0 hd h1 (by simpa using h2) hf k
  case iaload => obtain rfl : len = 1 := eq_of_beq hk2; exact gw_Ial C0 hd hf k
  case baload => obtain rfl : len = 1 := eq_of_beq hk2; exact gw_Zal C0 hd hf k
  case laload => obtain rfl : len = 1 := eq_of_beq hk2; exact gw_Lal C0 hd hf k
  case iastore => obtain rfl : len = 1 := eq_of_beq hk2; exact gw_Ias C0 hd hf k
  case bastore => obtain rfl : len = 1 := eq_of_beq hk2; exact gw_Zas C0 hd hf k
  case lastore => obtain rfl : len = 1 := eq_of_beq hk2; exact gw_Las C0 hd hf k
  case arraylength => obtain rfl : len = 1 := eq_of_beq hk2; exact gw_Len C0 hd hf k
def xs : List IA → Sx → Sx
  | [], x => x
  | q :: r, x => xs r (sI q x)
def ckB (ow : Nat) (cc : ByteArray) : Nat → List IA → Nat → Bool
  | pc, [], n => pc == n
  | pc, q :: r, n => ckI ow cc pc q && ckB ow cc (pc + q.2.1) r n
theorem xs_fl : ∀ (is : List IA) (x : Sx), (xs is x).2.2.2 = true → x.2.2.2 = true
  | [], _, h => h
  | q :: r, x, h => sI_fl q x (xs_fl r _ h)
theorem gw_blk (C : Cx ω M p s m args meth c) : ∀ (is : List IA) (pc n : Nat) (x : Sx), ckB M.2.2.2.2.1 M.2.1 pc is n = true → (xs is x).2.2.2 = true → GW ω M p l e R s m args below meth c cells slots Z n (xs is x).1 (xs is x).2.1 (xs is x).2.2.1 → GW ω M p l e R s m args below meth c cells slots Z pc x.1 x.2.1 x.2.2.1
  | [], pc, n, x, hk, hf, k => by
    obtain rfl : pc = n := eq_of_beq hk
    exact k
  | q :: r, pc, n, x, hk, hf, k => by
    obtain ⟨h1, h2⟩ := b2 hk
    exact gw_one C q x h1 (xs_fl r _ hf) (gw_blk C r _ n _ h2 hf k)
end GWB
end
section
/-! branches, calls, returns; a method's contract -/
def icd (cd : Jvm.ClassFile.Cond) (x y : Int32) : Prop := match cd with
  | .eq => x = y
  | .ne => ¬ x = y
  | .lt => x < y
  | .ge => y ≤ x
  | .gt => y < x
  | .le => x ≤ y
def rmM (M : MD) : Room := { frames := M.2.2.2.2.2.1, cells := 0, slots := 0, locals := M.2.2.2.2.2.2 }
def Qx (ω : Wd) (Q : Option Value → Mm → Prop) : Array Value → State → Outcome → State → Prop := fun _ st oc t => (∃ (v : Option Value) (μ : Mm), oc = .returned (v.map (tv ω)) ∧ Q v μ ∧ va_P (wD ω) vwCl (cW ω μ) t.heap) ∧ va_F (wA ω) st t
def wds (M : MD) : List Jvm.Cond := .code M.1 M.2.1 M.2.2.1 M.2.2.2.1 :: gt
def PreC (ω : Wd) (μ : Mm) (U : State) : Prop := va_P (wD ω) vwCl (cW ω μ) U.heap ∧ va_K (wD ω) vwCl (tys3 ω) U ∧ (∀ w ∈ nw, va_Nw w U) ∧ wAp ω
def Ctr (l : Launch) (ω : Wd) (M : MD) (as : List Value) (μ : Mm) (Q : Option Value → Mm → Prop) : Prop := Met l M.1 (wds M) (rmM M) (va_Pc (as.map (tv ω)) (PreC ω μ)) (Qx ω Q) 0 0 (wA ω)
def Good (l : Launch) (ω : Wd) (M : MD) (pc : Nat) (L st : List Value) (μ : Mm) (Q : Option Value → Mm → Prop) : Prop := ∀ (p : Program) (e : Env) (s : State) (m : MethodId) (args : Array Value) (below : List Frame) (meth : Method) (c : Code), Cx ω M p s m args meth c → GW ω M p l e (rmM M) s m args below meth c 0 0 (MQ below (Qx ω Q) args s 0 0 (wA ω)) pc L st μ
theorem gt_good {w : Jvm.Cond} (h : w ∈ gt) : (w.onTables && w.keeps) = true ∨ ∃ ty, w = .arrayClass ty := good_of_word (List.mem_filter.mp h).2
theorem wds_good {M : MD} (h : Jvm.Cond.code M.1 M.2.1 M.2.2.1 M.2.2.2.1 ∈ gt) : GoodIn gt (wds M) := by
  intro w hw
  rcases List.mem_cons.mp hw with rfl | hw
  · exact ⟨h, gt_good h⟩
  · exact ⟨hw, gt_good hw⟩
theorem pre_blind {ω : Wd} {μ : Mm} {av : List Value} : FrameBlind (va_Pc av (PreC ω μ)) := by
  intro a U g mk q
  obtain ⟨q0, qP, qK, qN, qA⟩ := q
  refine ⟨q0, qP, va_K.moved (u := U) (U := U.calling g mk a) (Vm.Alike.refl U.vm) qK, fun w hw => ?_, qA⟩
  obtain ⟨a1, i, x, y, rfl⟩ := nw_is hw
  exact va_Nw.same (u := U) (U := U.calling g mk a) rfl rfl (qN _ hw)
/-- what a method's words say: its code, its class -/
def MOk (M : MD) : Prop := Jvm.Cond.code M.1 M.2.1 M.2.2.1 M.2.2.2.1 ∈ gt ∧ Jvm.Cond.initialized M.1.cls ∈ gt ∧ (M.1.cls ≠ "java/lang/invoke/MethodHandle" ∧ M.1.cls ≠ "java/lang/invoke/VarHandle") ∧ M.1.cls = RR M.2.2.2.2.1
/-- a call's words: of a virtual call, of a static one, of a nest mate's -/
def StV (ow idx : Nat) (M : MD) (n : Nat) : Prop := MOk M ∧ (parseMethodDescriptor M.1.desc).map (fun d => d.parameters.length) = some n ∧ Jvm.Cond.methodLink (RR ow) idx M.1 ∈ gt ∧ Jvm.Cond.instanceMethod M.1 ∈ gt ∧ Jvm.Cond.selects M.1.cls M.1 M.1 ∈ gt ∧ M.2.2.2.2.1 < 8
def StS (ow idx : Nat) (M : MD) (n : Nat) : Prop := MOk M ∧ (parseMethodDescriptor M.1.desc).map (fun d => d.parameters.length) = some n ∧ Jvm.Cond.methodLink (RR ow) idx M.1 ∈ gt ∧ Jvm.Cond.static M.1 ∈ gt
def StN (ow idx : Nat) (M : MD) (n : Nat) : Prop := MOk M ∧ (parseMethodDescriptor M.1.desc).map (fun d => d.parameters.length) = some n ∧ (∃ host, Jvm.Cond.methodLinkNest (RR ow) idx M.1 host ∈ nw) ∧ Jvm.Cond.static M.1 ∈ gt
def rmOk (R : Room) (M : MD) (st : List Value) : Bool := decide (M.2.2.2.2.2.1 + 1 ≤ R.frames) && decide (8 + (M.2.2.1 + 11) + M.2.2.2.2.2.2 ≤ R.locals) && decide ((st.map fun v => v.category).sum ≤ 8)
section GWC
variable {ω : Wd} {M : MD} {p : Program} {l : Launch} {e : Env} {R : Room} {s : State} {m : MethodId} {args : Array Value} {below : List Frame} {meth : Method} {c : Code} {cells slots : Nat} {Z : State → Prop} {pc : Nat}
theorem gw_goto (C : Cx ω M p s m args meth c) {off : Int} {tgt : Nat} {L st : List Value} {μ : Mm} (hd : decode M.2.1 pc = .ok (.goto off, 3)) (ht : (pc : Int) + off = (tgt : Int)) (k : GW ω M p l e R s m args below meth c cells slots Z tgt L st μ) : GW ω M p l e R s m args below meth c cells slots Z pc L st μ :=
  fun H locs ls hP hS hl hL => lv_goto C.1 C.2.1 hd ht (k H locs ls hP hS hl hL)
theorem gw_icmp (C : Cx ω M p s m args meth c) {cd : Jvm.ClassFile.Cond} {off : Int} {tgt : Nat} {L st : List Value} {μ : Mm} {x y : Int32} (hd : decode M.2.1 pc = .ok (.if_icmp cd off, 3)) (ht : (pc : Int) + off = (tgt : Int)) (k1 : icd cd x y → GW ω M p l e R s m args below meth c cells slots Z tgt L st μ) (k2 : ¬ icd cd x y → GW ω M p l e R s m args below meth c cells slots Z (pc + 3) L st μ) : GW ω M p l e R s m args below meth c cells slots Z pc L (.int y :: .int x :: st) μ := by
  intro H locs ls hP hS hl hL
  cases cd
  · exact lv_icmp_eq C.1 C.2.1 hd ht (fun h => k1 h H locs ls hP hS hl hL) (fun h => k2 h H locs ls hP hS hl hL)
  · exact lv_icmp_ne C.1 C.2.1 hd ht (fun h => k1 h H locs ls hP hS hl hL) (fun h => k2 (fun g => g h) H locs ls hP hS hl hL)
  · exact lv_icmp_lt C.1 C.2.1 hd ht (fun h => k1 h H locs ls hP hS hl hL) (fun h => k2 h H locs ls hP hS hl hL)
  · exact lv_icmp_ge C.1 C.2.1 hd ht (fun h => k1 h H locs ls hP hS hl hL) (fun h => k2 h H locs ls hP hS hl hL)
  · exact lv_icmp_gt C.1 C.2.1 hd ht (fun h => k1 h H locs ls hP hS hl hL) (fun h => k2 h H locs ls hP hS hl hL)
  · exact lv_icmp_le C.1 C.2.1 hd ht (fun h => k1 h H locs ls hP hS hl hL) (fun h => k2 h H locs ls hP hS hl hL)
theorem gw_if (C : Cx ω M p s m args meth c) {cd : Jvm.ClassFile.Cond} {off : Int} {tgt : Nat} {L st : List Value} {μ : Mm} {x : Int32} (hd : decode M.2.1 pc = .ok (.ifCond cd off, 3)) (ht : (pc : Int) + off = (tgt : Int)) (k1 : icd cd x 0 → GW ω M p l e R s m args below meth c cells slots Z tgt L st μ) (k2 : ¬ icd cd x 0 → GW ω M p l e R s m args below meth c cells slots Z (pc + 3) L st μ) : GW ω M p l e R s m args below meth c cells slots Z pc L (.int x :: st) μ := by
  intro H locs ls hP hS hl hL
  cases cd
  · exact lv_if_eq C.1 C.2.1 hd ht (fun h => k1 h H locs ls hP hS hl hL) (fun h => k2 h H locs ls hP hS hl hL)
  · exact lv_if_ne C.1 C.2.1 hd ht (fun h => k1 h H locs ls hP hS hl hL) (fun h => k2 (fun g => g h) H locs ls hP hS hl hL)
  · exact lv_if_lt C.1 C.2.1 hd ht (fun h => k1 h H locs ls hP hS hl hL) (fun h => k2 h H locs ls hP hS hl hL)
  · exact lv_if_ge C.1 C.2.1 hd ht (fun h => k1 h H locs ls hP hS hl hL) (fun h => k2 h H locs ls hP hS hl hL)
  · exact lv_if_gt C.1 C.2.1 hd ht (fun h => k1 h H locs ls hP hS hl hL) (fun h => k2 h H locs ls hP hS hl hL)
  · exact lv_if_le C.1 C.2.1 hd ht (fun h => k1 h H locs ls hP hS hl hL) (fun h => k2 h H locs ls hP hS hl hL)
theorem w_after {H : Heap} {locs : List Loc} {ls : Array Slot} {st0 rest : List Value} {a : Array Value} {Q : Option Value → Mm → Prop} (hr : va_Run p l e R s m args below meth c H locs cells slots 0 0 (F0 m pc ls st0) rest (Qx ω Q a) (wA ω)) (hS : va_S (wA ω) s.heap H locs)
    (kk : ∀ (v : Option Value) (μ : Mm) (H1 : Heap) (locs1 : List Loc), Q v μ → va_P (wD ω) vwCl (cW ω μ) H1 → va_S (wA ω) s.heap H1 locs1 → W p l e R s m args below meth c H1 locs1 cells slots Z (F0 m (pc + 3) ls ((v.map (tv ω)).toList ++ rest))) : W p l e R s m args below meth c H locs cells slots Z (F0 m pc ls st0) := by
  intro T hT X
  obtain ⟨v, st₀, t, T', L, h0, X', hL, e1, e2, ⟨⟨r, μ, hv, hq, hP⟩, hz, hk⟩, st⟩ := hr T hT X
  cases hv
  rw [h0] at hz hk
  obtain ⟨t2, a1, b1⟩ := kk r μ T'.heap (locs ++ L) hq (by rw [e1]; exact hP)
    ⟨Nat.le_trans hS.1 (by rw [e1]; exact hz), fun q h1 h2 => by rw [e1, hk q (Nat.lt_of_lt_of_le h1 hS.1) h2]; exact hS.2.1 q h1 h2, fun q hq => by
      rcases List.mem_append.mp hq with h | h
      · exact hS.2.2 q h
      · exact hL q h⟩ T' rfl X'
  exact ⟨t2, st t2 a1, b1⟩
theorem callB_M (C : Cx ω M p s m args meth c) {M' : MD} {idx n : Nat} {st : List Value} (hM : MOk M') (hn : (parseMethodDescriptor M'.1.desc).map (fun d => d.parameters.length) = some n) (hl : Jvm.Cond.methodLink (RR M.2.2.2.2.1) idx M'.1 ∈ gt) (hR : rmOk R M' st = true) : CallB R s args (RR M.2.2.2.2.1) idx M'.1 M'.2.1 M'.2.2.1 M'.2.2.2.1 (wds M') (rmM M') 0 0 n := by
  obtain ⟨hx, hb, hml, hr, hown, hts, hnw, hK, hlk, hap⟩ := C
  obtain ⟨h1, h2, h3⟩ := b3 hR
  exact callB_of n hts (wds_good hM.1) rfl rfl rfl (hts _ hM.2.1) (hts _ hl) ⟨hM.2.2.1.1, hM.2.2.1.2, hn⟩ ⟨of_decide_eq_true h1, of_decide_eq_true h2⟩
theorem st_cat {st : List Value} : ((st.map (tv ω)).map fun v => v.category).sum = (st.map fun v => v.category).sum := by
  induction st with
  | nil => rfl
  | cons v t ih => simp only [List.map_cons, List.sum_cons, ih, tv_cat]
theorem pre_now (C : Cx ω M p s m args meth c) {μ : Mm} {H : Heap} (hP : va_P (wD ω) vwCl (cW ω μ) H) : ∀ U : State, U.heap = H → s.WarmedH U.vm → PreC ω μ U := by
  intro U hU hW
  obtain ⟨hx, hb, hml, hr, hown, hts, hnw, hK, hlk, hap⟩ := C
  exact ⟨by rw [hU]; exact hP, va_K.moved hW.alike hK, nw_warm hW hnw, hap⟩
theorem gw_callV (C : Cx ω M p s m args meth c) (hcs : cells ≤ R.cells ∧ slots ≤ R.slots) {M' : MD} {idx n q : Nat} {L as st : List Value} {μ : Mm} {Q' : Option Value → Mm → Prop} (hs : StV M.2.2.2.2.1 idx M' n) (hd : decode M.2.1 pc = .ok (.invokevirtual idx, 3)) (ho : oCl q M'.2.2.2.2.1 = true) (hn : as.length = n) (hR : rmOk R M' st = true) (K : Ctr l ω M' (.ref q :: as) μ Q')
    (k : ∀ v μ', Q' v μ' → GW ω M p l e R s m args below meth c cells slots Z (pc + 3) L (v.toList ++ st) μ') : GW ω M p l e R s m args below meth c cells slots Z pc L (as.reverse ++ .ref q :: st) μ := by
  intro H locs ls hP hS hl hL
  obtain ⟨hM, hpn, hlk, hin, hse, hci⟩ := hs
  have cb := callB_M C hM hpn hlk hR
  have C0 := C
  obtain ⟨hx, hb, hml, hr, hown, hts, hnw, hK, hlk, hap⟩ := C
  have ho' : shA q = (0, M'.2.2.2.2.1) := of_decide_eq_true ho
  have hq := shA_lt ho' (by decide)
  have hrec := va_recv hK hP (cl_at _ hci) (q0 := q) (a := wa ω q) (fs := fsV ω μ q M'.2.2.2.2.1) (by rw [cW_at hq, ceE_o ho'])
  rw [← hM.2.2.2] at hrec
  have hrun := va_runV (g := F0 m pc ls ((as.reverse ++ .ref q :: st).map (tv ω))) (b := wa ω q) (As := as.map (tv ω)) (rest := st.map (tv ω)) (locs := locs) (cells := cells) (slots := slots) (below := below) (meth := meth) (e := e) ⟨hx, hb, hml, hown, hts⟩ K ⟨cb, hts _ hin, hts _ hse⟩ ⟨pre_blind, hrec, fun U hU hW => ⟨rfl, pre_now C0 hP U hU hW⟩⟩ rfl (by rw [List.length_map]; exact hn) hl.1 (by simp [tv]) (lv_room (by rw [st_cat]; exact of_decide_eq_true (b3 hR).2.2)) hd hcs
  refine w_after hrun hS (fun v μ' H1 locs1 hq' hP1 hS1 => ?_)
  have := k v μ' hq' H1 locs1 ls hP1 hS1 hl hL
  rw [List.map_append] at this
  cases v <;> exact this
theorem gw_callS (C : Cx ω M p s m args meth c) (hcs : cells ≤ R.cells ∧ slots ≤ R.slots) {M' : MD} {idx n : Nat} {L as st : List Value} {μ : Mm} {Q' : Option Value → Mm → Prop} (hs : StS M.2.2.2.2.1 idx M' n) (hd : decode M.2.1 pc = .ok (.invokestatic idx, 3)) (hn : as.length = n) (hR : rmOk R M' st = true) (K : Ctr l ω M' as μ Q')
    (k : ∀ v μ', Q' v μ' → GW ω M p l e R s m args below meth c cells slots Z (pc + 3) L (v.toList ++ st) μ') : GW ω M p l e R s m args below meth c cells slots Z pc L (as.reverse ++ st) μ := by
  intro H locs ls hP hS hl hL
  obtain ⟨hM, hpn, hlk, hin⟩ := hs
  have cb := callB_M C hM hpn hlk hR
  have C0 := C
  obtain ⟨hx, hb, hml, hr, hown, hts, hnw, hK, hlk, hap⟩ := C
  have hrun := va_runS (g := F0 m pc ls ((as.reverse ++ st).map (tv ω))) (As := as.map (tv ω)) (rest := st.map (tv ω)) (H := H) (locs := locs) (cells := cells) (slots := slots) (below := below) (meth := meth) (e := e) ⟨hx, hb, hml, hown, hts⟩ K ⟨cb, hts _ hin⟩ ⟨pre_blind, fun U hU hW => ⟨rfl, pre_now C0 hP U hU hW⟩⟩ rfl (by rw [List.length_map]; exact hn) hl.1 (by simp) (lv_room (by rw [st_cat]; exact of_decide_eq_true (b3 hR).2.2)) hd hcs
  refine w_after hrun hS (fun v μ' H1 locs1 hq' hP1 hS1 => ?_)
  have := k v μ' hq' H1 locs1 ls hP1 hS1 hl hL
  rw [List.map_append] at this
  cases v <;> exact this
theorem gw_callN (C : Cx ω M p s m args meth c) (hcs : cells ≤ R.cells ∧ slots ≤ R.slots) {M' : MD} {idx n : Nat} {L as st : List Value} {μ : Mm} {Q' : Option Value → Mm → Prop} (hs : StN M.2.2.2.2.1 idx M' n) (hd : decode M.2.1 pc = .ok (.invokestatic idx, 3)) (hn : as.length = n) (hR : rmOk R M' st = true) (K : Ctr l ω M' as μ Q')
    (k : ∀ v μ', Q' v μ' → GW ω M p l e R s m args below meth c cells slots Z (pc + 3) L (v.toList ++ st) μ') : GW ω M p l e R s m args below meth c cells slots Z pc L (as.reverse ++ st) μ := by
  intro H locs ls hP hS hl hL
  obtain ⟨hM, hpn, ⟨host, hlk⟩, hin⟩ := hs
  have C0 := C
  obtain ⟨hx, hb, hml, hr, hown, hts, hnw, hK, hlk', hap⟩ := C
  obtain ⟨r1, r2, r3⟩ := b3 hR
  have cn : va_CN R s args (RR M.2.2.2.2.1) idx M'.1 host M'.2.1 M'.2.2.1 M'.2.2.2.1 (wds M') (rmM M') 0 0 n := va_cnB n hts (wds_good hM.1) rfl rfl rfl (hnw _ hlk) (hts _ hM.2.1) ⟨hM.2.2.1.1, hM.2.2.1.2, hpn⟩ ⟨of_decide_eq_true r1, of_decide_eq_true r2⟩
  have hrun := va_runSN (g := F0 m pc ls ((as.reverse ++ st).map (tv ω))) (As := as.map (tv ω)) (rest := st.map (tv ω)) (H := H) (locs := locs) (cells := cells) (slots := slots) (below := below) (meth := meth) (e := e) ⟨hx, hb, hml, hown, hts⟩ K ⟨cn, hts _ hin, trivial⟩ ⟨pre_blind, fun U hU hW => ⟨rfl, pre_now C0 hP U hU hW⟩⟩ rfl (by rw [List.length_map]; exact hn) hl.1 (by simp) (lv_room (by rw [st_cat]; exact of_decide_eq_true r3)) hd hcs
  refine w_after hrun hS (fun v μ' H1 locs1 hq' hP1 hS1 => ?_)
  have := k v μ' hq' H1 locs1 ls hP1 hS1 hl hL
  rw [List.map_append] at this
  cases v <;> exact this
theorem gw_copy (C : Cx ω M p s m args meth c) {idx q0 q1 : Nat} {L st : List Value} {μ : Mm} {sp dp n : Int32} (hlink : Jvm.Cond.methodLink (RR M.2.2.2.2.1) idx arraycopyName ∈ gt) (hnat : Jvm.Cond.native arraycopyName ∈ gt) (hstat : Jvm.Cond.static arraycopyName ∈ gt) (hini : Jvm.Cond.initialized "java/lang/System" ∈ gt) (hd : decode M.2.1 pc = .ok (.invokestatic idx, 3))
    {n0 n1 : Nat} (s0 : shA q0 = (1, n0)) (s1 : shA q1 = (1, n1)) (h1 : ¬ sp < 0) (h2 : ¬ dp < 0) (h3 : ¬ n < 0) (h4 : sp.toNatClampNeg + n.toNatClampNeg ≤ n0) (h5 : dp.toNatClampNeg + n.toNatClampNeg ≤ n1) (hfr : 1 ≤ R.frames) (hlo : (st.map fun v => v.category).sum + (nativeFrameWords "java/lang/System" "arraycopy" 5 + 11) ≤ R.locals)
    (k : GW ω M p l e R s m args below meth c cells slots Z (pc + 3) L st (ss_cp μ q0 sp.toNatClampNeg q1 dp.toNatClampNeg n.toNatClampNeg)) : GW ω M p l e R s m args below meth c cells slots Z pc L (.int n :: .int dp :: .ref q1 :: .int sp :: .ref q0 :: st) μ := by
  intro H locs ls hP hS hl hL
  obtain ⟨hx, hb, hml, hr, hown, hts, hnw, hK, hlk', hap⟩ := C
  refine va_copyi hx hb (by rw [hml]; exact hl.1.symm) hown (hts _ hlink) (hts _ hnat) (hts _ hstat) (hts _ hini) hK hP (cW_D hap) hS q0 q1 0 0 (by rw [cW_at (shA_lt s0 (by decide)), ceE_i s0]) (by rw [cW_at (shA_lt s1 (by decide)), ceE_i s1]) (ty := .int) rfl rfl rfl h1 h2 h3 h4 h5 (fun _ _ => rfl) hfr (by rw [st_cat]; exact hlo) hd (fun H1 locs1 hP1 hD1 hS1 => ?_)
  rw [cW_cp s1] at hP1
  exact k H1 locs1 ls hP1 hS1 hl hL
end GWC
section GDS
variable {l : Launch} {ω : Wd} {M : MD} {pc : Nat} {L st : List Value} {μ : Mm} {Q : Option Value → Mm → Prop}
theorem gd_blk (is : List IA) (n : Nat) {L' st' : List Value} {μ' : Mm} {f : Bool} (hk : ckB M.2.2.2.2.1 M.2.1 pc is n = true) (hx : xs is (L, st, μ, true) = (L', st', μ', f)) (hf : f = true) (k : Good l ω M n L' st' μ' Q) : Good l ω M pc L st μ Q := by
  intro p e s m args below meth c C
  refine gw_blk C is pc n (L, st, μ, true) hk (by rw [hx]; exact hf) ?_
  rw [hx]
  exact k p e s m args below meth c C
theorem gd_goto {off : Int} {tgt : Nat} (hd : decode M.2.1 pc = .ok (.goto off, 3)) (ht : (pc : Int) + off = (tgt : Int)) (k : Good l ω M tgt L st μ Q) : Good l ω M pc L st μ Q :=
  fun p e s m args below meth c C => gw_goto C hd ht (k p e s m args below meth c C)
theorem gd_icmp {cd : Jvm.ClassFile.Cond} {off : Int} {tgt : Nat} {x y : Int32} (hd : decode M.2.1 pc = .ok (.if_icmp cd off, 3)) (ht : (pc : Int) + off = (tgt : Int)) (k1 : icd cd x y → Good l ω M tgt L st μ Q) (k2 : ¬ icd cd x y → Good l ω M (pc + 3) L st μ Q) : Good l ω M pc L (.int y :: .int x :: st) μ Q :=
  fun p e s m args below meth c C => gw_icmp C hd ht (fun h => k1 h p e s m args below meth c C) (fun h => k2 h p e s m args below meth c C)
theorem gd_if {cd : Jvm.ClassFile.Cond} {off : Int} {tgt : Nat} {x : Int32} (hd : decode M.2.1 pc = .ok (.ifCond cd off, 3)) (ht : (pc : Int) + off = (tgt : Int)) (k1 : icd cd x 0 → Good l ω M tgt L st μ Q) (k2 : ¬ icd cd x 0 → Good l ω M (pc + 3) L st μ Q) : Good l ω M pc L (.int x :: st) μ Q :=
  fun p e s m args below meth c C => gw_if C hd ht (fun h => k1 h p e s m args below meth c C) (fun h => k2 h p e s m args below meth c C)
theorem gd_callV {M' : MD} {idx n q : Nat} (as : List Value) {Q' : Option Value → Mm → Prop} (hs : StV M.2.2.2.2.1 idx M' n) (hd : decode M.2.1 pc = .ok (.invokevirtual idx, 3)) (hn : as.length = n) (hR : rmOk (rmM M) M' st = true) {st0 : List Value} (h0 : st0 = as.reverse ++ .ref q :: st) (ho : oCl q M'.2.2.2.2.1 = true) (K : Ctr l ω M' (.ref q :: as) μ Q') (k : ∀ v μ', Q' v μ' → Good l ω M (pc + 3) L (v.toList ++ st) μ' Q) : Good l ω M pc L st0 μ Q := by
  subst h0
  exact fun p e s m args below meth c C => gw_callV C ⟨Nat.le_refl 0, Nat.le_refl 0⟩ hs hd ho hn hR K (fun v μ' h => k v μ' h p e s m args below meth c C)
theorem gd_callS {M' : MD} {idx n : Nat} (as : List Value) {Q' : Option Value → Mm → Prop} (hs : StS M.2.2.2.2.1 idx M' n) (hd : decode M.2.1 pc = .ok (.invokestatic idx, 3)) (hn : as.length = n) (hR : rmOk (rmM M) M' st = true) {st0 : List Value} (h0 : st0 = as.reverse ++ st) (K : Ctr l ω M' as μ Q') (k : ∀ v μ', Q' v μ' → Good l ω M (pc + 3) L (v.toList ++ st) μ' Q) : Good l ω M pc L st0 μ Q := by
  subst h0
  exact fun p e s m args below meth c C => gw_callS C ⟨Nat.le_refl 0, Nat.le_refl 0⟩ hs hd hn hR K (fun v μ' h => k v μ' h p e s m args below meth c C)
theorem gd_callN {M' : MD} {idx n : Nat} (as : List Value) {Q' : Option Value → Mm → Prop} (hs : StN M.2.2.2.2.1 idx M' n) (hd : decode M.2.1 pc = .ok (.invokestatic idx, 3)) (hn : as.length = n) (hR : rmOk (rmM M) M' st = true) {st0 : List Value} (h0 : st0 = as.reverse ++ st) (K : Ctr l ω M' as μ Q') (k : ∀ v μ', Q' v μ' → Good l ω M (pc + 3) L (v.toList ++ st) μ' Q) : Good l ω M pc L st0 μ Q := by
  subst h0
  exact fun p e s m args below meth c C => gw_callN C ⟨Nat.le_refl 0, Nat.le_refl 0⟩ hs hd hn hR K (fun v μ' h => k v μ' h p e s m args below meth c C)
theorem gd_copy {idx q0 q1 : Nat} {sp dp n : Int32} (hlink : Jvm.Cond.methodLink (RR M.2.2.2.2.1) idx arraycopyName ∈ gt) (hnat : Jvm.Cond.native arraycopyName ∈ gt) (hstat : Jvm.Cond.static arraycopyName ∈ gt) (hini : Jvm.Cond.initialized "java/lang/System" ∈ gt) (hd : decode M.2.1 pc = .ok (.invokestatic idx, 3)) (hfr : 1 ≤ (rmM M).frames) (hlo : (st.map fun v => v.category).sum + (nativeFrameWords "java/lang/System" "arraycopy" 5 + 11) ≤ (rmM M).locals)
    {n0 n1 : Nat} (s0 : shA q0 = (1, n0)) (s1 : shA q1 = (1, n1)) (h1 : ¬ sp < 0) (h2 : ¬ dp < 0) (h3 : ¬ n < 0) (h4 : sp.toNatClampNeg + n.toNatClampNeg ≤ n0) (h5 : dp.toNatClampNeg + n.toNatClampNeg ≤ n1)
    (k : Good l ω M (pc + 3) L st (ss_cp μ q0 sp.toNatClampNeg q1 dp.toNatClampNeg n.toNatClampNeg) Q) : Good l ω M pc L (.int n :: .int dp :: .ref q1 :: .int sp :: .ref q0 :: st) μ Q :=
  fun p e s m args below meth c C => gw_copy C hlink hnat hstat hini hd s0 s1 h1 h2 h3 h4 h5 hfr hlo (k p e s m args below meth c C)
theorem gd_iret {ty : FieldType} {v : Int32} (hd : decode M.2.1 pc = .ok (.ireturn, 1)) (hr : M.2.2.2.1 = some ty) (hn : narrow ty (.int v) = .int v) (hq : Q (some (.int v)) μ) : Good l ω M pc L [.int v] μ Q := by
  intro p e s m args below meth c C H locs ls hP hS hl hL
  obtain ⟨hx, hb, hml, hr', hown, hts, hnw, hK, hlk, hap⟩ := C
  exact W.zret (v := v) hx hb (by rw [hr', hr]) hn (fun t ht hW => ⟨⟨some (.int v), μ, rfl, hq, by rw [ht]; exact hP⟩, hS.F ht⟩) hS.2.2 hd hlk
theorem gd_lret {v : Int64} (hd : decode M.2.1 pc = .ok (.lreturn, 1)) (hr : M.2.2.2.1 = some .long) (hq : Q (some (.long v)) μ) : Good l ω M pc L [.long v] μ Q := by
  intro p e s m args below meth c C H locs ls hP hS hl hL
  obtain ⟨hx, hb, hml, hr', hown, hts, hnw, hK, hlk, hap⟩ := C
  exact W.lret (v := v) hx hb (by rw [hr', hr]) (fun t ht hW => ⟨⟨some (.long v), μ, rfl, hq, by rw [ht]; exact hP⟩, hS.F ht⟩) hS.2.2 hd hlk
theorem gd_vret (hd : decode M.2.1 pc = .ok (.return_, 1)) (hr : M.2.2.2.1 = none) (hq : Q none μ) : Good l ω M pc L [] μ Q := by
  intro p e s m args below meth c C H locs ls hP hS hl hL
  obtain ⟨hx, hb, hml, hr', hown, hts, hnw, hK, hlk, hap⟩ := C
  exact W.vret hx hb (by rw [hr', hr]) (fun t ht hW => ⟨⟨none, μ, rfl, hq, by rw [ht]; exact hP⟩, hS.F ht⟩) hS.2.2 hd hlk
def flt : List Value → List Value
  | [] => []
  | v :: vs => if v.category = 2 then v :: .null :: flt vs else v :: flt vs
def enL (as : List Value) (n : Nat) : List Value := flt as ++ List.replicate (n - (flt as).length) .null
theorem flt_len : ∀ as : List Value, (lg_sl (as.map (tv ω))).length = (flt as).length
  | [] => rfl
  | v :: vs => by
    have ih := flt_len vs
    unfold lg_sl at ih ⊢
    simp only [List.map_cons, List.flatMap_cons, List.length_append, flt, tv_cat, ih]
    by_cases h : v.category = 2 <;> simp [h] <;> omega
theorem enL_in : ∀ (as : List Value) (k i j : Nat) (v : Value), (flt as ++ List.replicate k Value.null)[j]? = some v → nul v = false → (i + j, tv ω v) ∈ lv_args i (as.map (tv ω))
  | [], k, i, j, v, h, hn => by
    simp only [flt, List.nil_append, List.getElem?_replicate] at h
    split at h
    · cases h; exact absurd hn (by decide)
    · cases h
  | u :: us, k, i, j, v, h, hn => by
    have ih := enL_in us k
    simp only [List.map_cons, lv_args, tv_cat]
    by_cases hc : u.category = 2
    · simp only [flt, hc, if_true, List.cons_append] at h ⊢
      rcases j with _ | _ | j
      · cases h; exact List.mem_cons_self
      · cases h; exact absurd hn (by decide)
      · have h' : (flt us ++ List.replicate k Value.null)[j]? = some v := h
        have := ih (i + 2) j v h' hn
        rw [show i + (j + 1 + 1) = i + 2 + j by omega]
        exact List.mem_cons_of_mem _ this
    · simp only [flt, hc, if_false, List.cons_append] at h ⊢
      rcases j with _ | j
      · cases h; exact List.mem_cons_self
      · have h' : (flt us ++ List.replicate k Value.null)[j]? = some v := h
        have := ih (i + 1) j v h' hn
        rw [show i + (j + 1) = i + 1 + j by omega]
        exact List.mem_cons_of_mem _ this
theorem ctr_of {as : List Value} (hy : plainName M.1.cls = true) (ho : M.1.cls = RR M.2.2.2.2.1) (hle : (flt as).length ≤ M.2.2.1) (k : Good l ω M 0 (enL as M.2.2.1) [] μ Q) : Ctr l ω M as μ Q := by
  refine Met.ofW (cc := M.2.1) (maxL := M.2.2.1) (ret := M.2.2.2.1) hy rfl ?_
  intro p e s m args below meth c s₁ B hml hv
  obtain ⟨rfl, hP, hK, hN, hap⟩ := hv
  have hts := atoms_spec (ws := wds M) B.pre
  have hl := lv_entry (as.map (tv ω)) (n := M.2.2.1) (by rw [flt_len]; exact hle)
  rw [lg_entry_eq]
  generalize (lg_sl (as.map (tv ω)) ++ List.replicate (M.2.2.1 - (lg_sl (as.map (tv ω))).length) Slot.unset).toArray = ls at hl ⊢
  have hl2 : lv_has ls M.2.2.1 (la ω (enL as M.2.2.1)) := la_sub hl (fun q hq => by
    obtain ⟨j, w⟩ := q
    obtain ⟨v, h1, h2, rfl⟩ := la_mem.mp hq
    have := enL_in (ω := ω) as _ 0 j v h1 h2
    rwa [Nat.zero_add] at this)
  exact k p e s m _ below meth c ⟨B.exec, B.bytes, hml, B.returns, by rw [← ho]; exact findClass_of_methodNamed B.named, fun w hw => hts w (List.mem_cons_of_mem _ hw), hN, hK, B.notSynchronized, hap⟩ s.heap [] ls hP va_S.rf hl2 (by unfold enL; rw [List.length_append, List.length_replicate]; omega)
theorem ctr_mono {as : List Value} {Q1 : Option Value → Mm → Prop} (h : Ctr l ω M as μ Q1) (hq : ∀ v μ', Q1 v μ' → Q v μ') : Ctr l ω M as μ Q := by
  intro p e ha hc hk s m args below hf h1 hP hK
  obtain ⟨t, o, a1, a2, a3, ⟨⟨v, μ', b1, b2, b3⟩, b4⟩, b5⟩ := h p e ha hc hk s m args below hf h1 hP hK
  exact ⟨t, o, a1, a2, a3, ⟨⟨v, μ', b1, hq v μ' b2, b3⟩, b4⟩, b5⟩
end GDS
end
section
theorem tst1 : Int32.ofInt 3 = nI 3 := rfl
theorem tst2 : (Int8.ofInt 48).toInt32 = nI 48 := rfl
theorem tst3 : (Int16.ofInt 2304).toInt32 = nI 2304 := rfl
theorem tst4 : Int64.ofInt 35184372088777 = lN 35184372088777 := rfl
theorem tst5 : Int32.ofInt (-1) = -1 := rfl
theorem tst6 : (Int8.ofInt (-101)).toInt32 = -101 := rfl
theorem tst7 : Int64.ofNat ((1 : Fin 2) : Nat) = lN 1 := rfl
theorem tst8 (μ : Mm) (a : Int32) : xs [(.aload_n 0, 1, 0, 0, 0, 0), (.getfield 75, 3, 7, 0, 0, 0), (.iload_n 1, 1, 0, 0, 0, 0), (.iadd, 1, 0, 0, 0, 0), (.istore_n 2, 1, 0, 0, 0, 0), (.aload_n 0, 1, 0, 0, 0, 0), (.getfield 7, 3, 7, 2, 2, 0), (.iload_n 2, 1, 0, 0, 0, 0), (.iaload, 1, 0, 0, 0, 0)] ([.ref 29, .int a, .null], [], μ, true) = ([.ref 29, .int a, .int (ss_i μ 29 0 + a)], [.int (ss_i μ 30 (ss_i μ 29 0 + a).toNatClampNeg)], μ, inb 30 1 (ss_i μ 29 0 + a) && true) := rfl
end

section
-- ===== PART A: goes FIRST, ahead of the names: the tables' words, and 'selects' of the private methods out of them =====
/-- a private method of a class that the tables say can be made, by its rows of tables_1 -/
def lw_okq (q : MethodName × Nat) : Prop := (q.1.cls ≠ "java/lang/invoke/MethodHandle" ∧ q.1.cls ≠ "java/lang/invoke/VarHandle") ∧ Cond.instantiable q.1.cls q.2 ∈ tables_1 ∧ Cond.privateMethod q.1 ∈ tables_1 ∧ Cond.instanceMethod q.1 ∈ tables_1
theorem lw_p0 : lw_okq (⟨"SimplicialSet", "removeAll", "()V"⟩, 10) := ⟨⟨by decide +kernel, by decide +kernel⟩, List.mem_of_getElem? (i := 15) (by decide +kernel), List.mem_of_getElem? (i := 278) (by decide +kernel), List.mem_of_getElem? (i := 279) (by decide +kernel)⟩
theorem lw_p1 : lw_okq (⟨"SimplicialSet", "checkPlace", "(IIIIII)I"⟩, 10) := ⟨⟨by decide +kernel, by decide +kernel⟩, List.mem_of_getElem? (i := 15) (by decide +kernel), List.mem_of_getElem? (i := 298) (by decide +kernel), List.mem_of_getElem? (i := 299) (by decide +kernel)⟩
theorem lw_p2 : lw_okq (⟨"SimplicialSet", "pointAt", "(III)I"⟩, 10) := ⟨⟨by decide +kernel, by decide +kernel⟩, List.mem_of_getElem? (i := 15) (by decide +kernel), List.mem_of_getElem? (i := 320) (by decide +kernel), List.mem_of_getElem? (i := 321) (by decide +kernel)⟩
theorem lw_p3 : lw_okq (⟨"SimplicialSet", "joinEnds", "(I)Z"⟩, 10) := ⟨⟨by decide +kernel, by decide +kernel⟩, List.mem_of_getElem? (i := 15) (by decide +kernel), List.mem_of_getElem? (i := 342) (by decide +kernel), List.mem_of_getElem? (i := 343) (by decide +kernel)⟩
theorem lw_p4 : lw_okq (⟨"SimplicialSet$Residues", "numberCells", "(LSimplicialSet$Cells;I)I"⟩, 5) := ⟨⟨by decide +kernel, by decide +kernel⟩, List.mem_of_getElem? (i := 107) (by decide +kernel), List.mem_of_getElem? (i := 367) (by decide +kernel), List.mem_of_getElem? (i := 368) (by decide +kernel)⟩
theorem lw_p5 : lw_okq (⟨"SimplicialSet$Residues", "loadColumn", "(LSimplicialSet$Cells;I)V"⟩, 5) := ⟨⟨by decide +kernel, by decide +kernel⟩, List.mem_of_getElem? (i := 107) (by decide +kernel), List.mem_of_getElem? (i := 374) (by decide +kernel), List.mem_of_getElem? (i := 375) (by decide +kernel)⟩
theorem lw_p6 : lw_okq (⟨"SimplicialSet$Residues", "residue", "(J)J"⟩, 5) := ⟨⟨by decide +kernel, by decide +kernel⟩, List.mem_of_getElem? (i := 107) (by decide +kernel), List.mem_of_getElem? (i := 381) (by decide +kernel), List.mem_of_getElem? (i := 382) (by decide +kernel)⟩
theorem lw_p7 : lw_okq (⟨"SimplicialSet$Homology", "eliminate", "()V"⟩, 4) := ⟨⟨by decide +kernel, by decide +kernel⟩, List.mem_of_getElem? (i := 101) (by decide +kernel), List.mem_of_getElem? (i := 385) (by decide +kernel), List.mem_of_getElem? (i := 386) (by decide +kernel)⟩
theorem lw_p8 : lw_okq (⟨"SimplicialSet$Residues", "swap", "(II)V"⟩, 5) := ⟨⟨by decide +kernel, by decide +kernel⟩, List.mem_of_getElem? (i := 107) (by decide +kernel), List.mem_of_getElem? (i := 401) (by decide +kernel), List.mem_of_getElem? (i := 402) (by decide +kernel)⟩
theorem lw_p9 : lw_okq (⟨"SimplicialSet$Homology", "clearBelow", "(II)V"⟩, 4) := ⟨⟨by decide +kernel, by decide +kernel⟩, List.mem_of_getElem? (i := 101) (by decide +kernel), List.mem_of_getElem? (i := 411) (by decide +kernel), List.mem_of_getElem? (i := 412) (by decide +kernel)⟩
theorem lw_p10 : lw_okq (⟨"SimplicialSet$Residues", "subtract", "(IIJ)V"⟩, 5) := ⟨⟨by decide +kernel, by decide +kernel⟩, List.mem_of_getElem? (i := 107) (by decide +kernel), List.mem_of_getElem? (i := 425) (by decide +kernel), List.mem_of_getElem? (i := 426) (by decide +kernel)⟩
theorem lw_p11 : lw_okq (⟨"SimplicialSet$Homology", "isolatePivot", "(I)V"⟩, 4) := ⟨⟨by decide +kernel, by decide +kernel⟩, List.mem_of_getElem? (i := 101) (by decide +kernel), List.mem_of_getElem? (i := 443) (by decide +kernel), List.mem_of_getElem? (i := 444) (by decide +kernel)⟩
theorem lw_p12 : lw_okq (⟨"SimplicialSet$Residues", "swapColumns", "(II)V"⟩, 5) := ⟨⟨by decide +kernel, by decide +kernel⟩, List.mem_of_getElem? (i := 107) (by decide +kernel), List.mem_of_getElem? (i := 459) (by decide +kernel), List.mem_of_getElem? (i := 460) (by decide +kernel)⟩
theorem lw_p13 : lw_okq (⟨"SimplicialSet$Residues", "subtractColumn", "(IIJ)V"⟩, 5) := ⟨⟨by decide +kernel, by decide +kernel⟩, List.mem_of_getElem? (i := 107) (by decide +kernel), List.mem_of_getElem? (i := 468) (by decide +kernel), List.mem_of_getElem? (i := 469) (by decide +kernel)⟩
theorem lw_p14 : lw_okq (⟨"SimplicialSet$Homology", "orderByDivision", "(I)V"⟩, 4) := ⟨⟨by decide +kernel, by decide +kernel⟩, List.mem_of_getElem? (i := 101) (by decide +kernel), List.mem_of_getElem? (i := 475) (by decide +kernel), List.mem_of_getElem? (i := 476) (by decide +kernel)⟩
theorem lw_p15 : lw_okq (⟨"SimplicialSet$Horns", "findMeetingPoints", "(LSimplicialSet$Cells;I)V"⟩, 3) := ⟨⟨by decide +kernel, by decide +kernel⟩, List.mem_of_getElem? (i := 84) (by decide +kernel), List.mem_of_getElem? (i := 503) (by decide +kernel), List.mem_of_getElem? (i := 504) (by decide +kernel)⟩
def lw_privs_1 : List (MethodName × Nat) := [(⟨"SimplicialSet", "removeAll", "()V"⟩, 10), (⟨"SimplicialSet", "checkPlace", "(IIIIII)I"⟩, 10), (⟨"SimplicialSet", "pointAt", "(III)I"⟩, 10), (⟨"SimplicialSet", "joinEnds", "(I)Z"⟩, 10), (⟨"SimplicialSet$Residues", "numberCells", "(LSimplicialSet$Cells;I)I"⟩, 5), (⟨"SimplicialSet$Residues", "loadColumn", "(LSimplicialSet$Cells;I)V"⟩, 5), (⟨"SimplicialSet$Residues", "residue", "(J)J"⟩, 5), (⟨"SimplicialSet$Homology", "eliminate", "()V"⟩, 4), (⟨"SimplicialSet$Residues", "swap", "(II)V"⟩, 5), (⟨"SimplicialSet$Homology", "clearBelow", "(II)V"⟩, 4), (⟨"SimplicialSet$Residues", "subtract", "(IIJ)V"⟩, 5), (⟨"SimplicialSet$Homology", "isolatePivot", "(I)V"⟩, 4), (⟨"SimplicialSet$Residues", "swapColumns", "(II)V"⟩, 5), (⟨"SimplicialSet$Residues", "subtractColumn", "(IIJ)V"⟩, 5), (⟨"SimplicialSet$Homology", "orderByDivision", "(I)V"⟩, 4), (⟨"SimplicialSet$Horns", "findMeetingPoints", "(LSimplicialSet$Cells;I)V"⟩, 3)]
theorem lw_r1 : ∀ q ∈ lw_privs_1, lw_okq q := List.forall_mem_cons.mpr ⟨lw_p0, List.forall_mem_cons.mpr ⟨lw_p1, List.forall_mem_cons.mpr ⟨lw_p2, List.forall_mem_cons.mpr ⟨lw_p3, List.forall_mem_cons.mpr ⟨lw_p4, List.forall_mem_cons.mpr ⟨lw_p5, List.forall_mem_cons.mpr ⟨lw_p6, List.forall_mem_cons.mpr ⟨lw_p7, List.forall_mem_cons.mpr ⟨lw_p8, List.forall_mem_cons.mpr ⟨lw_p9, List.forall_mem_cons.mpr ⟨lw_p10, List.forall_mem_cons.mpr ⟨lw_p11, List.forall_mem_cons.mpr ⟨lw_p12, List.forall_mem_cons.mpr ⟨lw_p13, List.forall_mem_cons.mpr ⟨lw_p14, List.forall_mem_cons.mpr ⟨lw_p15, fun _ h => absurd h List.not_mem_nil⟩⟩⟩⟩⟩⟩⟩⟩⟩⟩⟩⟩⟩⟩⟩⟩
theorem lw_p16 : lw_okq (⟨"SimplicialSet", "appendSubsets", "(II)V"⟩, 10) := ⟨⟨by decide +kernel, by decide +kernel⟩, List.mem_of_getElem? (i := 15) (by decide +kernel), List.mem_of_getElem? (i := 530) (by decide +kernel), List.mem_of_getElem? (i := 531) (by decide +kernel)⟩
theorem lw_p17 : lw_okq (⟨"SimplicialSet", "setFacesOfSubset", "(II)V"⟩, 10) := ⟨⟨by decide +kernel, by decide +kernel⟩, List.mem_of_getElem? (i := 15) (by decide +kernel), List.mem_of_getElem? (i := 534) (by decide +kernel), List.mem_of_getElem? (i := 535) (by decide +kernel)⟩
theorem lw_p18 : lw_okq (⟨"SimplicialSet$Pairs", "collectPartners", "(ILSimplicialSet$Cells;I)Z"⟩, 5) := ⟨⟨by decide +kernel, by decide +kernel⟩, List.mem_of_getElem? (i := 62) (by decide +kernel), List.mem_of_getElem? (i := 577) (by decide +kernel), List.mem_of_getElem? (i := 578) (by decide +kernel)⟩
theorem lw_p19 : lw_okq (⟨"SimplicialSet$Pairs", "faceOfPair", "(II)I"⟩, 5) := ⟨⟨by decide +kernel, by decide +kernel⟩, List.mem_of_getElem? (i := 62) (by decide +kernel), List.mem_of_getElem? (i := 587) (by decide +kernel), List.mem_of_getElem? (i := 588) (by decide +kernel)⟩
theorem lw_p20 : lw_okq (⟨"SimplicialSet$Pairs", "find", "(II)I"⟩, 5) := ⟨⟨by decide +kernel, by decide +kernel⟩, List.mem_of_getElem? (i := 62) (by decide +kernel), List.mem_of_getElem? (i := 595) (by decide +kernel), List.mem_of_getElem? (i := 596) (by decide +kernel)⟩
theorem lw_p21 : lw_okq (⟨"SimplicialSetModel", "addCell", "(I)I"⟩, 34) := ⟨⟨by decide +kernel, by decide +kernel⟩, List.mem_of_getElem? (i := 600) (by decide +kernel), List.mem_of_getElem? (i := 714) (by decide +kernel), List.mem_of_getElem? (i := 715) (by decide +kernel)⟩
theorem lw_p22 : lw_okq (⟨"SimplicialSetModel", "noCell", "(I)Z"⟩, 34) := ⟨⟨by decide +kernel, by decide +kernel⟩, List.mem_of_getElem? (i := 600) (by decide +kernel), List.mem_of_getElem? (i := 729) (by decide +kernel), List.mem_of_getElem? (i := 730) (by decide +kernel)⟩
theorem lw_p23 : lw_okq (⟨"SimplicialSetModel", "isMask", "(III)Z"⟩, 34) := ⟨⟨by decide +kernel, by decide +kernel⟩, List.mem_of_getElem? (i := 600) (by decide +kernel), List.mem_of_getElem? (i := 733) (by decide +kernel), List.mem_of_getElem? (i := 734) (by decide +kernel)⟩
theorem lw_p24 : lw_okq (⟨"SimplicialSetModel", "areFacesSo", "()Z"⟩, 34) := ⟨⟨by decide +kernel, by decide +kernel⟩, List.mem_of_getElem? (i := 600) (by decide +kernel), List.mem_of_getElem? (i := 747) (by decide +kernel), List.mem_of_getElem? (i := 748) (by decide +kernel)⟩
theorem lw_p25 : lw_okq (⟨"SimplicialSetModel", "takeFace", "(IIIII)V"⟩, 34) := ⟨⟨by decide +kernel, by decide +kernel⟩, List.mem_of_getElem? (i := 600) (by decide +kernel), List.mem_of_getElem? (i := 751) (by decide +kernel), List.mem_of_getElem? (i := 752) (by decide +kernel)⟩
theorem lw_p26 : lw_okq (⟨"SimplicialSetModel", "putFace", "(IIII)V"⟩, 34) := ⟨⟨by decide +kernel, by decide +kernel⟩, List.mem_of_getElem? (i := 600) (by decide +kernel), List.mem_of_getElem? (i := 761) (by decide +kernel), List.mem_of_getElem? (i := 762) (by decide +kernel)⟩
theorem lw_p27 : lw_okq (⟨"SimplicialSetModel", "countOf", "(I)I"⟩, 34) := ⟨⟨by decide +kernel, by decide +kernel⟩, List.mem_of_getElem? (i := 600) (by decide +kernel), List.mem_of_getElem? (i := 773) (by decide +kernel), List.mem_of_getElem? (i := 774) (by decide +kernel)⟩
theorem lw_p28 : lw_okq (⟨"SimplicialSetModel", "simplexBarred", "(IIIIII)I"⟩, 34) := ⟨⟨by decide +kernel, by decide +kernel⟩, List.mem_of_getElem? (i := 600) (by decide +kernel), List.mem_of_getElem? (i := 785) (by decide +kernel), List.mem_of_getElem? (i := 786) (by decide +kernel)⟩
theorem lw_p29 : lw_okq (⟨"SimplicialSetModel", "entryOf", "(II)I"⟩, 34) := ⟨⟨by decide +kernel, by decide +kernel⟩, List.mem_of_getElem? (i := 600) (by decide +kernel), List.mem_of_getElem? (i := 820) (by decide +kernel), List.mem_of_getElem? (i := 821) (by decide +kernel)⟩
theorem lw_p30 : lw_okq (⟨"SimplicialSetModel", "rankOf", "(I)I"⟩, 34) := ⟨⟨by decide +kernel, by decide +kernel⟩, List.mem_of_getElem? (i := 600) (by decide +kernel), List.mem_of_getElem? (i := 828) (by decide +kernel), List.mem_of_getElem? (i := 829) (by decide +kernel)⟩
theorem lw_p31 : lw_okq (⟨"SimplicialSetModel", "layMatrix", "(I)V"⟩, 34) := ⟨⟨by decide +kernel, by decide +kernel⟩, List.mem_of_getElem? (i := 600) (by decide +kernel), List.mem_of_getElem? (i := 832) (by decide +kernel), List.mem_of_getElem? (i := 833) (by decide +kernel)⟩
def lw_privs_2 : List (MethodName × Nat) := [(⟨"SimplicialSet", "appendSubsets", "(II)V"⟩, 10), (⟨"SimplicialSet", "setFacesOfSubset", "(II)V"⟩, 10), (⟨"SimplicialSet$Pairs", "collectPartners", "(ILSimplicialSet$Cells;I)Z"⟩, 5), (⟨"SimplicialSet$Pairs", "faceOfPair", "(II)I"⟩, 5), (⟨"SimplicialSet$Pairs", "find", "(II)I"⟩, 5), (⟨"SimplicialSetModel", "addCell", "(I)I"⟩, 34), (⟨"SimplicialSetModel", "noCell", "(I)Z"⟩, 34), (⟨"SimplicialSetModel", "isMask", "(III)Z"⟩, 34), (⟨"SimplicialSetModel", "areFacesSo", "()Z"⟩, 34), (⟨"SimplicialSetModel", "takeFace", "(IIIII)V"⟩, 34), (⟨"SimplicialSetModel", "putFace", "(IIII)V"⟩, 34), (⟨"SimplicialSetModel", "countOf", "(I)I"⟩, 34), (⟨"SimplicialSetModel", "simplexBarred", "(IIIIII)I"⟩, 34), (⟨"SimplicialSetModel", "entryOf", "(II)I"⟩, 34), (⟨"SimplicialSetModel", "rankOf", "(I)I"⟩, 34), (⟨"SimplicialSetModel", "layMatrix", "(I)V"⟩, 34)]
theorem lw_r2 : ∀ q ∈ lw_privs_2, lw_okq q := List.forall_mem_cons.mpr ⟨lw_p16, List.forall_mem_cons.mpr ⟨lw_p17, List.forall_mem_cons.mpr ⟨lw_p18, List.forall_mem_cons.mpr ⟨lw_p19, List.forall_mem_cons.mpr ⟨lw_p20, List.forall_mem_cons.mpr ⟨lw_p21, List.forall_mem_cons.mpr ⟨lw_p22, List.forall_mem_cons.mpr ⟨lw_p23, List.forall_mem_cons.mpr ⟨lw_p24, List.forall_mem_cons.mpr ⟨lw_p25, List.forall_mem_cons.mpr ⟨lw_p26, List.forall_mem_cons.mpr ⟨lw_p27, List.forall_mem_cons.mpr ⟨lw_p28, List.forall_mem_cons.mpr ⟨lw_p29, List.forall_mem_cons.mpr ⟨lw_p30, List.forall_mem_cons.mpr ⟨lw_p31, fun _ h => absurd h List.not_mem_nil⟩⟩⟩⟩⟩⟩⟩⟩⟩⟩⟩⟩⟩⟩⟩⟩
theorem lw_p32 : lw_okq (⟨"SimplicialSetModel", "rankBy", "(J)I"⟩, 34) := ⟨⟨by decide +kernel, by decide +kernel⟩, List.mem_of_getElem? (i := 600) (by decide +kernel), List.mem_of_getElem? (i := 837) (by decide +kernel), List.mem_of_getElem? (i := 838) (by decide +kernel)⟩
theorem lw_p33 : lw_okq (⟨"SimplicialSetModel", "clearColumn", "(IIJ)V"⟩, 34) := ⟨⟨by decide +kernel, by decide +kernel⟩, List.mem_of_getElem? (i := 600) (by decide +kernel), List.mem_of_getElem? (i := 844) (by decide +kernel), List.mem_of_getElem? (i := 845) (by decide +kernel)⟩
theorem lw_p34 : lw_okq (⟨"SimplicialSetModel", "layTorsion", "(I)V"⟩, 34) := ⟨⟨by decide +kernel, by decide +kernel⟩, List.mem_of_getElem? (i := 600) (by decide +kernel), List.mem_of_getElem? (i := 857) (by decide +kernel), List.mem_of_getElem? (i := 858) (by decide +kernel)⟩
theorem lw_p35 : lw_okq (⟨"SimplicialSetModel", "minorOf", "(I)J"⟩, 34) := ⟨⟨by decide +kernel, by decide +kernel⟩, List.mem_of_getElem? (i := 600) (by decide +kernel), List.mem_of_getElem? (i := 861) (by decide +kernel), List.mem_of_getElem? (i := 862) (by decide +kernel)⟩
theorem lw_p36 : lw_okq (⟨"SimplicialSetModel", "minorBy", "(IJ)J"⟩, 34) := ⟨⟨by decide +kernel, by decide +kernel⟩, List.mem_of_getElem? (i := 600) (by decide +kernel), List.mem_of_getElem? (i := 865) (by decide +kernel), List.mem_of_getElem? (i := 866) (by decide +kernel)⟩
theorem lw_p37 : lw_okq (⟨"SimplicialSetModel", "factorAt", "(I)J"⟩, 34) := ⟨⟨by decide +kernel, by decide +kernel⟩, List.mem_of_getElem? (i := 600) (by decide +kernel), List.mem_of_getElem? (i := 872) (by decide +kernel), List.mem_of_getElem? (i := 873) (by decide +kernel)⟩
theorem lw_p38 : lw_okq (⟨"SimplicialSetModel", "takesLeast", "(I)Z"⟩, 34) := ⟨⟨by decide +kernel, by decide +kernel⟩, List.mem_of_getElem? (i := 600) (by decide +kernel), List.mem_of_getElem? (i := 876) (by decide +kernel), List.mem_of_getElem? (i := 877) (by decide +kernel)⟩
theorem lw_p39 : lw_okq (⟨"SimplicialSetModel", "clearsCross", "(I)Z"⟩, 34) := ⟨⟨by decide +kernel, by decide +kernel⟩, List.mem_of_getElem? (i := 600) (by decide +kernel), List.mem_of_getElem? (i := 880) (by decide +kernel), List.mem_of_getElem? (i := 881) (by decide +kernel)⟩
theorem lw_p40 : lw_okq (⟨"SimplicialSetModel", "addRow", "(IIJ)V"⟩, 34) := ⟨⟨by decide +kernel, by decide +kernel⟩, List.mem_of_getElem? (i := 600) (by decide +kernel), List.mem_of_getElem? (i := 884) (by decide +kernel), List.mem_of_getElem? (i := 885) (by decide +kernel)⟩
theorem lw_p41 : lw_okq (⟨"SimplicialSetModel", "product64", "(JJ)J"⟩, 34) := ⟨⟨by decide +kernel, by decide +kernel⟩, List.mem_of_getElem? (i := 600) (by decide +kernel), List.mem_of_getElem? (i := 888) (by decide +kernel), List.mem_of_getElem? (i := 889) (by decide +kernel)⟩
theorem lw_p42 : lw_okq (⟨"SimplicialSetModel", "addColumn", "(IIJ)V"⟩, 34) := ⟨⟨by decide +kernel, by decide +kernel⟩, List.mem_of_getElem? (i := 600) (by decide +kernel), List.mem_of_getElem? (i := 894) (by decide +kernel), List.mem_of_getElem? (i := 895) (by decide +kernel)⟩
theorem lw_p43 : lw_okq (⟨"SimplicialSetModel", "oddRow", "(I)I"⟩, 34) := ⟨⟨by decide +kernel, by decide +kernel⟩, List.mem_of_getElem? (i := 600) (by decide +kernel), List.mem_of_getElem? (i := 898) (by decide +kernel), List.mem_of_getElem? (i := 899) (by decide +kernel)⟩
theorem lw_p44 : lw_okq (⟨"SimplicialSetModel", "hornsAt", "(IZ)I"⟩, 34) := ⟨⟨by decide +kernel, by decide +kernel⟩, List.mem_of_getElem? (i := 600) (by decide +kernel), List.mem_of_getElem? (i := 916) (by decide +kernel), List.mem_of_getElem? (i := 917) (by decide +kernel)⟩
theorem lw_p45 : lw_okq (⟨"SimplicialSetModel", "layFilled", "(II)V"⟩, 34) := ⟨⟨by decide +kernel, by decide +kernel⟩, List.mem_of_getElem? (i := 600) (by decide +kernel), List.mem_of_getElem? (i := 920) (by decide +kernel), List.mem_of_getElem? (i := 921) (by decide +kernel)⟩
theorem lw_p46 : lw_okq (⟨"SimplicialSetModel", "vertexOf", "(II)I"⟩, 34) := ⟨⟨by decide +kernel, by decide +kernel⟩, List.mem_of_getElem? (i := 600) (by decide +kernel), List.mem_of_getElem? (i := 924) (by decide +kernel), List.mem_of_getElem? (i := 925) (by decide +kernel)⟩
theorem lw_p47 : lw_okq (⟨"SimplicialSetModel", "addSubset", "(III)V"⟩, 34) := ⟨⟨by decide +kernel, by decide +kernel⟩, List.mem_of_getElem? (i := 600) (by decide +kernel), List.mem_of_getElem? (i := 936) (by decide +kernel), List.mem_of_getElem? (i := 937) (by decide +kernel)⟩
def lw_privs_3 : List (MethodName × Nat) := [(⟨"SimplicialSetModel", "rankBy", "(J)I"⟩, 34), (⟨"SimplicialSetModel", "clearColumn", "(IIJ)V"⟩, 34), (⟨"SimplicialSetModel", "layTorsion", "(I)V"⟩, 34), (⟨"SimplicialSetModel", "minorOf", "(I)J"⟩, 34), (⟨"SimplicialSetModel", "minorBy", "(IJ)J"⟩, 34), (⟨"SimplicialSetModel", "factorAt", "(I)J"⟩, 34), (⟨"SimplicialSetModel", "takesLeast", "(I)Z"⟩, 34), (⟨"SimplicialSetModel", "clearsCross", "(I)Z"⟩, 34), (⟨"SimplicialSetModel", "addRow", "(IIJ)V"⟩, 34), (⟨"SimplicialSetModel", "product64", "(JJ)J"⟩, 34), (⟨"SimplicialSetModel", "addColumn", "(IIJ)V"⟩, 34), (⟨"SimplicialSetModel", "oddRow", "(I)I"⟩, 34), (⟨"SimplicialSetModel", "hornsAt", "(IZ)I"⟩, 34), (⟨"SimplicialSetModel", "layFilled", "(II)V"⟩, 34), (⟨"SimplicialSetModel", "vertexOf", "(II)I"⟩, 34), (⟨"SimplicialSetModel", "addSubset", "(III)V"⟩, 34)]
theorem lw_r3 : ∀ q ∈ lw_privs_3, lw_okq q := List.forall_mem_cons.mpr ⟨lw_p32, List.forall_mem_cons.mpr ⟨lw_p33, List.forall_mem_cons.mpr ⟨lw_p34, List.forall_mem_cons.mpr ⟨lw_p35, List.forall_mem_cons.mpr ⟨lw_p36, List.forall_mem_cons.mpr ⟨lw_p37, List.forall_mem_cons.mpr ⟨lw_p38, List.forall_mem_cons.mpr ⟨lw_p39, List.forall_mem_cons.mpr ⟨lw_p40, List.forall_mem_cons.mpr ⟨lw_p41, List.forall_mem_cons.mpr ⟨lw_p42, List.forall_mem_cons.mpr ⟨lw_p43, List.forall_mem_cons.mpr ⟨lw_p44, List.forall_mem_cons.mpr ⟨lw_p45, List.forall_mem_cons.mpr ⟨lw_p46, List.forall_mem_cons.mpr ⟨lw_p47, fun _ h => absurd h List.not_mem_nil⟩⟩⟩⟩⟩⟩⟩⟩⟩⟩⟩⟩⟩⟩⟩⟩
theorem lw_p48 : lw_okq (⟨"SimplicialSetModel", "cellBy", "(I)I"⟩, 34) := ⟨⟨by decide +kernel, by decide +kernel⟩, List.mem_of_getElem? (i := 600) (by decide +kernel), List.mem_of_getElem? (i := 940) (by decide +kernel), List.mem_of_getElem? (i := 941) (by decide +kernel)⟩
theorem lw_p49 : lw_okq (⟨"SimplicialSetModel", "layPairs", "()V"⟩, 34) := ⟨⟨by decide +kernel, by decide +kernel⟩, List.mem_of_getElem? (i := 600) (by decide +kernel), List.mem_of_getElem? (i := 959) (by decide +kernel), List.mem_of_getElem? (i := 960) (by decide +kernel)⟩
theorem lw_p50 : lw_okq (⟨"SimplicialSetModel", "addPair", "(IIIII)V"⟩, 34) := ⟨⟨by decide +kernel, by decide +kernel⟩, List.mem_of_getElem? (i := 600) (by decide +kernel), List.mem_of_getElem? (i := 963) (by decide +kernel), List.mem_of_getElem? (i := 964) (by decide +kernel)⟩
theorem lw_p51 : lw_okq (⟨"SimplicialSetModel", "layPairFaces", "(I)V"⟩, 34) := ⟨⟨by decide +kernel, by decide +kernel⟩, List.mem_of_getElem? (i := 600) (by decide +kernel), List.mem_of_getElem? (i := 967) (by decide +kernel), List.mem_of_getElem? (i := 968) (by decide +kernel)⟩
theorem lw_p52 : lw_okq (⟨"SimplicialSetModel", "pairBy", "(IIII)I"⟩, 34) := ⟨⟨by decide +kernel, by decide +kernel⟩, List.mem_of_getElem? (i := 600) (by decide +kernel), List.mem_of_getElem? (i := 971) (by decide +kernel), List.mem_of_getElem? (i := 972) (by decide +kernel)⟩
def lw_privs_4 : List (MethodName × Nat) := [(⟨"SimplicialSetModel", "cellBy", "(I)I"⟩, 34), (⟨"SimplicialSetModel", "layPairs", "()V"⟩, 34), (⟨"SimplicialSetModel", "addPair", "(IIIII)V"⟩, 34), (⟨"SimplicialSetModel", "layPairFaces", "(I)V"⟩, 34), (⟨"SimplicialSetModel", "pairBy", "(IIII)I"⟩, 34)]
theorem lw_r4 : ∀ q ∈ lw_privs_4, lw_okq q := List.forall_mem_cons.mpr ⟨lw_p48, List.forall_mem_cons.mpr ⟨lw_p49, List.forall_mem_cons.mpr ⟨lw_p50, List.forall_mem_cons.mpr ⟨lw_p51, List.forall_mem_cons.mpr ⟨lw_p52, fun _ h => absurd h List.not_mem_nil⟩⟩⟩⟩⟩
def lw_privs : List (MethodName × Nat) := lw_privs_1 ++ (lw_privs_2 ++ (lw_privs_3 ++ (lw_privs_4)))
def lw_tbl : List Cond := k2_sels lw_privs ++ tables_1
theorem lw_privs_ok : ∀ q ∈ lw_privs, lw_okq q := by
  show ∀ q ∈ lw_privs_1 ++ (lw_privs_2 ++ (lw_privs_3 ++ (lw_privs_4))), lw_okq q
  exact List.forall_mem_append.mpr ⟨lw_r1, List.forall_mem_append.mpr ⟨lw_r2, List.forall_mem_append.mpr ⟨lw_r3, lw_r4⟩⟩⟩
end
section
/-! ===== BEGIN words of one list among another's, by their places ===== -/
theorem goodIn_r {big : List Cond} (ws : List Cond) (ps : List Nat) (hp : ws = ps.filterMap (fun i => big[i]?)) (h : ws.all goodWord = true) : GoodIn big ws := by
  intro w hw
  have h1 := List.all_eq_true.mp h w hw
  rw [hp] at hw
  obtain ⟨i, -, hi⟩ := List.mem_filterMap.mp hw
  have hm : w ∈ big := by first | exact List.mem_of_getElem? hi | exact List.getElem?_mem hi
  exact ⟨hm, good_of_word h1⟩
theorem goodIn_app {big a b : List Cond} (ha : GoodIn big a) (hb : GoodIn big b) : GoodIn big (a ++ b) := fun w h => (List.mem_append.mp h).elim (ha w) (hb w)
theorem goodIn_ca {big a b : List Cond} {c : Cond} (ha : GoodIn big (c :: a)) (hb : GoodIn big b) : GoodIn big (c :: (a ++ b)) := fun w h => (List.mem_cons.mp h).elim (fun e => ha w (List.mem_cons.mpr (Or.inl e))) (fun h => (List.mem_append.mp h).elim (fun h => ha w (List.mem_cons.mpr (Or.inr h))) (hb w))
theorem goodIn_sub {big ws : List Cond} (hm : ∀ w ∈ ws, w ∈ big) (h : ws.all goodWord = true) : GoodIn big ws := fun w hw => ⟨hm w hw, good_of_word (List.all_eq_true.mp h w hw)⟩
/-! ===== END ===== -/

/-! ===== BEGIN printed: names, fields, word lists, decode rows ===== -/
def RX0 : String := "SimplicialSet$Cells"
def TX0 : u_T := fun k => match k with
  | 0 => ("SimplicialSet$Cells", "dimensions", "[I", true)
  | 1 => ("SimplicialSet$Cells", "faces", "[I", true)
  | _ => ("SimplicialSet$Cells", "count", "I", false)
def tyX0 : Nat → FieldType := fun k => match k with
  | 0 => .array .int
  | 1 => .array .int
  | _ => .int
abbrev wsX00 : List Cond := u_ws RX0 TX0 3
theorem nmX0 : ∀ a, a < 3 → ∀ b, b < 3 → a ≠ b → (TX0 a).2.1 ≠ (TX0 b).2.1 := by decide +kernel
theorem tyX0_ok : ∀ k, k < 3 → parseFieldDescriptor (TX0 k).2.2.1 = some (tyX0 k) := by decide +kernel
abbrev cX0_init : ByteArray := prog_2_method_1_code
def yX0_init : MethodName := ⟨RX0, "<init>", "()V"⟩
abbrev cX0_has : ByteArray := prog_2_method_2_code
def yX0_has : MethodName := ⟨RX0, "has", "(I)Z"⟩
abbrev cX0_isMask : ByteArray := prog_2_method_3_code
def yX0_isMask : MethodName := ⟨RX0, "isMask", "(III)Z"⟩
abbrev cX0_faceAt : ByteArray := prog_2_method_4_code
def yX0_faceAt : MethodName := ⟨RX0, "faceAt", "(II)I"⟩
abbrev cX0_append : ByteArray := prog_2_method_5_code
def yX0_append : MethodName := ⟨RX0, "append", "(I[I)I"⟩
abbrev cX0_copyFrom : ByteArray := prog_2_method_6_code
def yX0_copyFrom : MethodName := ⟨RX0, "copyFrom", "(LSimplicialSet$Cells;)V"⟩
abbrev cX0_countOf : ByteArray := prog_2_method_7_code
def yX0_countOf : MethodName := ⟨RX0, "countOf", "(I)I"⟩
abbrev cX0_greatestDimension : ByteArray := prog_2_method_8_code
def yX0_greatestDimension : MethodName := ⟨RX0, "greatestDimension", "()I"⟩
abbrev cX0_faceOf : ByteArray := prog_2_method_9_code
def yX0_faceOf : MethodName := ⟨RX0, "faceOf", "(III)I"⟩
def RX1 : String := "SimplicialSet$Draft"
def TX1 : u_T := fun k => match k with
  | 0 => ("SimplicialSet$Draft", "faces", "[I", true)
  | _ => ("SimplicialSet$Draft", "size", "I", false)
def tyX1 : Nat → FieldType := fun k => match k with
  | 0 => .array .int
  | _ => .int
abbrev wsX10 : List Cond := u_ws RX1 TX1 2
theorem nmX1 : ∀ a, a < 2 → ∀ b, b < 2 → a ≠ b → (TX1 a).2.1 ≠ (TX1 b).2.1 := by decide +kernel
theorem tyX1_ok : ∀ k, k < 2 → parseFieldDescriptor (TX1 k).2.2.1 = some (tyX1 k) := by decide +kernel
abbrev cX1_init : ByteArray := prog_3_method_1_code
def yX1_init : MethodName := ⟨RX1, "<init>", "()V"⟩
abbrev cX1_exists : ByteArray := prog_3_method_2_code
def yX1_exists : MethodName := ⟨RX1, "exists", "()Z"⟩
abbrev cX1_begin : ByteArray := prog_3_method_3_code
def yX1_begin : MethodName := ⟨RX1, "begin", "(I)V"⟩
abbrev cX1_drop : ByteArray := prog_3_method_4_code
def yX1_drop : MethodName := ⟨RX1, "drop", "()V"⟩
abbrev cX1_isComplete : ByteArray := prog_3_method_5_code
def yX1_isComplete : MethodName := ⟨RX1, "isComplete", "()Z"⟩
abbrev cX1_satisfiesIdentities : ByteArray := prog_3_method_6_code
def yX1_satisfiesIdentities : MethodName := ⟨RX1, "satisfiesIdentities", "(LSimplicialSet$Cells;)Z"⟩
def RX2 : String := "SimplicialSet$Homology"
def TX2 : u_T := fun k => match k with
  | 0 => ("SimplicialSet$Homology", "matrix", "LSimplicialSet$Residues;", true)
  | 1 => ("SimplicialSet$Homology", "factors", "[J", true)
  | 2 => ("SimplicialSet$Homology", "rank", "I", false)
  | _ => ("SimplicialSet$Homology", "minor", "J", false)
def tyX2 : Nat → FieldType := fun k => match k with
  | 0 => .object "SimplicialSet$Residues"
  | 1 => .array .long
  | 2 => .int
  | _ => .long
abbrev wsX20 : List Cond := u_ws RX2 TX2 4
theorem nmX2 : ∀ a, a < 4 → ∀ b, b < 4 → a ≠ b → (TX2 a).2.1 ≠ (TX2 b).2.1 := by decide +kernel
theorem tyX2_ok : ∀ k, k < 4 → parseFieldDescriptor (TX2 k).2.2.1 = some (tyX2 k) := by decide +kernel
abbrev cX2_init : ByteArray := prog_4_method_1_code
def yX2_init : MethodName := ⟨RX2, "<init>", "()V"⟩
abbrev cX2_rankOf : ByteArray := prog_4_method_2_code
def yX2_rankOf : MethodName := ⟨RX2, "rankOf", "(LSimplicialSet$Cells;I)I"⟩
abbrev cX2_findFactors : ByteArray := prog_4_method_3_code
def yX2_findFactors : MethodName := ⟨RX2, "findFactors", "(LSimplicialSet$Cells;I)V"⟩
abbrev cX2_unitFactors : ByteArray := prog_4_method_4_code
def yX2_unitFactors : MethodName := ⟨RX2, "unitFactors", "()I"⟩
abbrev cX2_eliminate : ByteArray := prog_4_method_5_code
def yX2_eliminate : MethodName := ⟨RX2, "eliminate", "()V"⟩
abbrev cX2_clearBelow : ByteArray := prog_4_method_6_code
def yX2_clearBelow : MethodName := ⟨RX2, "clearBelow", "(II)V"⟩
abbrev cX2_isolatePivot : ByteArray := prog_4_method_7_code
def yX2_isolatePivot : MethodName := ⟨RX2, "isolatePivot", "(I)V"⟩
abbrev cX2_orderByDivision : ByteArray := prog_4_method_8_code
def yX2_orderByDivision : MethodName := ⟨RX2, "orderByDivision", "(I)V"⟩
def RX3 : String := "SimplicialSet$Horns"
def TX3 : u_T := fun k => match k with
  | 0 => ("SimplicialSet$Horns", "filled", "[J", true)
  | 1 => ("SimplicialSet$Horns", "meetsAsA", "[I", true)
  | _ => ("SimplicialSet$Horns", "meetsAsB", "[I", true)
def tyX3 : Nat → FieldType := fun k => match k with
  | 0 => .array .long
  | 1 => .array .int
  | _ => .array .int
abbrev wsX30 : List Cond := u_ws RX3 TX3 3
theorem nmX3 : ∀ a, a < 3 → ∀ b, b < 3 → a ≠ b → (TX3 a).2.1 ≠ (TX3 b).2.1 := by decide +kernel
theorem tyX3_ok : ∀ k, k < 3 → parseFieldDescriptor (TX3 k).2.2.1 = some (tyX3 k) := by decide +kernel
abbrev cX3_init : ByteArray := prog_5_method_1_code
def yX3_init : MethodName := ⟨RX3, "<init>", "()V"⟩
abbrev cX3_forget : ByteArray := prog_5_method_2_code
def yX3_forget : MethodName := ⟨RX3, "forget", "()V"⟩
abbrev cX3_markFilled : ByteArray := prog_5_method_3_code
def yX3_markFilled : MethodName := ⟨RX3, "markFilled", "(LSimplicialSet$Cells;I)V"⟩
abbrev cX3_countUnmarked : ByteArray := prog_5_method_4_code
def yX3_countUnmarked : MethodName := ⟨RX3, "countUnmarked", "(LSimplicialSet$Cells;I)I"⟩
abbrev cX3_findMeetingPoints : ByteArray := prog_5_method_5_code
def yX3_findMeetingPoints : MethodName := ⟨RX3, "findMeetingPoints", "(LSimplicialSet$Cells;I)V"⟩
abbrev cX3_lower : ByteArray := prog_5_method_6_code
def yX3_lower : MethodName := ⟨RX3, "lower", "(I)I"⟩
abbrev cX3_upper : ByteArray := prog_5_method_7_code
def yX3_upper : MethodName := ⟨RX3, "upper", "(I)I"⟩
def RX4 : String := "SimplicialSet$Pairs"
def TX4 : u_T := fun k => match k with
  | 0 => ("SimplicialSet$Pairs", "sizes", "[I", true)
  | 1 => ("SimplicialSet$Pairs", "firsts", "[I", true)
  | 2 => ("SimplicialSet$Pairs", "seconds", "[I", true)
  | 3 => ("SimplicialSet$Pairs", "row", "[I", true)
  | _ => ("SimplicialSet$Pairs", "count", "I", false)
def tyX4 : Nat → FieldType := fun k => match k with
  | 0 => .array .int
  | 1 => .array .int
  | 2 => .array .int
  | 3 => .array .int
  | _ => .int
abbrev wsX40 : List Cond := u_ws RX4 TX4 5
theorem nmX4 : ∀ a, a < 5 → ∀ b, b < 5 → a ≠ b → (TX4 a).2.1 ≠ (TX4 b).2.1 := by decide +kernel
theorem tyX4_ok : ∀ k, k < 5 → parseFieldDescriptor (TX4 k).2.2.1 = some (tyX4 k) := by decide +kernel
abbrev cX4_init : ByteArray := prog_6_method_1_code
def yX4_init : MethodName := ⟨RX4, "<init>", "()V"⟩
abbrev cX4_collect : ByteArray := prog_6_method_2_code
def yX4_collect : MethodName := ⟨RX4, "collect", "(LSimplicialSet$Cells;LSimplicialSet$Cells;I)Z"⟩
abbrev cX4_collectPartners : ByteArray := prog_6_method_3_code
def yX4_collectPartners : MethodName := ⟨RX4, "collectPartners", "(ILSimplicialSet$Cells;I)Z"⟩
abbrev cX4_writeTo : ByteArray := prog_6_method_4_code
def yX4_writeTo : MethodName := ⟨RX4, "writeTo", "(LSimplicialSet$Cells;LSimplicialSet$Cells;LSimplicialSet$Cells;)V"⟩
abbrev cX4_faceOfPair : ByteArray := prog_6_method_5_code
def yX4_faceOfPair : MethodName := ⟨RX4, "faceOfPair", "(II)I"⟩
abbrev cX4_find : ByteArray := prog_6_method_6_code
def yX4_find : MethodName := ⟨RX4, "find", "(II)I"⟩
def RX5 : String := "SimplicialSet$Residues"
def TX5 : u_T := fun k => match k with
  | 0 => ("SimplicialSet$Residues", "entries", "[J", true)
  | 1 => ("SimplicialSet$Residues", "placeOf", "[I", true)
  | 2 => ("SimplicialSet$Residues", "rows", "I", false)
  | 3 => ("SimplicialSet$Residues", "columns", "I", false)
  | _ => ("SimplicialSet$Residues", "modulus", "J", false)
def tyX5 : Nat → FieldType := fun k => match k with
  | 0 => .array .long
  | 1 => .array .int
  | 2 => .int
  | 3 => .int
  | _ => .long
abbrev wsX50 : List Cond := u_ws RX5 TX5 5
theorem nmX5 : ∀ a, a < 5 → ∀ b, b < 5 → a ≠ b → (TX5 a).2.1 ≠ (TX5 b).2.1 := by decide +kernel
theorem tyX5_ok : ∀ k, k < 5 → parseFieldDescriptor (TX5 k).2.2.1 = some (tyX5 k) := by decide +kernel
abbrev cX5_init : ByteArray := prog_7_method_1_code
def yX5_init : MethodName := ⟨RX5, "<init>", "()V"⟩
abbrev cX5_load : ByteArray := prog_7_method_2_code
def yX5_load : MethodName := ⟨RX5, "load", "(LSimplicialSet$Cells;IJ)V"⟩
abbrev cX5_numberCells : ByteArray := prog_7_method_3_code
def yX5_numberCells : MethodName := ⟨RX5, "numberCells", "(LSimplicialSet$Cells;I)I"⟩
abbrev cX5_loadColumn : ByteArray := prog_7_method_4_code
def yX5_loadColumn : MethodName := ⟨RX5, "loadColumn", "(LSimplicialSet$Cells;I)V"⟩
abbrev cX5_residue : ByteArray := prog_7_method_5_code
def yX5_residue : MethodName := ⟨RX5, "residue", "(J)J"⟩
abbrev cX5_times : ByteArray := prog_7_method_6_code
def yX5_times : MethodName := ⟨RX5, "times", "(JJ)J"⟩
abbrev cX5_power : ByteArray := prog_7_method_7_code
def yX5_power : MethodName := ⟨RX5, "power", "(JJ)J"⟩
abbrev cX5_at : ByteArray := prog_7_method_8_code
def yX5_at : MethodName := ⟨RX5, "at", "(II)J"⟩
abbrev cX5_rowWithEntry : ByteArray := prog_7_method_9_code
def yX5_rowWithEntry : MethodName := ⟨RX5, "rowWithEntry", "(II)I"⟩
abbrev cX5_swapRows : ByteArray := prog_7_method_10_code
def yX5_swapRows : MethodName := ⟨RX5, "swapRows", "(II)V"⟩
abbrev cX5_swapColumns : ByteArray := prog_7_method_11_code
def yX5_swapColumns : MethodName := ⟨RX5, "swapColumns", "(II)V"⟩
abbrev cX5_swap : ByteArray := prog_7_method_12_code
def yX5_swap : MethodName := ⟨RX5, "swap", "(II)V"⟩
abbrev cX5_subtractRow : ByteArray := prog_7_method_13_code
def yX5_subtractRow : MethodName := ⟨RX5, "subtractRow", "(IIJ)V"⟩
abbrev cX5_subtractColumn : ByteArray := prog_7_method_14_code
def yX5_subtractColumn : MethodName := ⟨RX5, "subtractColumn", "(IIJ)V"⟩
abbrev cX5_subtract : ByteArray := prog_7_method_15_code
def yX5_subtract : MethodName := ⟨RX5, "subtract", "(IIJ)V"⟩
abbrev cX5_moveLeast : ByteArray := prog_7_method_16_code
def yX5_moveLeast : MethodName := ⟨RX5, "moveLeast", "(I)V"⟩
abbrev cX5_isLess : ByteArray := prog_7_method_17_code
def yX5_isLess : MethodName := ⟨RX5, "isLess", "(JJ)Z"⟩
abbrev cX5_isIsolated : ByteArray := prog_7_method_18_code
def yX5_isIsolated : MethodName := ⟨RX5, "isIsolated", "(I)Z"⟩
abbrev cX5_reduceCross : ByteArray := prog_7_method_19_code
def yX5_reduceCross : MethodName := ⟨RX5, "reduceCross", "(I)V"⟩
def RX6 : String := "SimplicialSet"
def TX6 : u_T := fun k => match k with
  | 0 => ("SimplicialSet", "present", "LSimplicialSet$Cells;", false)
  | 1 => ("SimplicialSet", "spare", "LSimplicialSet$Cells;", false)
  | 2 => ("SimplicialSet", "saved", "LSimplicialSet$Cells;", true)
  | 3 => ("SimplicialSet", "draft", "LSimplicialSet$Draft;", true)
  | 4 => ("SimplicialSet", "pairs", "LSimplicialSet$Pairs;", true)
  | 5 => ("SimplicialSet", "horns", "LSimplicialSet$Horns;", true)
  | 6 => ("SimplicialSet", "homology", "LSimplicialSet$Homology;", true)
  | 7 => ("SimplicialSet", "partOf", "[I", true)
  | 8 => ("SimplicialSet", "faceRow", "[I", true)
  | _ => ("SimplicialSet", "cellOfSubset", "[I", true)
def tyX6 : Nat → FieldType := fun k => match k with
  | 0 => .object "SimplicialSet$Cells"
  | 1 => .object "SimplicialSet$Cells"
  | 2 => .object "SimplicialSet$Cells"
  | 3 => .object "SimplicialSet$Draft"
  | 4 => .object "SimplicialSet$Pairs"
  | 5 => .object "SimplicialSet$Horns"
  | 6 => .object "SimplicialSet$Homology"
  | 7 => .array .int
  | 8 => .array .int
  | _ => .array .int
abbrev wsX60 : List Cond := u_ws RX6 TX6 10
theorem nmX6 : ∀ a, a < 10 → ∀ b, b < 10 → a ≠ b → (TX6 a).2.1 ≠ (TX6 b).2.1 := by decide +kernel
theorem tyX6_ok : ∀ k, k < 10 → parseFieldDescriptor (TX6 k).2.2.1 = some (tyX6 k) := by decide +kernel
abbrev cX6_init : ByteArray := prog_1_method_1_code
def yX6_init : MethodName := ⟨RX6, "<init>", "()V"⟩
abbrev cX6_addVertex : ByteArray := prog_1_method_2_code
def yX6_addVertex : MethodName := ⟨RX6, "addVertex", "()I"⟩
abbrev cX6_beginCell : ByteArray := prog_1_method_3_code
def yX6_beginCell : MethodName := ⟨RX6, "beginCell", "(I)I"⟩
abbrev cX6_setFace : ByteArray := prog_1_method_4_code
def yX6_setFace : MethodName := ⟨RX6, "setFace", "(III)I"⟩
abbrev cX6_endCell : ByteArray := prog_1_method_5_code
def yX6_endCell : MethodName := ⟨RX6, "endCell", "()I"⟩
abbrev cX6_clear : ByteArray := prog_1_method_6_code
def yX6_clear : MethodName := ⟨RX6, "clear", "()I"⟩
abbrev cX6_cellCount : ByteArray := prog_1_method_7_code
def yX6_cellCount : MethodName := ⟨RX6, "cellCount", "(I)I"⟩
abbrev cX6_dimension : ByteArray := prog_1_method_8_code
def yX6_dimension : MethodName := ⟨RX6, "dimension", "(I)I"⟩
abbrev cX6_faceCell : ByteArray := prog_1_method_9_code
def yX6_faceCell : MethodName := ⟨RX6, "faceCell", "(IIII)I"⟩
abbrev cX6_faceMask : ByteArray := prog_1_method_10_code
def yX6_faceMask : MethodName := ⟨RX6, "faceMask", "(IIII)I"⟩
abbrev cX6_degeneracyMask : ByteArray := prog_1_method_11_code
def yX6_degeneracyMask : MethodName := ⟨RX6, "degeneracyMask", "(IIII)I"⟩
abbrev cX6_vertex : ByteArray := prog_1_method_12_code
def yX6_vertex : MethodName := ⟨RX6, "vertex", "(IIII)I"⟩
abbrev cX6_simplexCount : ByteArray := prog_1_method_13_code
def yX6_simplexCount : MethodName := ⟨RX6, "simplexCount", "(I)I"⟩
abbrev cX6_eulerCharacteristic : ByteArray := prog_1_method_14_code
def yX6_eulerCharacteristic : MethodName := ⟨RX6, "eulerCharacteristic", "()I"⟩
abbrev cX6_partCount : ByteArray := prog_1_method_15_code
def yX6_partCount : MethodName := ⟨RX6, "partCount", "()I"⟩
abbrev cX6_incidence : ByteArray := prog_1_method_16_code
def yX6_incidence : MethodName := ⟨RX6, "incidence", "(II)I"⟩
abbrev cX6_betti : ByteArray := prog_1_method_17_code
def yX6_betti : MethodName := ⟨RX6, "betti", "(I)I"⟩
abbrev cX6_torsionCount : ByteArray := prog_1_method_18_code
def yX6_torsionCount : MethodName := ⟨RX6, "torsionCount", "(I)I"⟩
abbrev cX6_torsion : ByteArray := prog_1_method_19_code
def yX6_torsion : MethodName := ⟨RX6, "torsion", "(II)J"⟩
abbrev cX6_hornCount : ByteArray := prog_1_method_20_code
def yX6_hornCount : MethodName := ⟨RX6, "hornCount", "(I)I"⟩
abbrev cX6_unfilledCount : ByteArray := prog_1_method_21_code
def yX6_unfilledCount : MethodName := ⟨RX6, "unfilledCount", "(I)I"⟩
abbrev cX6_loadSimplex : ByteArray := prog_1_method_22_code
def yX6_loadSimplex : MethodName := ⟨RX6, "loadSimplex", "(I)I"⟩
abbrev cX6_loadSphere : ByteArray := prog_1_method_23_code
def yX6_loadSphere : MethodName := ⟨RX6, "loadSphere", "(I)I"⟩
abbrev cX6_save : ByteArray := prog_1_method_24_code
def yX6_save : MethodName := ⟨RX6, "save", "()I"⟩
abbrev cX6_product : ByteArray := prog_1_method_25_code
def yX6_product : MethodName := ⟨RX6, "product", "()I"⟩
abbrev cX6_removeAll : ByteArray := prog_1_method_26_code
def yX6_removeAll : MethodName := ⟨RX6, "removeAll", "()V"⟩
abbrev cX6_checkPlace : ByteArray := prog_1_method_27_code
def yX6_checkPlace : MethodName := ⟨RX6, "checkPlace", "(IIIIII)I"⟩
abbrev cX6_pointAt : ByteArray := prog_1_method_28_code
def yX6_pointAt : MethodName := ⟨RX6, "pointAt", "(III)I"⟩
abbrev cX6_joinEnds : ByteArray := prog_1_method_29_code
def yX6_joinEnds : MethodName := ⟨RX6, "joinEnds", "(I)Z"⟩
abbrev cX6_appendSubsets : ByteArray := prog_1_method_30_code
def yX6_appendSubsets : MethodName := ⟨RX6, "appendSubsets", "(II)V"⟩
abbrev cX6_setFacesOfSubset : ByteArray := prog_1_method_31_code
def yX6_setFacesOfSubset : MethodName := ⟨RX6, "setFacesOfSubset", "(II)V"⟩
abbrev cX6_pack : ByteArray := prog_1_method_32_code
def yX6_pack : MethodName := ⟨RX6, "pack", "(II)I"⟩
abbrev cX6_cellOf : ByteArray := prog_1_method_33_code
def yX6_cellOf : MethodName := ⟨RX6, "cellOf", "(I)I"⟩
abbrev cX6_maskOf : ByteArray := prog_1_method_34_code
def yX6_maskOf : MethodName := ⟨RX6, "maskOf", "(I)I"⟩
abbrev cX6_lowBits : ByteArray := prog_1_method_35_code
def yX6_lowBits : MethodName := ⟨RX6, "lowBits", "(I)I"⟩
abbrev cX6_numberAt : ByteArray := prog_1_method_36_code
def yX6_numberAt : MethodName := ⟨RX6, "numberAt", "(II)I"⟩
abbrev cX6_hasBit : ByteArray := prog_1_method_37_code
def yX6_hasBit : MethodName := ⟨RX6, "hasBit", "(II)Z"⟩
abbrev cX6_withoutBit : ByteArray := prog_1_method_38_code
def yX6_withoutBit : MethodName := ⟨RX6, "withoutBit", "(II)I"⟩
abbrev cX6_withClearBit : ByteArray := prog_1_method_39_code
def yX6_withClearBit : MethodName := ⟨RX6, "withClearBit", "(II)I"⟩
abbrev cX6_gatherBits : ByteArray := prog_1_method_40_code
def yX6_gatherBits : MethodName := ⟨RX6, "gatherBits", "(II)I"⟩
abbrev cX6_spreadBits : ByteArray := prog_1_method_41_code
def yX6_spreadBits : MethodName := ⟨RX6, "spreadBits", "(II)I"⟩
abbrev cX6_sign : ByteArray := prog_1_method_42_code
def yX6_sign : MethodName := ⟨RX6, "sign", "(I)I"⟩
abbrev cX6_gcd : ByteArray := prog_1_method_43_code
def yX6_gcd : MethodName := ⟨RX6, "gcd", "(JJ)J"⟩
abbrev cX6_binomial : ByteArray := prog_1_method_44_code
def yX6_binomial : MethodName := ⟨RX6, "binomial", "(II)I"⟩
def RX7 : String := "SimplicialSetModel"
def TX7 : u_T := fun k => match k with
  | 0 => ("SimplicialSetModel", "cells", "I", false)
  | 1 => ("SimplicialSetModel", "saved", "I", false)
  | 2 => ("SimplicialSetModel", "dimensionOf", "[I", true)
  | 3 => ("SimplicialSetModel", "faceOf", "[I", true)
  | 4 => ("SimplicialSetModel", "maskOf", "[I", true)
  | 5 => ("SimplicialSetModel", "draft", "I", false)
  | 6 => ("SimplicialSetModel", "draftSet", "I", false)
  | 7 => ("SimplicialSetModel", "draftCell", "[I", true)
  | 8 => ("SimplicialSetModel", "draftMask", "[I", true)
  | 9 => ("SimplicialSetModel", "gotCell", "I", false)
  | 10 => ("SimplicialSetModel", "gotMask", "I", false)
  | 11 => ("SimplicialSetModel", "partOf", "[I", true)
  | 12 => ("SimplicialSetModel", "rows", "I", false)
  | 13 => ("SimplicialSetModel", "columns", "I", false)
  | 14 => ("SimplicialSetModel", "matrix", "[I", true)
  | 15 => ("SimplicialSetModel", "work", "[J", true)
  | 16 => ("SimplicialSetModel", "isUsed", "[Z", true)
  | 17 => ("SimplicialSetModel", "pivotRow", "[I", true)
  | 18 => ("SimplicialSetModel", "pivotColumn", "[I", true)
  | 19 => ("SimplicialSetModel", "modulus", "J", false)
  | 20 => ("SimplicialSetModel", "factorOf", "[J", true)
  | 21 => ("SimplicialSetModel", "factors", "I", false)
  | 22 => ("SimplicialSetModel", "allRows", "I", false)
  | 23 => ("SimplicialSetModel", "allColumns", "I", false)
  | 24 => ("SimplicialSetModel", "isFilled", "[Z", true)
  | 25 => ("SimplicialSetModel", "subsetOf", "[I", true)
  | 26 => ("SimplicialSetModel", "pairs", "I", false)
  | 27 => ("SimplicialSetModel", "pairDimension", "[I", true)
  | 28 => ("SimplicialSetModel", "pairOne", "[I", true)
  | 29 => ("SimplicialSetModel", "pairOther", "[I", true)
  | 30 => ("SimplicialSetModel", "pairMask", "[I", true)
  | 31 => ("SimplicialSetModel", "pairOtherMask", "[I", true)
  | 32 => ("SimplicialSetModel", "newFace", "[I", true)
  | _ => ("SimplicialSetModel", "newMask", "[I", true)
def tyX7 : Nat → FieldType := fun k => match k with
  | 0 => .int
  | 1 => .int
  | 2 => .array .int
  | 3 => .array .int
  | 4 => .array .int
  | 5 => .int
  | 6 => .int
  | 7 => .array .int
  | 8 => .array .int
  | 9 => .int
  | 10 => .int
  | 11 => .array .int
  | 12 => .int
  | 13 => .int
  | 14 => .array .int
  | 15 => .array .long
  | 16 => .array .boolean
  | 17 => .array .int
  | 18 => .array .int
  | 19 => .long
  | 20 => .array .long
  | 21 => .int
  | 22 => .int
  | 23 => .int
  | 24 => .array .boolean
  | 25 => .array .int
  | 26 => .int
  | 27 => .array .int
  | 28 => .array .int
  | 29 => .array .int
  | 30 => .array .int
  | 31 => .array .int
  | 32 => .array .int
  | _ => .array .int
abbrev wsX70 : List Cond := u_ws RX7 TX7 34
theorem nmX7 : ∀ a, a < 34 → ∀ b, b < 34 → a ≠ b → (TX7 a).2.1 ≠ (TX7 b).2.1 := by decide +kernel
theorem tyX7_ok : ∀ k, k < 34 → parseFieldDescriptor (TX7 k).2.2.1 = some (tyX7 k) := by decide +kernel
abbrev cX7_init : ByteArray := prog_9_method_1_code
def yX7_init : MethodName := ⟨RX7, "<init>", "()V"⟩
abbrev cX7_bits : ByteArray := prog_9_method_2_code
def yX7_bits : MethodName := ⟨RX7, "bits", "(I)I"⟩
abbrev cX7_in : ByteArray := prog_9_method_3_code
def yX7_in : MethodName := ⟨RX7, "in", "(III)Z"⟩
abbrev cX7_full : ByteArray := prog_9_method_4_code
def yX7_full : MethodName := ⟨RX7, "full", "(I)I"⟩
abbrev cX7_noCell : ByteArray := prog_9_method_5_code
def yX7_noCell : MethodName := ⟨RX7, "noCell", "(I)Z"⟩
abbrev cX7_isMask : ByteArray := prog_9_method_6_code
def yX7_isMask : MethodName := ⟨RX7, "isMask", "(III)Z"⟩
abbrev cX7_numberAt : ByteArray := prog_9_method_7_code
def yX7_numberAt : MethodName := ⟨RX7, "numberAt", "(II)I"⟩
abbrev cX7_dropped : ByteArray := prog_9_method_8_code
def yX7_dropped : MethodName := ⟨RX7, "dropped", "(III)I"⟩
abbrev cX7_takeFace : ByteArray := prog_9_method_9_code
def yX7_takeFace : MethodName := ⟨RX7, "takeFace", "(IIIII)V"⟩
abbrev cX7_addCell : ByteArray := prog_9_method_10_code
def yX7_addCell : MethodName := ⟨RX7, "addCell", "(I)I"⟩
abbrev cX7_putFace : ByteArray := prog_9_method_11_code
def yX7_putFace : MethodName := ⟨RX7, "putFace", "(IIII)V"⟩
abbrev cX7_addVertex : ByteArray := prog_9_method_12_code
def yX7_addVertex : MethodName := ⟨RX7, "addVertex", "()I"⟩
abbrev cX7_beginCell : ByteArray := prog_9_method_13_code
def yX7_beginCell : MethodName := ⟨RX7, "beginCell", "(I)I"⟩
abbrev cX7_setFace : ByteArray := prog_9_method_14_code
def yX7_setFace : MethodName := ⟨RX7, "setFace", "(III)I"⟩
abbrev cX7_areFacesSo : ByteArray := prog_9_method_15_code
def yX7_areFacesSo : MethodName := ⟨RX7, "areFacesSo", "()Z"⟩
abbrev cX7_endCell : ByteArray := prog_9_method_16_code
def yX7_endCell : MethodName := ⟨RX7, "endCell", "()I"⟩
abbrev cX7_clear : ByteArray := prog_9_method_17_code
def yX7_clear : MethodName := ⟨RX7, "clear", "()I"⟩
abbrev cX7_countOf : ByteArray := prog_9_method_18_code
def yX7_countOf : MethodName := ⟨RX7, "countOf", "(I)I"⟩
abbrev cX7_cellCount : ByteArray := prog_9_method_19_code
def yX7_cellCount : MethodName := ⟨RX7, "cellCount", "(I)I"⟩
abbrev cX7_dimension : ByteArray := prog_9_method_20_code
def yX7_dimension : MethodName := ⟨RX7, "dimension", "(I)I"⟩
abbrev cX7_simplexBarred : ByteArray := prog_9_method_21_code
def yX7_simplexBarred : MethodName := ⟨RX7, "simplexBarred", "(IIIIII)I"⟩
abbrev cX7_faceCell : ByteArray := prog_9_method_22_code
def yX7_faceCell : MethodName := ⟨RX7, "faceCell", "(IIII)I"⟩
abbrev cX7_faceMask : ByteArray := prog_9_method_23_code
def yX7_faceMask : MethodName := ⟨RX7, "faceMask", "(IIII)I"⟩
abbrev cX7_degeneracyMask : ByteArray := prog_9_method_24_code
def yX7_degeneracyMask : MethodName := ⟨RX7, "degeneracyMask", "(IIII)I"⟩
abbrev cX7_vertex : ByteArray := prog_9_method_25_code
def yX7_vertex : MethodName := ⟨RX7, "vertex", "(IIII)I"⟩
abbrev cX7_choose : ByteArray := prog_9_method_26_code
def yX7_choose : MethodName := ⟨RX7, "choose", "(II)I"⟩
abbrev cX7_simplexCount : ByteArray := prog_9_method_27_code
def yX7_simplexCount : MethodName := ⟨RX7, "simplexCount", "(I)I"⟩
abbrev cX7_eulerCharacteristic : ByteArray := prog_9_method_28_code
def yX7_eulerCharacteristic : MethodName := ⟨RX7, "eulerCharacteristic", "()I"⟩
abbrev cX7_partCount : ByteArray := prog_9_method_29_code
def yX7_partCount : MethodName := ⟨RX7, "partCount", "()I"⟩
abbrev cX7_entryOf : ByteArray := prog_9_method_30_code
def yX7_entryOf : MethodName := ⟨RX7, "entryOf", "(II)I"⟩
abbrev cX7_incidence : ByteArray := prog_9_method_31_code
def yX7_incidence : MethodName := ⟨RX7, "incidence", "(II)I"⟩
abbrev cX7_layMatrix : ByteArray := prog_9_method_32_code
def yX7_layMatrix : MethodName := ⟨RX7, "layMatrix", "(I)V"⟩
abbrev cX7_rest : ByteArray := prog_9_method_33_code
def yX7_rest : MethodName := ⟨RX7, "rest", "(JJ)J"⟩
abbrev cX7_inverse : ByteArray := prog_9_method_34_code
def yX7_inverse : MethodName := ⟨RX7, "inverse", "(JJ)J"⟩
abbrev cX7_clearColumn : ByteArray := prog_9_method_35_code
def yX7_clearColumn : MethodName := ⟨RX7, "clearColumn", "(IIJ)V"⟩
abbrev cX7_rankBy : ByteArray := prog_9_method_36_code
def yX7_rankBy : MethodName := ⟨RX7, "rankBy", "(J)I"⟩
abbrev cX7_rankOf : ByteArray := prog_9_method_37_code
def yX7_rankOf : MethodName := ⟨RX7, "rankOf", "(I)I"⟩
abbrev cX7_betti : ByteArray := prog_9_method_38_code
def yX7_betti : MethodName := ⟨RX7, "betti", "(I)I"⟩
abbrev cX7_minorBy : ByteArray := prog_9_method_39_code
def yX7_minorBy : MethodName := ⟨RX7, "minorBy", "(IJ)J"⟩
abbrev cX7_minorOf : ByteArray := prog_9_method_40_code
def yX7_minorOf : MethodName := ⟨RX7, "minorOf", "(I)J"⟩
abbrev cX7_product64 : ByteArray := prog_9_method_41_code
def yX7_product64 : MethodName := ⟨RX7, "product64", "(JJ)J"⟩
abbrev cX7_common : ByteArray := prog_9_method_42_code
def yX7_common : MethodName := ⟨RX7, "common", "(JJ)J"⟩
abbrev cX7_takesLeast : ByteArray := prog_9_method_43_code
def yX7_takesLeast : MethodName := ⟨RX7, "takesLeast", "(I)Z"⟩
abbrev cX7_addRow : ByteArray := prog_9_method_44_code
def yX7_addRow : MethodName := ⟨RX7, "addRow", "(IIJ)V"⟩
abbrev cX7_addColumn : ByteArray := prog_9_method_45_code
def yX7_addColumn : MethodName := ⟨RX7, "addColumn", "(IIJ)V"⟩
abbrev cX7_clearsCross : ByteArray := prog_9_method_46_code
def yX7_clearsCross : MethodName := ⟨RX7, "clearsCross", "(I)Z"⟩
abbrev cX7_oddRow : ByteArray := prog_9_method_47_code
def yX7_oddRow : MethodName := ⟨RX7, "oddRow", "(I)I"⟩
abbrev cX7_factorAt : ByteArray := prog_9_method_48_code
def yX7_factorAt : MethodName := ⟨RX7, "factorAt", "(I)J"⟩
abbrev cX7_layTorsion : ByteArray := prog_9_method_49_code
def yX7_layTorsion : MethodName := ⟨RX7, "layTorsion", "(I)V"⟩
abbrev cX7_torsionCount : ByteArray := prog_9_method_50_code
def yX7_torsionCount : MethodName := ⟨RX7, "torsionCount", "(I)I"⟩
abbrev cX7_torsion : ByteArray := prog_9_method_51_code
def yX7_torsion : MethodName := ⟨RX7, "torsion", "(II)J"⟩
abbrev cX7_vertexOf : ByteArray := prog_9_method_52_code
def yX7_vertexOf : MethodName := ⟨RX7, "vertexOf", "(II)I"⟩
abbrev cX7_layFilled : ByteArray := prog_9_method_53_code
def yX7_layFilled : MethodName := ⟨RX7, "layFilled", "(II)V"⟩
abbrev cX7_hornsAt : ByteArray := prog_9_method_54_code
def yX7_hornsAt : MethodName := ⟨RX7, "hornsAt", "(IZ)I"⟩
abbrev cX7_hornCount : ByteArray := prog_9_method_55_code
def yX7_hornCount : MethodName := ⟨RX7, "hornCount", "(I)I"⟩
abbrev cX7_unfilledCount : ByteArray := prog_9_method_56_code
def yX7_unfilledCount : MethodName := ⟨RX7, "unfilledCount", "(I)I"⟩
abbrev cX7_cellBy : ByteArray := prog_9_method_57_code
def yX7_cellBy : MethodName := ⟨RX7, "cellBy", "(I)I"⟩
abbrev cX7_addSubset : ByteArray := prog_9_method_58_code
def yX7_addSubset : MethodName := ⟨RX7, "addSubset", "(III)V"⟩
abbrev cX7_loadSimplex : ByteArray := prog_9_method_59_code
def yX7_loadSimplex : MethodName := ⟨RX7, "loadSimplex", "(I)I"⟩
abbrev cX7_loadSphere : ByteArray := prog_9_method_60_code
def yX7_loadSphere : MethodName := ⟨RX7, "loadSphere", "(I)I"⟩
abbrev cX7_save : ByteArray := prog_9_method_61_code
def yX7_save : MethodName := ⟨RX7, "save", "()I"⟩
abbrev cX7_addPair : ByteArray := prog_9_method_62_code
def yX7_addPair : MethodName := ⟨RX7, "addPair", "(IIIII)V"⟩
abbrev cX7_layPairs : ByteArray := prog_9_method_63_code
def yX7_layPairs : MethodName := ⟨RX7, "layPairs", "()V"⟩
abbrev cX7_squeezed : ByteArray := prog_9_method_64_code
def yX7_squeezed : MethodName := ⟨RX7, "squeezed", "(II)I"⟩
abbrev cX7_pairBy : ByteArray := prog_9_method_65_code
def yX7_pairBy : MethodName := ⟨RX7, "pairBy", "(IIII)I"⟩
abbrev cX7_greater : ByteArray := prog_9_method_66_code
def yX7_greater : MethodName := ⟨RX7, "greater", "(II)I"⟩
abbrev cX7_layPairFaces : ByteArray := prog_9_method_67_code
def yX7_layPairFaces : MethodName := ⟨RX7, "layPairFaces", "(I)V"⟩
abbrev cX7_product : ByteArray := prog_9_method_68_code
def yX7_product : MethodName := ⟨RX7, "product", "()I"⟩
def RJx145de : String := "java/io/Serializable"
def TJx145de : u_T := fun k => match k with
  | _ => ("", "", "", false)
def tyJx145de : Nat → FieldType := fun k => match k with
  | _ => .int
abbrev wsJx145de0 : List Cond := u_ws RJx145de TJx145de 0
theorem nmJx145de : ∀ a, a < 0 → ∀ b, b < 0 → a ≠ b → (TJx145de a).2.1 ≠ (TJx145de b).2.1 := by decide +kernel
theorem tyJx145de_ok : ∀ k, k < 0 → parseFieldDescriptor (TJx145de k).2.2.1 = some (tyJx145de k) := by decide +kernel
def RJxb160c : String := "java/lang/Comparable"
def TJxb160c : u_T := fun k => match k with
  | _ => ("", "", "", false)
def tyJxb160c : Nat → FieldType := fun k => match k with
  | _ => .int
abbrev wsJxb160c0 : List Cond := u_ws RJxb160c TJxb160c 0
theorem nmJxb160c : ∀ a, a < 0 → ∀ b, b < 0 → a ≠ b → (TJxb160c a).2.1 ≠ (TJxb160c b).2.1 := by decide +kernel
theorem tyJxb160c_ok : ∀ k, k < 0 → parseFieldDescriptor (TJxb160c k).2.2.1 = some (tyJxb160c k) := by decide +kernel
def RJ6 : String := "java/lang/Integer"
def TJ6 : u_T := fun k => match k with
  | _ => ("", "", "", false)
def tyJ6 : Nat → FieldType := fun k => match k with
  | _ => .int
abbrev wsJ60 : List Cond := u_ws RJ6 TJ6 0
theorem nmJ6 : ∀ a, a < 0 → ∀ b, b < 0 → a ≠ b → (TJ6 a).2.1 ≠ (TJ6 b).2.1 := by decide +kernel
theorem tyJ6_ok : ∀ k, k < 0 → parseFieldDescriptor (TJ6 k).2.2.1 = some (tyJ6 k) := by decide +kernel
abbrev cJ6_highestOneBit_0f7a4 : ByteArray := prog_10_method_45_code
def yJ6_highestOneBit_0f7a4 : MethodName := ⟨RJ6, "highestOneBit", "(I)I"⟩
abbrev cJ6_numberOfLeadingZeros_0f7a4 : ByteArray := prog_10_method_47_code
def yJ6_numberOfLeadingZeros_0f7a4 : MethodName := ⟨RJ6, "numberOfLeadingZeros", "(I)I"⟩
abbrev cJ6_bitCount_0f7a4 : ByteArray := prog_10_method_49_code
def yJ6_bitCount_0f7a4 : MethodName := ⟨RJ6, "bitCount", "(I)I"⟩
def RJ9 : String := "java/lang/Math"
def TJ9 : u_T := fun k => match k with
  | _ => ("", "", "", false)
def tyJ9 : Nat → FieldType := fun k => match k with
  | _ => .int
abbrev wsJ90 : List Cond := u_ws RJ9 TJ9 0
theorem nmJ9 : ∀ a, a < 0 → ∀ b, b < 0 → a ≠ b → (TJ9 a).2.1 ≠ (TJ9 b).2.1 := by decide +kernel
theorem tyJ9_ok : ∀ k, k < 0 → parseFieldDescriptor (TJ9 k).2.2.1 = some (tyJ9 k) := by decide +kernel
abbrev cJ9_max_7cf53 : ByteArray := prog_11_method_65_code
def yJ9_max_7cf53 : MethodName := ⟨RJ9, "max", "(II)I"⟩
abbrev cJ9_max_f86c9 : ByteArray := prog_11_method_66_code
def yJ9_max_f86c9 : MethodName := ⟨RJ9, "max", "(JJ)J"⟩
abbrev cJ9_min_7cf53 : ByteArray := prog_11_method_69_code
def yJ9_min_7cf53 : MethodName := ⟨RJ9, "min", "(II)I"⟩
abbrev cJ9_min_f86c9 : ByteArray := prog_11_method_70_code
def yJ9_min_f86c9 : MethodName := ⟨RJ9, "min", "(JJ)J"⟩
def RJxd2413 : String := "java/lang/Number"
def TJxd2413 : u_T := fun k => match k with
  | _ => ("", "", "", false)
def tyJxd2413 : Nat → FieldType := fun k => match k with
  | _ => .int
abbrev wsJxd24130 : List Cond := u_ws RJxd2413 TJxd2413 0
theorem nmJxd2413 : ∀ a, a < 0 → ∀ b, b < 0 → a ≠ b → (TJxd2413 a).2.1 ≠ (TJxd2413 b).2.1 := by decide +kernel
theorem tyJxd2413_ok : ∀ k, k < 0 → parseFieldDescriptor (TJxd2413 k).2.2.1 = some (tyJxd2413 k) := by decide +kernel
def RJ10 : String := "java/lang/System"
def TJ10 : u_T := fun k => match k with
  | _ => ("", "", "", false)
def tyJ10 : Nat → FieldType := fun k => match k with
  | _ => .int
abbrev wsJ100 : List Cond := u_ws RJ10 TJ10 0
theorem nmJ10 : ∀ a, a < 0 → ∀ b, b < 0 → a ≠ b → (TJ10 a).2.1 ≠ (TJ10 b).2.1 := by decide +kernel
theorem tyJ10_ok : ∀ k, k < 0 → parseFieldDescriptor (TJ10 k).2.2.1 = some (tyJ10 k) := by decide +kernel
def RJxfd54e : String := "java/lang/constant/Constable"
def TJxfd54e : u_T := fun k => match k with
  | _ => ("", "", "", false)
def tyJxfd54e : Nat → FieldType := fun k => match k with
  | _ => .int
abbrev wsJxfd54e0 : List Cond := u_ws RJxfd54e TJxfd54e 0
theorem nmJxfd54e : ∀ a, a < 0 → ∀ b, b < 0 → a ≠ b → (TJxfd54e a).2.1 ≠ (TJxfd54e b).2.1 := by decide +kernel
theorem tyJxfd54e_ok : ∀ k, k < 0 → parseFieldDescriptor (TJxfd54e k).2.2.1 = some (tyJxfd54e k) := by decide +kernel
def RJx3cf43 : String := "java/lang/constant/ConstantDesc"
def TJx3cf43 : u_T := fun k => match k with
  | _ => ("", "", "", false)
def tyJx3cf43 : Nat → FieldType := fun k => match k with
  | _ => .int
abbrev wsJx3cf430 : List Cond := u_ws RJx3cf43 TJx3cf43 0
theorem nmJx3cf43 : ∀ a, a < 0 → ∀ b, b < 0 → a ≠ b → (TJx3cf43 a).2.1 ≠ (TJx3cf43 b).2.1 := by decide +kernel
theorem tyJx3cf43_ok : ∀ k, k < 0 → parseFieldDescriptor (TJx3cf43 k).2.2.1 = some (tyJx3cf43 k) := by decide +kernel
def RJ7 : String := "java/util/Arrays"
def TJ7 : u_T := fun k => match k with
  | _ => ("", "", "", false)
def tyJ7 : Nat → FieldType := fun k => match k with
  | _ => .int
abbrev wsJ70 : List Cond := u_ws RJ7 TJ7 0
theorem nmJ7 : ∀ a, a < 0 → ∀ b, b < 0 → a ≠ b → (TJ7 a).2.1 ≠ (TJ7 b).2.1 := by decide +kernel
theorem tyJ7_ok : ∀ k, k < 0 → parseFieldDescriptor (TJ7 k).2.2.1 = some (tyJ7 k) := by decide +kernel
abbrev cJ7_fill_d0a16 : ByteArray := prog_14_method_101_code
def yJ7_fill_d0a16 : MethodName := ⟨RJ7, "fill", "([JJ)V"⟩
abbrev cJ7_fill_53178 : ByteArray := prog_14_method_103_code
def yJ7_fill_53178 : MethodName := ⟨RJ7, "fill", "([II)V"⟩
def RL : String := "SimplicialSetLaw"
abbrev cL_law : ByteArray := code
def yL_law : MethodName := ⟨RL, "law", "([I)Z"⟩
abbrev vwCl : List vw_C := [(RX0, TX0, 3), (RX1, TX1, 2), (RX2, TX2, 4), (RX3, TX3, 3), (RX4, TX4, 5), (RX5, TX5, 5), (RX6, TX6, 10), (RX7, TX7, 34)]
end
section
def shp : List (Nat × Nat) := [(0, 6), (0, 0), (1, 48), (1, 240), (0, 0), (1, 48), (1, 240), (0, 0), (1, 48), (1, 240), (0, 1), (1, 5), (0, 4), (1, 48), (1, 48), (1, 48), (1, 5), (0, 3), (2, 48), (1, 48), (1, 48), (0, 2), (0, 5), (2, 48), (2, 576), (1, 48), (1, 48), (1, 5), (1, 32), (0, 7), (1, 96), (1, 480), (1, 480), (1, 5), (1, 5), (1, 48), (1, 2304), (2, 2304), (3, 48), (1, 48), (1, 48), (2, 48), (3, 2304), (1, 48), (1, 48), (1, 48), (1, 48), (1, 48), (1, 48), (1, 240), (1, 240)]
def fkL : List (List Nat) := [[2, 2, 0], [2, 0], [2, 2, 0, 1], [2, 2, 2], [2, 2, 2, 2, 0], [2, 2, 0, 0, 1], [2, 2, 2, 2, 2, 2, 2, 2, 2, 2], [0, 0, 2, 2, 2, 0, 0, 2, 2, 0, 0, 2, 0, 0, 2, 2, 2, 2, 2, 1, 2, 0, 0, 0, 2, 2, 0, 2, 2, 2, 2, 2, 2, 2]]
def pfL : List (List Nat) := [[0, 0, 7, 10, 12, 17, 21, 26, 27, 28], [2, 3, 0], [], [], [5, 6, 0], [], [], [8, 9, 0], [], [], [11, 0], [], [13, 14, 15, 16, 0], [], [], [], [], [18, 19, 20], [], [], [], [22, 23, 0, 0], [24, 25, 0, 0, 0], [], [], [], [], [], [], [0, 0, 30, 31, 32, 0, 0, 33, 34, 0, 0, 35, 0, 0, 36, 37, 38, 39, 40, 0, 41, 0, 0, 0, 42, 43, 0, 44, 45, 46, 47, 48, 49, 50], [], [], [], [], [], [], [], [], [], [], [], [], [], [], [], [], [], [], [], [], []]
def RR : Nat → String := fun k => match k with
  | 0 => RX0
  | 1 => RX1
  | 2 => RX2
  | 3 => RX3
  | 4 => RX4
  | 5 => RX5
  | 6 => RX6
  | 7 => RX7
  | 8 => RJ6
  | 9 => RJ9
  | 10 => RJ7
  | _ => RL
def TT : Nat → u_T := fun k => match k with
  | 0 => TX0
  | 1 => TX1
  | 2 => TX2
  | 3 => TX3
  | 4 => TX4
  | 5 => TX5
  | 6 => TX6
  | _ => TX7
def tyT : Nat → Nat → FieldType := fun k => match k with
  | 0 => tyX0
  | 1 => tyX1
  | 2 => tyX2
  | 3 => tyX3
  | 4 => tyX4
  | 5 => tyX5
  | 6 => tyX6
  | _ => tyX7
def NN : List Nat := [3, 2, 4, 3, 5, 5, 10, 34]
/-- the tables words that stay good in a callee -/
def gt : List Cond := lw_tbl.filter goodWord
theorem gt_at (i : Nat) {w : Cond} (h : lw_tbl[i]? = some w) (hg : goodWord w = true) : w ∈ gt := List.mem_filter.mpr ⟨List.mem_of_getElem? h, hg⟩
theorem inX0 : ∀ w ∈ wsX00, w ∈ gt := by
  have h : wsX00 = [91, 93, 95].filterMap (fun i => lw_tbl[i]?) := by decide +kernel
  have g : wsX00.all goodWord = true := by decide +kernel
  intro w hw
  have hg := List.all_eq_true.mp g w hw
  rw [h] at hw
  obtain ⟨i, -, hi⟩ := List.mem_filterMap.mp hw
  exact gt_at i hi hg
theorem inX1 : ∀ w ∈ wsX10, w ∈ gt := by
  have h : wsX10 = [109, 111].filterMap (fun i => lw_tbl[i]?) := by decide +kernel
  have g : wsX10.all goodWord = true := by decide +kernel
  intro w hw
  have hg := List.all_eq_true.mp g w hw
  rw [h] at hw
  obtain ⟨i, -, hi⟩ := List.mem_filterMap.mp hw
  exact gt_at i hi hg
theorem inX2 : ∀ w ∈ wsX20, w ∈ gt := by
  have h : wsX20 = [189, 191, 193, 195].filterMap (fun i => lw_tbl[i]?) := by decide +kernel
  have g : wsX20.all goodWord = true := by decide +kernel
  intro w hw
  have hg := List.all_eq_true.mp g w hw
  rw [h] at hw
  obtain ⟨i, -, hi⟩ := List.mem_filterMap.mp hw
  exact gt_at i hi hg
theorem inX3 : ∀ w ∈ wsX30, w ∈ gt := by
  have h : wsX30 = [145, 147, 149].filterMap (fun i => lw_tbl[i]?) := by decide +kernel
  have g : wsX30.all goodWord = true := by decide +kernel
  intro w hw
  have hg := List.all_eq_true.mp g w hw
  rw [h] at hw
  obtain ⟨i, -, hi⟩ := List.mem_filterMap.mp hw
  exact gt_at i hi hg
theorem inX4 : ∀ w ∈ wsX40, w ∈ gt := by
  have h : wsX40 = [125, 127, 129, 131, 133].filterMap (fun i => lw_tbl[i]?) := by decide +kernel
  have g : wsX40.all goodWord = true := by decide +kernel
  intro w hw
  have hg := List.all_eq_true.mp g w hw
  rw [h] at hw
  obtain ⟨i, -, hi⟩ := List.mem_filterMap.mp hw
  exact gt_at i hi hg
theorem inX5 : ∀ w ∈ wsX50, w ∈ gt := by
  have h : wsX50 = [172, 174, 176, 178, 180].filterMap (fun i => lw_tbl[i]?) := by decide +kernel
  have g : wsX50.all goodWord = true := by decide +kernel
  intro w hw
  have hg := List.all_eq_true.mp g w hw
  rw [h] at hw
  obtain ⟨i, -, hi⟩ := List.mem_filterMap.mp hw
  exact gt_at i hi hg
theorem inX6 : ∀ w ∈ wsX60, w ∈ gt := by
  have h : wsX60 = [208, 210, 212, 214, 216, 218, 220, 222, 224, 226].filterMap (fun i => lw_tbl[i]?) := by decide +kernel
  have g : wsX60.all goodWord = true := by decide +kernel
  intro w hw
  have hg := List.all_eq_true.mp g w hw
  rw [h] at hw
  obtain ⟨i, -, hi⟩ := List.mem_filterMap.mp hw
  exact gt_at i hi hg
theorem inX7 : ∀ w ∈ wsX70, w ∈ gt := by
  have h : wsX70 = [692, 694, 696, 698, 700, 702, 704, 706, 708, 710, 712, 714, 716, 718, 720, 722, 724, 726, 728, 730, 732, 734, 736, 738, 740, 742, 744, 746, 748, 750, 752, 754, 756, 758].filterMap (fun i => lw_tbl[i]?) := by decide +kernel
  have g : wsX70.all goodWord = true := by decide +kernel
  intro w hw
  have hg := List.all_eq_true.mp g w hw
  rw [h] at hw
  obtain ⟨i, -, hi⟩ := List.mem_filterMap.mp hw
  exact gt_at i hi hg
def flT : List (Nat × Nat × Nat × Nat) := [(0, 9, 0, 0), (5, 51, 0, 0), (3, 63, 0, 0), (6, 111, 0, 0), (0, 15, 0, 1), (6, 60, 0, 2), (0, 18, 0, 2), (4, 28, 0, 2), (5, 46, 0, 2), (3, 28, 0, 2), (1, 9, 1, 0), (6, 87, 1, 0), (1, 15, 1, 1), (6, 76, 1, 1), (4, 9, 4, 0), (4, 15, 4, 1), (4, 18, 4, 2), (4, 21, 4, 3), (4, 24, 4, 4), (3, 9, 3, 0), (3, 15, 3, 1), (3, 19, 3, 2), (5, 11, 5, 0), (5, 15, 5, 1), (5, 33, 5, 2), (2, 39, 5, 2), (5, 37, 5, 3), (2, 42, 5, 3), (5, 19, 5, 4), (2, 12, 2, 0), (2, 18, 2, 1), (6, 165, 2, 1), (2, 31, 2, 2), (6, 154, 2, 2), (2, 35, 2, 3), (6, 10, 6, 0), (6, 16, 6, 1), (6, 19, 6, 2), (6, 25, 6, 3), (6, 32, 6, 4), (6, 39, 6, 5), (6, 46, 6, 6), (6, 50, 6, 7), (6, 54, 6, 8), (6, 57, 6, 9), (7, 75, 7, 0), (7, 261, 7, 1), (7, 7, 7, 2), (7, 13, 7, 3), (7, 16, 7, 4), (7, 107, 7, 5), (7, 110, 7, 6), (7, 19, 7, 7), (7, 22, 7, 8), (7, 90, 7, 9), (7, 97, 7, 10), (7, 25, 7, 11), (7, 145, 7, 12), (7, 148, 7, 13), (7, 28, 7, 14), (7, 31, 7, 15), (7, 35, 7, 16), (7, 39, 7, 17), (7, 42, 7, 18), (7, 193, 7, 19), (7, 45, 7, 20), (7, 224, 7, 21), (7, 197, 7, 22), (7, 200, 7, 23), (7, 48, 7, 24), (7, 51, 7, 25), (7, 264, 7, 26), (7, 54, 7, 27), (7, 57, 7, 28), (7, 60, 7, 29), (7, 63, 7, 30), (7, 66, 7, 31), (7, 69, 7, 32), (7, 72, 7, 33)]
def ctI : List (Nat × Nat × Int) := [(8, 265, 1431655765), (8, 266, 858993459), (8, 267, 252645135), (8, 127, -2147483648), (8, 264, 65536)]
def ctL : List (Nat × Nat × Int) := [(2, 22, 35184372088777), (5, 73, 65535), (2, 81, 35184372088775), (6, 161, -102), (6, 163, -104), (6, 169, -109), (7, 168, 2147483647), (7, 151, 2), (7, 174, 2147483629), (7, 183, 18), (7, 185, 2305842987738857481), (7, 187, 4611685975477714963), (7, 189, 64), (7, 191, 63), (7, 237, -102), (7, 239, -104), (7, 241, -109)]
def flW (q : Nat × Nat × Nat × Nat) : Cond := .fieldLink (RR q.1) q.2.1 (TT q.2.2.1 q.2.2.2).1 (TT q.2.2.1 q.2.2.2).2.1 (TT q.2.2.1 q.2.2.2).2.2.1
set_option maxRecDepth 20000 in
theorem flT_ok : ∀ q ∈ flT, flW q ∈ gt := by
  have h : flT.map flW = [81, 82, 83, 84, 85, 86, 87, 88, 89, 90, 105, 106, 107, 108, 120, 121, 122, 123, 124, 142, 143, 144, 165, 166, 167, 168, 169, 170, 171, 183, 184, 185, 186, 187, 188, 198, 199, 200, 201, 202, 203, 204, 205, 206, 207, 658, 659, 660, 661, 662, 663, 664, 665, 666, 667, 668, 669, 670, 671, 672, 673, 674, 675, 676, 677, 678, 679, 680, 681, 682, 683, 684, 685, 686, 687, 688, 689, 690, 691].filterMap (fun i => lw_tbl[i]?) := by decide +kernel
  have g : (flT.map flW).all goodWord = true := by decide +kernel
  intro q hq
  have hm : flW q ∈ flT.map flW := List.mem_map_of_mem hq
  have hg := List.all_eq_true.mp g _ hm
  rw [h] at hm
  obtain ⟨i, -, hi⟩ := List.mem_filterMap.mp hm
  exact gt_at i hi hg
theorem flT_lt : ∀ q ∈ flT, q.2.2.1 < 8 ∧ q.2.2.2 < NN.getD q.2.2.1 0 := by decide +kernel
def ctIW (q : Nat × Nat × Int) : Cond := .constant (RR q.1) q.2.1 (Int32.ofInt q.2.2)
theorem ctI_ok : ∀ q ∈ ctI, ctIW q ∈ gt := by
  have h : ctI.map ctIW = [273, 274, 275, 593, 597].filterMap (fun i => lw_tbl[i]?) := by decide +kernel
  have g : (ctI.map ctIW).all goodWord = true := by decide +kernel
  intro q hq
  have hm : ctIW q ∈ ctI.map ctIW := List.mem_map_of_mem hq
  have hg := List.all_eq_true.mp g _ hm
  rw [h] at hm
  obtain ⟨i, -, hi⟩ := List.mem_filterMap.mp hm
  exact gt_at i hi hg
def ctLW (q : Nat × Nat × Int) : Cond := .constantLong (RR q.1) q.2.1 (Int64.ofInt q.2.2)
theorem ctL_ok : ∀ q ∈ ctL, ctLW q ∈ gt := by
  have h : ctL.map ctLW = [411, 462, 467, 539, 540, 541, 888, 903, 904, 921, 922, 923, 944, 945, 961, 962, 963].filterMap (fun i => lw_tbl[i]?) := by decide +kernel
  have g : (ctL.map ctLW).all goodWord = true := by decide +kernel
  intro q hq
  have hm : ctLW q ∈ ctL.map ctLW := List.mem_map_of_mem hq
  have hg := List.all_eq_true.mp g _ hm
  rw [h] at hm
  obtain ⟨i, -, hi⟩ := List.mem_filterMap.mp hm
  exact gt_at i hi hg
theorem cl_at : ∀ ci, ci < 8 → vwCl[ci]? = some (RR ci, TT ci, NN.getD ci 0) := fun ci h => by
  match ci, h with
  | 0, _ => rfl
  | 1, _ => rfl
  | 2, _ => rfl
  | 3, _ => rfl
  | 4, _ => rfl
  | 5, _ => rfl
  | 6, _ => rfl
  | 7, _ => rfl
  | n + 8, h => omega
theorem cl_in : ∀ ci, ci < 8 → ∀ w ∈ u_ws (RR ci) (TT ci) (NN.getD ci 0), w ∈ gt := fun ci h => by
  match ci, h with
  | 0, _ => exact inX0
  | 1, _ => exact inX1
  | 2, _ => exact inX2
  | 3, _ => exact inX3
  | 4, _ => exact inX4
  | 5, _ => exact inX5
  | 6, _ => exact inX6
  | 7, _ => exact inX7
  | n + 8, h => omega
theorem cl_ty : ∀ ci, ci < 8 → ∀ k, k < NN.getD ci 0 → parseFieldDescriptor (TT ci k).2.2.1 = some (tyT ci k) := fun ci h => by
  match ci, h with
  | 0, _ => exact tyX0_ok
  | 1, _ => exact tyX1_ok
  | 2, _ => exact tyX2_ok
  | 3, _ => exact tyX3_ok
  | 4, _ => exact tyX4_ok
  | 5, _ => exact tyX5_ok
  | 6, _ => exact tyX6_ok
  | 7, _ => exact tyX7_ok
  | n + 8, h => omega
theorem cl_nm : ∀ ci, ci < 8 → ∀ a, a < NN.getD ci 0 → ∀ b, b < NN.getD ci 0 → a ≠ b → (TT ci a).2.1 ≠ (TT ci b).2.1 := fun ci h => by
  match ci, h with
  | 0, _ => exact nmX0
  | 1, _ => exact nmX1
  | 2, _ => exact nmX2
  | 3, _ => exact nmX3
  | 4, _ => exact nmX4
  | 5, _ => exact nmX5
  | 6, _ => exact nmX6
  | 7, _ => exact nmX7
  | n + 8, h => omega
theorem cl_len : ∀ ci, ci < 8 → (fkL.getD ci []).length = NN.getD ci 0 := by decide +kernel
theorem cl_kd : ∀ ci, ci < 8 → ∀ k, k < NN.getD ci 0 → ((fkL.getD ci []).getD k 9 = 0 → tyT ci k = .int) ∧ ((fkL.getD ci []).getD k 9 = 1 → tyT ci k = .long) := by decide +kernel
end
section
/-! memory of the 51 cells, by places: ints, longs, the two references that change -/
abbrev Mm : Type := (Nat → Nat → Int32) × (Nat → Nat → Int64) × (Nat → Nat)
def ss_i (μ : Mm) (p k : Nat) : Int32 := μ.1 p k
def ss_l (μ : Mm) (p k : Nat) : Int64 := μ.2.1 p k
def ss_r (μ : Mm) (p k : Nat) : Nat := if p = 0 ∧ k < 2 then μ.2.2 k else (pfL.getD p []).getD k 0
def up2 {α : Type} (f : Nat → Nat → α) (p k : Nat) (v : α) : Nat → Nat → α := fun a b => if a = p ∧ b = k then v else f a b
def ss_wi (μ : Mm) (p k : Nat) (v : Int32) : Mm := (up2 μ.1 p k v, μ.2.1, μ.2.2)
def ss_wl (μ : Mm) (p k : Nat) (v : Int64) : Mm := (μ.1, up2 μ.2.1 p k v, μ.2.2)
def ss_wr (μ : Mm) (k : Nat) (v : Nat) : Mm := (μ.1, μ.2.1, fun j => if j = k then v else μ.2.2 j)
def ss_cp (μ : Mm) (q sp p dp n : Nat) : Mm := (fun a b => if a = p ∧ dp ≤ b ∧ b < dp + n then μ.1 q (sp + (b - dp)) else μ.1 a b, μ.2.1, μ.2.2)
/-- the machine's side: class numbers, slots, addresses of the places, array classes -/
abbrev Wd : Type := (Nat → ClassId) × (Nat → Nat → Nat) × (Nat → Nat) × ClassId × ClassId × ClassId
abbrev wD (ω : Wd) : va_G := (ω.1, ω.2.1)
abbrev wa (ω : Wd) : Nat → Nat := ω.2.2.1
def tys3 (ω : Wd) : List (ClassId × FieldType) := [(ω.2.2.2.1, .int), (ω.2.2.2.2.1, .long), (ω.2.2.2.2.2, .boolean)]
def wA (ω : Wd) : Nat → Prop := fun q => ∃ k, k < 51 ∧ q = wa ω k
def wAp (ω : Wd) : Prop := ∀ i j, i < 51 → j < 51 → wa ω i = wa ω j → i = j
def shA (p : Nat) : Nat × Nat := shp.getD p (9, 0)
def fV (ω : Wd) (μ : Mm) (p k d : Nat) : Value := match d with
  | 0 => .int (ss_i μ p k)
  | 1 => .long (ss_l μ p k)
  | _ => .ref (wa ω (ss_r μ p k))
def fsV (ω : Wd) (μ : Mm) (p ci : Nat) : List Value := (List.range (fkL.getD ci []).length).map (fun k => fV ω μ p k ((fkL.getD ci []).getD k 0))
def ceE (ω : Wd) (μ : Mm) (p : Nat) (sh : Nat × Nat) : va_E := match sh.1 with
  | 0 => .inr (sh.2, fsV ω μ p sh.2)
  | 1 => .inl (ω.2.2.2.1, sh.2, .inl (μ.1 p))
  | 2 => .inl (ω.2.2.2.2.1, sh.2, .inr (.inl (μ.2.1 p)))
  | _ => .inl (ω.2.2.2.2.2, sh.2, .inl (μ.1 p))
def cW (ω : Wd) (μ : Mm) : va_W := (List.range 51).map (fun p => (wa ω p, ceE ω μ p (shA p)))
theorem cW_at {ω : Wd} {μ : Mm} {p : Nat} (h : p < 51) : (cW ω μ)[p]? = some (wa ω p, ceE ω μ p (shA p)) := by
  simp [cW, h]
theorem cW_len {ω : Wd} {μ : Mm} : (cW ω μ).length = 51 := by simp [cW]
theorem cW_D {ω : Wd} {μ : Mm} (h : wAp ω) : va_D (wA ω) (cW ω μ) := by
  have lt : ∀ (i : Nat) (x : Nat × va_E), (cW ω μ)[i]? = some x → i < 51 ∧ x.1 = wa ω i := by
    intro i x hx
    have hi : i < 51 := by
      have := (List.getElem?_eq_some_iff.mp hx).1
      rwa [cW_len] at this
    rw [cW_at hi] at hx
    cases hx
    exact ⟨hi, rfl⟩
  refine ⟨fun i j x y hx hy hxy => ?_, fun k q hq => ⟨k, (lt k q hq).1, (lt k q hq).2⟩⟩
  obtain ⟨a1, a2⟩ := lt i x hx
  obtain ⟨b1, b2⟩ := lt j y hy
  exact h i j a1 b1 (by rw [← a2, ← b2, hxy])
theorem cW_set {ω : Wd} {μ μ' : Mm} {p : Nat} {e : va_E} (hp : p < 51) (he : ceE ω μ' p (shA p) = e) (ho : ∀ q, q ≠ p → ceE ω μ' q (shA q) = ceE ω μ q (shA q)) : (cW ω μ).set p (wa ω p, e) = cW ω μ' := by
  apply List.ext_getElem?
  intro i
  by_cases hi : i < 51
  · rw [cW_at hi]
    by_cases hip : i = p
    · subst hip
      rw [List.getElem?_set_self (by rw [cW_len]; exact hi), he]
    · rw [List.getElem?_set_ne (Ne.symm hip), cW_at hi, ho i hip]
  · rw [List.getElem?_eq_none (by rw [List.length_set, cW_len]; omega), List.getElem?_eq_none (by rw [cW_len]; omega)]
theorem fsV_at {ω : Wd} {μ : Mm} {p ci k : Nat} (h : k < (fkL.getD ci []).length) : (fsV ω μ p ci)[k]? = some (fV ω μ p k ((fkL.getD ci []).getD k 0)) := by
  simp only [fsV, List.getElem?_map, List.getElem?_range h, Option.map_some]
theorem fsV_len {ω : Wd} {μ : Mm} {p ci : Nat} : (fsV ω μ p ci).length = (fkL.getD ci []).length := by simp [fsV]
theorem ceE_o {ω : Wd} {μ : Mm} {p ci : Nat} (h : shA p = (0, ci)) : ceE ω μ p (shA p) = .inr (ci, fsV ω μ p ci) := by rw [h]; rfl
theorem ceE_i {ω : Wd} {μ : Mm} {p n : Nat} (h : shA p = (1, n)) : ceE ω μ p (shA p) = .inl (ω.2.2.2.1, n, .inl (μ.1 p)) := by rw [h]; rfl
theorem ceE_l {ω : Wd} {μ : Mm} {p n : Nat} (h : shA p = (2, n)) : ceE ω μ p (shA p) = .inl (ω.2.2.2.2.1, n, .inr (.inl (μ.2.1 p))) := by rw [h]; rfl
theorem ceE_z {ω : Wd} {μ : Mm} {p n : Nat} (h : shA p = (3, n)) : ceE ω μ p (shA p) = .inl (ω.2.2.2.2.2, n, .inl (μ.1 p)) := by rw [h]; rfl
theorem shA_lt {p k n : Nat} (h : shA p = (k, n)) (hk : k ≠ 9) : p < 51 := by
  rcases Nat.lt_or_ge p 51 with q | q
  · exact q
  · have : shA p = (9, 0) := by
      unfold shA
      rw [List.getD_eq_getElem?_getD, List.getElem?_eq_none (by simpa [shp] using q)]
      rfl
    rw [this] at h
    cases h
    exact absurd rfl hk
theorem ceE_wi_ne {ω : Wd} {μ : Mm} {p k : Nat} {v : Int32} {q : Nat} (hq : q ≠ p) : ceE ω (ss_wi μ p k v) q (shA q) = ceE ω μ q (shA q) := by
  have e1 : (ss_wi μ p k v).1 q = μ.1 q := by funext j; simp [ss_wi, up2, hq]
  have e2 : ∀ ci, fsV ω (ss_wi μ p k v) q ci = fsV ω μ q ci := by
    intro ci
    unfold fsV
    apply List.map_congr_left
    intro j _
    unfold fV ss_i ss_l ss_r
    rw [e1]
    rfl
  unfold ceE
  split <;> first | rw [e2] | rw [e1] | rfl
theorem ceE_wl_ne {ω : Wd} {μ : Mm} {p k : Nat} {v : Int64} {q : Nat} (hq : q ≠ p) : ceE ω (ss_wl μ p k v) q (shA q) = ceE ω μ q (shA q) := by
  have e1 : (ss_wl μ p k v).2.1 q = μ.2.1 q := by funext j; simp [ss_wl, up2, hq]
  have e2 : ∀ ci, fsV ω (ss_wl μ p k v) q ci = fsV ω μ q ci := by
    intro ci
    unfold fsV
    apply List.map_congr_left
    intro j _
    unfold fV ss_i ss_l ss_r
    rw [e1]
    rfl
  unfold ceE
  split <;> first | rw [e2] | rw [e1] | rfl
theorem cW_wi_o {ω : Wd} {μ : Mm} {p ci k : Nat} {v : Int32} (h : shA p = (0, ci)) (hk : k < (fkL.getD ci []).length) (hd : (fkL.getD ci []).getD k 0 = 0) : (cW ω μ).set p (wa ω p, .inr (ci, (fsV ω μ p ci).set k (.int v))) = cW ω (ss_wi μ p k v) := by
  refine cW_set (shA_lt h (by decide)) ?_ (fun q hq => ceE_wi_ne hq)
  rw [ceE_o h]
  congr 2
  apply List.ext_getElem?
  intro i
  by_cases hi : i < (fkL.getD ci []).length
  · rw [fsV_at hi]
    by_cases hik : i = k
    · subst hik
      rw [List.getElem?_set_self (by rw [fsV_len]; exact hi), hd]
      simp [fV, ss_i, ss_wi, up2]
    · rw [List.getElem?_set_ne (Ne.symm hik), fsV_at hi]
      congr 1
      unfold fV ss_i ss_l ss_r ss_wi up2
      split <;> simp [hik]
  · rw [List.getElem?_eq_none (by rw [fsV_len]; omega), List.getElem?_eq_none (by rw [List.length_set, fsV_len]; omega)]
theorem cW_wl_o {ω : Wd} {μ : Mm} {p ci k : Nat} {v : Int64} (h : shA p = (0, ci)) (hk : k < (fkL.getD ci []).length) (hd : (fkL.getD ci []).getD k 0 = 1) : (cW ω μ).set p (wa ω p, .inr (ci, (fsV ω μ p ci).set k (.long v))) = cW ω (ss_wl μ p k v) := by
  refine cW_set (shA_lt h (by decide)) ?_ (fun q hq => ceE_wl_ne hq)
  rw [ceE_o h]
  congr 2
  apply List.ext_getElem?
  intro i
  by_cases hi : i < (fkL.getD ci []).length
  · rw [fsV_at hi]
    by_cases hik : i = k
    · subst hik
      rw [List.getElem?_set_self (by rw [fsV_len]; exact hi), hd]
      simp [fV, ss_l, ss_wl, up2]
    · rw [List.getElem?_set_ne (Ne.symm hik), fsV_at hi]
      congr 1
      unfold fV ss_i ss_l ss_r ss_wl up2
      split <;> simp [hik]
  · rw [List.getElem?_eq_none (by rw [fsV_len]; omega), List.getElem?_eq_none (by rw [List.length_set, fsV_len]; omega)]
theorem cW_wr_o {ω : Wd} {μ : Mm} {k v : Nat} (hk : k < 2) : (cW ω μ).set 0 (wa ω 0, .inr (6, (fsV ω μ 0 6).set k (.ref (wa ω v)))) = cW ω (ss_wr μ k v) := by
  refine cW_set (by decide) ?_ (fun q hq => ?_)
  · rw [ceE_o (ci := 6) (by decide)]
    congr 2
    apply List.ext_getElem?
    intro i
    by_cases hi : i < (fkL.getD 6 []).length
    · rw [fsV_at hi]
      by_cases hik : i = k
      · subst hik
        rw [List.getElem?_set_self (by rw [fsV_len]; exact hi)]
        rcases (show i = 0 ∨ i = 1 by omega) with rfl | rfl <;> rfl
      · rw [List.getElem?_set_ne (Ne.symm hik), fsV_at hi]
        congr 1
        unfold fV ss_i ss_l ss_r ss_wr
        split <;> simp [hik]
    · rw [List.getElem?_eq_none (by rw [fsV_len]; omega), List.getElem?_eq_none (by rw [List.length_set, fsV_len]; omega)]
  · have e2 : ∀ ci, fsV ω (ss_wr μ k v) q ci = fsV ω μ q ci := by
      intro ci
      unfold fsV
      apply List.map_congr_left
      intro j _
      unfold fV ss_i ss_l ss_r ss_wr
      simp [hq]
    unfold ceE
    split <;> first | rw [e2] | rfl
theorem cW_wi_a {ω : Wd} {μ : Mm} {p n k : Nat} {v : Int32} (h : shA p = (1, n)) : (cW ω μ).set p (wa ω p, .inl (ω.2.2.2.1, n, .inl (upd (μ.1 p) k v))) = cW ω (ss_wi μ p k v) := by
  refine cW_set (shA_lt h (by decide)) ?_ (fun q hq => ceE_wi_ne hq)
  rw [ceE_i h]
  congr 3
  congr 1
  funext j
  simp [ss_wi, up2, upd]
theorem cW_wi_z {ω : Wd} {μ : Mm} {p n k : Nat} {v : Int32} (h : shA p = (3, n)) : (cW ω μ).set p (wa ω p, .inl (ω.2.2.2.2.2, n, .inl (upd (μ.1 p) k v))) = cW ω (ss_wi μ p k v) := by
  refine cW_set (shA_lt h (by decide)) ?_ (fun q hq => ceE_wi_ne hq)
  rw [ceE_z h]
  congr 3
  congr 1
  funext j
  simp [ss_wi, up2, upd]
theorem cW_wl_a {ω : Wd} {μ : Mm} {p n k : Nat} {v : Int64} (h : shA p = (2, n)) : (cW ω μ).set p (wa ω p, .inl (ω.2.2.2.2.1, n, .inr (.inl (vp_updL (μ.2.1 p) k v)))) = cW ω (ss_wl μ p k v) := by
  refine cW_set (shA_lt h (by decide)) ?_ (fun q hq => ceE_wl_ne hq)
  rw [ceE_l h]
  congr 4
  congr 1
  funext j
  simp [ss_wl, up2, vp_updL]
theorem cW_cp {ω : Wd} {μ : Mm} {p q n sp dp k : Nat} (h : shA p = (1, n)) : (cW ω μ).set p (wa ω p, .inl (ω.2.2.2.1, n, .inl (va_cpy (μ.1 q) (μ.1 p) sp dp k))) = cW ω (ss_cp μ q sp p dp k) := by
  refine cW_set (shA_lt h (by decide)) ?_ (fun r hr => ?_)
  · rw [ceE_i h]
    congr 3
    congr 1
    funext j
    simp [ss_cp, va_cpy]
  · have e1 : (ss_cp μ q sp p dp k).1 r = μ.1 r := by funext j; simp [ss_cp, hr]
    have e2 : ∀ ci, fsV ω (ss_cp μ q sp p dp k) r ci = fsV ω μ r ci := by
      intro ci
      unfold fsV
      apply List.map_congr_left
      intro j _
      unfold fV ss_i ss_l ss_r
      rw [e1]
      rfl
    unfold ceE
    split <;> first | rw [e2] | rw [e1] | rfl
/-! values and locals -/
def tv (ω : Wd) : Value → Value
  | .ref k => .ref (wa ω k)
  | v => v
theorem tv_cat (ω : Wd) (v : Value) : (tv ω v).category = v.category := by cases v <;> rfl
def nul : Value → Bool
  | .null => true
  | _ => false
def la (ω : Wd) (L : List Value) : List (Nat × Value) := (L.zipIdx.filter (fun q => !nul q.1)).map (fun q => (q.2, tv ω q.1))
theorem la_mem {ω : Wd} {L : List Value} {i : Nat} {w : Value} : (i, w) ∈ la ω L ↔ ∃ v, L[i]? = some v ∧ nul v = false ∧ w = tv ω v := by
  constructor
  · intro h
    obtain ⟨⟨v, j⟩, h1, h2⟩ := List.mem_map.mp h
    obtain ⟨h3, h4⟩ := List.mem_filter.mp h1
    have h5 := List.mem_zipIdx_iff_getElem?.mp h3
    simp at h2
    obtain ⟨rfl, rfl⟩ := h2
    exact ⟨v, h5, by simpa using h4, rfl⟩
  · rintro ⟨v, h1, h2, rfl⟩
    refine List.mem_map.mpr ⟨(v, i), List.mem_filter.mpr ⟨List.mem_zipIdx_iff_getElem?.mpr h1, by simp [h2]⟩, rfl⟩
theorem la_has {ω : Wd} {L : List Value} {ls : Array Slot} {n i : Nat} {v : Value} (h : lv_has ls n (la ω L)) (hi : L[i]? = some v) (hv : nul v = false) : ls[i]? = some (.val (tv ω v)) := h.2.2 (i, tv ω v) (la_mem.mpr ⟨v, hi, hv, rfl⟩)
theorem la_sub {ls : Array Slot} {n : Nat} {l l' : List (Nat × Value)} (h : lv_has ls n l) (hs : ∀ q ∈ l', q ∈ l) : lv_has ls n l' := ⟨h.1, h.2.1, fun q hq => h.2.2 q (hs q hq)⟩
end
section
/-! one straight instruction on locals, stack, memory, a flag that stays true as long as the machine does not throw -/
abbrev Sx : Type := List Value × List Value × Mm × Bool
abbrev IA : Type := Instr × Nat × Nat × Nat × Nat × Int
def oCl (p ci : Nat) : Bool := decide (shA p = (0, ci))
def inb (p t : Nat) (j : Int32) : Bool := decide ((shA p).1 = t) && decide (¬ (j < 0 ∨ (shA p).2 ≤ j.toNatClampNeg))
def noL (L : List Value) (i : Nat) : Bool := match i with
  | 0 => true
  | j + 1 => match L[j]? with
    | some v => v.category == 1
    | none => true
def x0 (x : Sx) : Sx := (x.1, x.2.1, x.2.2.1, false)
def xP (v : Value) (x : Sx) : Sx := (x.1, v :: x.2.1, x.2.2.1, x.2.2.2)
def xLi (i : Nat) (x : Sx) : Sx := match x.1[i]? with
  | some (.int v) => xP (.int v) x
  | _ => x0 x
def xLl (i : Nat) (x : Sx) : Sx := match x.1[i]? with
  | some (.long v) => xP (.long v) x
  | _ => x0 x
def xLa (i : Nat) (x : Sx) : Sx := match x.1[i]? with
  | some (.ref v) => xP (.ref v) x
  | _ => x0 x
def xSi (i : Nat) (x : Sx) : Sx := match x with
  | (L, .int v :: st, μ, f) => (L.set i (.int v), st, μ, decide (i < L.length) && (noL L i && f))
  | x => x0 x
def xSa (i : Nat) (x : Sx) : Sx := match x with
  | (L, .ref v :: st, μ, f) => (L.set i (.ref v), st, μ, decide (i < L.length) && (noL L i && f))
  | x => x0 x
def xSl (i : Nat) (x : Sx) : Sx := match x with
  | (L, .long v :: st, μ, f) => ((L.set i (.long v)).set (i + 1) .null, st, μ, decide (i + 1 < L.length) && (noL L i && f))
  | x => x0 x
def xInc (i : Nat) (n : Int) (x : Sx) : Sx := match x.1[i]? with
  | some (.int v) => (x.1.set i (.int (v + Int32.ofInt n)), x.2.1, x.2.2.1, decide (i < x.1.length) && (noL x.1 i && x.2.2.2))
  | _ => x0 x
def xII (g : Int32 → Int32 → Int32) (x : Sx) : Sx := match x with
  | (L, .int b :: .int a :: st, μ, f) => (L, .int (g a b) :: st, μ, f)
  | x => x0 x
def xIIn (g : Int32 → Int32 → Int32) (x : Sx) : Sx := match x with
  | (L, .int b :: .int a :: st, μ, f) => (L, .int (g a b) :: st, μ, decide (¬ b = 0) && f)
  | x => x0 x
def xJJ (g : Int64 → Int64 → Int64) (x : Sx) : Sx := match x with
  | (L, .long b :: .long a :: st, μ, f) => (L, .long (g a b) :: st, μ, f)
  | x => x0 x
def xJJn (g : Int64 → Int64 → Int64) (x : Sx) : Sx := match x with
  | (L, .long b :: .long a :: st, μ, f) => (L, .long (g a b) :: st, μ, decide (¬ b = 0) && f)
  | x => x0 x
def xJI (g : Int64 → Int32 → Int64) (x : Sx) : Sx := match x with
  | (L, .int b :: .long a :: st, μ, f) => (L, .long (g a b) :: st, μ, f)
  | x => x0 x
def xCmp (x : Sx) : Sx := match x with
  | (L, .long b :: .long a :: st, μ, f) => (L, .int (lg_cmp a b) :: st, μ, f)
  | x => x0 x
def xI2l (x : Sx) : Sx := match x with
  | (L, .int a :: st, μ, f) => (L, .long a.toInt64 :: st, μ, f)
  | x => x0 x
def xDup (x : Sx) : Sx := match x with
  | (L, v :: st, μ, f) => (L, v :: v :: st, μ, (v.category == 1) && f)
  | x => x0 x
def xPop (x : Sx) : Sx := match x with
  | (L, v :: st, μ, f) => (L, st, μ, (v.category == 1) && f)
  | x => x0 x
def xDup2 (x : Sx) : Sx := match x with
  | (L, v :: w :: st, μ, f) => (L, v :: w :: v :: w :: st, μ, (v.category == 1) && ((w.category == 1) && f))
  | x => x0 x
def aV (μ : Mm) (p k d : Nat) : Value := match d with
  | 0 => .int (ss_i μ p k)
  | 1 => .long (ss_l μ p k)
  | _ => .ref (ss_r μ p k)
def xGet (a b d : Nat) (x : Sx) : Sx := match x with
  | (L, .ref p :: st, μ, f) => (L, aV μ p b d :: st, μ, oCl p a && f)
  | x => x0 x
def xPut (a b d : Nat) (x : Sx) : Sx := match x with
  | (L, .int v :: .ref p :: st, μ, f) => (L, st, ss_wi μ p b v, oCl p a && ((d == 0) && f))
  | (L, .long v :: .ref p :: st, μ, f) => (L, st, ss_wl μ p b v, oCl p a && ((d == 1) && f))
  | (L, .ref v :: .ref p :: st, μ, f) => (L, st, ss_wr μ b v, decide (p = 0) && ((a == 6) && (decide (b < 2) && f)))
  | x => x0 x
def xIal (x : Sx) : Sx := match x with
  | (L, .int j :: .ref p :: st, μ, f) => (L, .int (ss_i μ p j.toNatClampNeg) :: st, μ, inb p 1 j && f)
  | x => x0 x
def xZal (x : Sx) : Sx := match x with
  | (L, .int j :: .ref p :: st, μ, f) => (L, .int (ss_i μ p j.toNatClampNeg) :: st, μ, inb p 3 j && f)
  | x => x0 x
def xLal (x : Sx) : Sx := match x with
  | (L, .int j :: .ref p :: st, μ, f) => (L, .long (ss_l μ p j.toNatClampNeg) :: st, μ, inb p 2 j && f)
  | x => x0 x
def xIas (x : Sx) : Sx := match x with
  | (L, .int v :: .int j :: .ref p :: st, μ, f) => (L, st, ss_wi μ p j.toNatClampNeg v, inb p 1 j && f)
  | x => x0 x
def xZas (x : Sx) : Sx := match x with
  | (L, .int v :: .int j :: .ref p :: st, μ, f) => (L, st, ss_wi μ p j.toNatClampNeg (vp_nar .boolean v), inb p 3 j && f)
  | x => x0 x
def xLas (x : Sx) : Sx := match x with
  | (L, .long v :: .int j :: .ref p :: st, μ, f) => (L, st, ss_wl μ p j.toNatClampNeg v, inb p 2 j && f)
  | x => x0 x
def xLen (x : Sx) : Sx := match x with
  | (L, .ref p :: st, μ, f) => (L, .int (Int32.ofNat (shA p).2) :: st, μ, decide (1 ≤ (shA p).1 ∧ (shA p).1 ≤ 3) && f)
  | x => x0 x
def sI (q : IA) (x : Sx) : Sx := match q.1 with
  | .iconst n => xP (.int (Int32.ofInt n)) x
  | .bipush n => xP (.int (Int8.ofInt n).toInt32) x
  | .sipush n => xP (.int (Int16.ofInt n).toInt32) x
  | .lconst n => xP (.long (Int64.ofNat (n : Nat))) x
  | .ldc _ => xP (.int (Int32.ofInt q.2.2.2.2.2)) x
  | .ldc_w _ => xP (.int (Int32.ofInt q.2.2.2.2.2)) x
  | .ldc2_w _ => xP (.long (Int64.ofInt q.2.2.2.2.2)) x
  | .iload_n k => xLi k x
  | .iload i => xLi i x
  | .lload_n k => xLl k x
  | .lload i => xLl i x
  | .aload_n k => xLa k x
  | .aload i => xLa i x
  | .istore_n k => xSi k x
  | .istore i => xSi i x
  | .lstore_n k => xSl k x
  | .lstore i => xSl i x
  | .astore_n k => xSa k x
  | .astore i => xSa i x
  | .iinc i n => xInc i n x
  | .iadd => xII (fun a b => a + b) x
  | .isub => xII (fun a b => a - b) x
  | .imul => xII (fun a b => a * b) x
  | .iand => xII (fun a b => a &&& b) x
  | .ior => xII (fun a b => a ||| b) x
  | .ixor => xII (fun a b => a ^^^ b) x
  | .ishl => xII (fun a b => a <<< (b &&& 31)) x
  | .ishr => xII (fun a b => a >>> (b &&& 31)) x
  | .iushr => xII (fun a b => (a.toUInt32 >>> (b.toUInt32 &&& Int32.toUInt32 31)).toInt32) x
  | .idiv => xIIn (fun a b => a / b) x
  | .irem => xIIn (fun a b => a - a / b * b) x
  | .ladd => xJJ (fun a b => a + b) x
  | .lsub => xJJ (fun a b => a - b) x
  | .lmul => xJJ (fun a b => a * b) x
  | .land => xJJ (fun a b => a &&& b) x
  | .lor => xJJ (fun a b => a ||| b) x
  | .ldiv => xJJn (fun a b => a / b) x
  | .lrem => xJJn (fun a b => a - a / b * b) x
  | .lshl => xJI (fun a b => a <<< (b.toInt64 &&& 63)) x
  | .lshr => xJI (fun a b => a >>> (b.toInt64 &&& 63)) x
  | .lcmp => xCmp x
  | .i2l => xI2l x
  | .dup => xDup x
  | .pop => xPop x
  | .dup2 => xDup2 x
  | .getfield _ => xGet q.2.2.1 q.2.2.2.1 q.2.2.2.2.1 x
  | .putfield _ => xPut q.2.2.1 q.2.2.2.1 q.2.2.2.2.1 x
  | .iaload => xIal x
  | .baload => xZal x
  | .laload => xLal x
  | .iastore => xIas x
  | .bastore => xZas x
  | .lastore => xLas x
  | .arraylength => xLen x
  | _ => x0 x
def flOk (ow idx a b d : Nat) : Bool := flT.contains (ow, idx, a, b) && ((fkL.getD a []).getD b 9 == d)
/-- an instruction of the code at a place, with its notes held against the tables -/
def ckI (ow : Nat) (cc : ByteArray) (pc : Nat) (q : IA) : Bool := decide (decode cc pc = .ok (q.1, q.2.1)) && (match q.1 with
  | .getfield idx => flOk ow idx q.2.2.1 q.2.2.2.1 q.2.2.2.2.1 && (q.2.1 == 3)
  | .putfield idx => flOk ow idx q.2.2.1 q.2.2.2.1 q.2.2.2.2.1 && !(TT q.2.2.1 q.2.2.2.1).2.2.2 && (q.2.1 == 3)
  | .ldc idx => ctI.contains (ow, idx, q.2.2.2.2.2) && (q.2.1 == 2)
  | .ldc_w idx => ctI.contains (ow, idx, q.2.2.2.2.2) && (q.2.1 == 3)
  | .ldc2_w idx => ctL.contains (ow, idx, q.2.2.2.2.2) && (q.2.1 == 3)
  | .bipush _ | .iload _ | .lload _ | .aload _ | .istore _ | .lstore _ | .astore _ => q.2.1 == 2
  | .sipush _ | .iinc _ _ => q.2.1 == 3
  | _ => q.2.1 == 1)
end
section
/-! the straight instructions on the machine -/
abbrev MD : Type := MethodName × ByteArray × Nat × Option FieldType × Nat × Nat × Nat
def isNest : Cond → Bool
  | .methodLinkNest .. => true
  | _ => false
def nw : List Cond := lw_tbl.filter isNest
theorem nw_is {w : Cond} (h : w ∈ nw) : ∃ a i x y, w = .methodLinkNest a i x y := by
  have h2 := (List.mem_filter.mp h).2
  cases w <;> first | exact ⟨_, _, _, _, rfl⟩ | exact absurd h2 Bool.false_ne_true
theorem nw_warm {s U : State} (hW : s.WarmedH U.vm) (h : ∀ w ∈ nw, va_Nw w s) : ∀ w ∈ nw, va_Nw w U := by
  intro w hw
  obtain ⟨a, i, x, y, rfl⟩ := nw_is hw
  exact va_Nw.warmM hW (h _ hw)
def Cx (ω : Wd) (M : MD) (p : Program) (s : State) (m : MethodId) (args : Array Value) (meth : Method) (c : Code) : Prop :=
  p.tables.exec = Jvm.exec ∧ c.code = M.2.1 ∧ c.maxLocals = M.2.2.1 ∧ meth.sig.returnType = M.2.2.2.1 ∧ s.vm.findClass (RR M.2.2.2.2.1) = some m.cls ∧ (∀ w ∈ gt, w.before args s = true) ∧ (∀ w ∈ nw, va_Nw w s) ∧ va_K (wD ω) vwCl (tys3 ω) s ∧ meth.locks = false ∧ wAp ω
def GW (ω : Wd) (M : MD) (p : Program) (l : Launch) (e : Env) (R : Room) (s : State) (m : MethodId) (args : Array Value) (below : List Frame) (meth : Method) (c : Code) (cells slots : Nat) (Z : State → Prop) (pc : Nat) (L st : List Value) (μ : Mm) : Prop :=
  ∀ (H : Heap) (locs : List Loc) (ls : Array Slot), va_P (wD ω) vwCl (cW ω μ) H → va_S (wA ω) s.heap H locs → lv_has ls M.2.2.1 (la ω L) → L.length = M.2.2.1 → W p l e R s m args below meth c H locs cells slots Z (F0 m pc ls (st.map (tv ω)))
theorem la_set1 {ω : Wd} {L : List Value} {i : Nat} {v : Value} (hn : noL L i = true) : ∀ q ∈ la ω (L.set i v), q ∈ (i, tv ω v) :: (la ω L).filter (fun q => !(q.1 == i) && !(q.1 + 1 == i && q.2.category == 2)) := by
  rintro ⟨j, w⟩ hq
  obtain ⟨u, h1, h2, rfl⟩ := la_mem.mp hq
  by_cases hj : j = i
  · subst hj
    rw [List.getElem?_set] at h1
    simp only [if_true] at h1
    split at h1
    · cases h1; exact List.mem_cons_self
    · cases h1
  · rw [List.getElem?_set_ne (Ne.symm hj)] at h1
    refine List.mem_cons_of_mem _ (List.mem_filter.mpr ⟨la_mem.mpr ⟨u, h1, h2, rfl⟩, ?_⟩)
    by_cases hj2 : j + 1 = i
    · subst hj2
      unfold noL at hn
      simp only [h1] at hn
      have hc : u.category = 1 := by simpa using hn
      simp [tv_cat, hc]
    · simp [hj, hj2]
theorem la_set2 {ω : Wd} {L : List Value} {i : Nat} {v : Value} (hn : noL L i = true) : ∀ q ∈ la ω ((L.set i v).set (i + 1) .null), q ∈ (i, tv ω v) :: (la ω L).filter (fun q => !(q.1 == i) && (!(q.1 == i + 1) && !(q.1 + 1 == i && q.2.category == 2))) := by
  rintro ⟨j, w⟩ hq
  obtain ⟨u, h1, h2, rfl⟩ := la_mem.mp hq
  by_cases hj1 : j = i + 1
  · subst hj1
    rw [List.getElem?_set] at h1
    simp only [if_true] at h1
    split at h1
    · cases h1; exact absurd h2 (by decide)
    · cases h1
  rw [List.getElem?_set_ne (Ne.symm hj1)] at h1
  by_cases hj : j = i
  · subst hj
    rw [List.getElem?_set] at h1
    simp only [if_true] at h1
    split at h1
    · cases h1; exact List.mem_cons_self
    · cases h1
  · rw [List.getElem?_set_ne (Ne.symm hj)] at h1
    refine List.mem_cons_of_mem _ (List.mem_filter.mpr ⟨la_mem.mpr ⟨u, h1, h2, rfl⟩, ?_⟩)
    by_cases hj2 : j + 1 = i
    · subst hj2
      unfold noL at hn
      simp only [h1] at hn
      have hc : u.category = 1 := by simpa using hn
      simp [tv_cat, hc]; omega
    · simp [hj, hj1, hj2]
theorem b3 {a b c : Bool} (h : (a && b && c) = true) : a = true ∧ b = true ∧ c = true := by
  revert a b c; decide
theorem b2 {a b : Bool} (h : (a && b) = true) : a = true ∧ b = true := by
  revert a b; decide
theorem b4 {a b c d : Bool} (h : (a && b && c && d) = true) : a = true ∧ b = true ∧ c = true ∧ d = true := by
  revert a b c d; decide
theorem f2 {a b : Bool} (h : (b && a) = true) : a = true ∧ b = true := by
  revert a b; decide
theorem f3 {a b c : Bool} (h : (b && (c && a)) = true) : a = true ∧ b = true ∧ c = true := by
  revert a b c; decide
theorem f4 {a b c d : Bool} (h : (b && (c && (d && a))) = true) : a = true ∧ b = true ∧ c = true ∧ d = true := by
  revert a b c d; decide
theorem fa {a b : Bool} (h : a = true) (k : b = true) : (a && b) = true := by
  rw [h, k]; rfl
section GWS
variable {ω : Wd} {M : MD} {p : Program} {l : Launch} {e : Env} {R : Room} {s : State} {m : MethodId} {args : Array Value} {below : List Frame} {meth : Method} {c : Code} {cells slots : Nat} {Z : State → Prop} {pc n : Nat}
theorem gw_P {v : Value} {x : Sx} (row : ∀ {H : Heap} {locs : List Loc} {ls : Array Slot} {rest : List Value}, W p l e R s m args below meth c H locs cells slots Z (F0 m n ls (tv ω v :: rest)) → W p l e R s m args below meth c H locs cells slots Z (F0 m pc ls rest)) (k : GW ω M p l e R s m args below meth c cells slots Z n (xP v x).1 (xP v x).2.1 (xP v x).2.2.1) : GW ω M p l e R s m args below meth c cells slots Z pc x.1 x.2.1 x.2.2.1 :=
  fun H locs ls hP hS hl hL => row (k H locs ls hP hS hl hL)
theorem gw_Li {i : Nat} {x : Sx} (row : ∀ {H : Heap} {locs : List Loc} {ls : Array Slot} {rest : List Value} {v : Int32}, ls[i]? = some (.val (.int v)) → W p l e R s m args below meth c H locs cells slots Z (F0 m n ls (.int v :: rest)) → W p l e R s m args below meth c H locs cells slots Z (F0 m pc ls rest)) (hf : (xLi i x).2.2.2 = true) (k : GW ω M p l e R s m args below meth c cells slots Z n (xLi i x).1 (xLi i x).2.1 (xLi i x).2.2.1) : GW ω M p l e R s m args below meth c cells slots Z pc x.1 x.2.1 x.2.2.1 := by
  unfold xLi at hf k
  intro H locs ls hP hS hl hL
  cases h : x.1[i]? with
  | none => rw [h] at hf; exact absurd hf Bool.false_ne_true
  | some v =>
    rw [h] at hf k
    cases v <;> first | exact absurd hf Bool.false_ne_true | exact row (la_has hl h rfl) (k H locs ls hP hS hl hL)
theorem gw_Ll {i : Nat} {x : Sx} (row : ∀ {H : Heap} {locs : List Loc} {ls : Array Slot} {rest : List Value} {v : Int64}, ls[i]? = some (.val (.long v)) → W p l e R s m args below meth c H locs cells slots Z (F0 m n ls (.long v :: rest)) → W p l e R s m args below meth c H locs cells slots Z (F0 m pc ls rest)) (hf : (xLl i x).2.2.2 = true) (k : GW ω M p l e R s m args below meth c cells slots Z n (xLl i x).1 (xLl i x).2.1 (xLl i x).2.2.1) : GW ω M p l e R s m args below meth c cells slots Z pc x.1 x.2.1 x.2.2.1 := by
  unfold xLl at hf k
  intro H locs ls hP hS hl hL
  cases h : x.1[i]? with
  | none => rw [h] at hf; exact absurd hf Bool.false_ne_true
  | some v =>
    rw [h] at hf k
    cases v <;> first | exact absurd hf Bool.false_ne_true | exact row (la_has hl h rfl) (k H locs ls hP hS hl hL)
theorem gw_La {i : Nat} {x : Sx} (row : ∀ {H : Heap} {locs : List Loc} {ls : Array Slot} {rest : List Value} {v : Nat}, ls[i]? = some (.val (.ref v)) → W p l e R s m args below meth c H locs cells slots Z (F0 m n ls (.ref v :: rest)) → W p l e R s m args below meth c H locs cells slots Z (F0 m pc ls rest)) (hf : (xLa i x).2.2.2 = true) (k : GW ω M p l e R s m args below meth c cells slots Z n (xLa i x).1 (xLa i x).2.1 (xLa i x).2.2.1) : GW ω M p l e R s m args below meth c cells slots Z pc x.1 x.2.1 x.2.2.1 := by
  unfold xLa at hf k
  intro H locs ls hP hS hl hL
  cases h : x.1[i]? with
  | none => rw [h] at hf; exact absurd hf Bool.false_ne_true
  | some v =>
    rw [h] at hf k
    cases v <;> first | exact absurd hf Bool.false_ne_true | exact row (la_has hl h rfl) (k H locs ls hP hS hl hL)
theorem gw_Si {i : Nat} {x : Sx} (row : ∀ {H : Heap} {locs : List Loc} {ls : Array Slot} {rest : List Value} {v : Int32} {lv : List (Nat × Value)}, lv_has ls M.2.2.1 lv → i < M.2.2.1 → (∀ ls' : Array Slot, lv_has ls' M.2.2.1 ((i, Value.int v) :: lv.filter (fun q => !(q.1 == i) && !(q.1 + 1 == i && q.2.category == 2))) → W p l e R s m args below meth c H locs cells slots Z (F0 m n ls' rest)) → W p l e R s m args below meth c H locs cells slots Z (F0 m pc ls (.int v :: rest))) (hf : (xSi i x).2.2.2 = true) (k : GW ω M p l e R s m args below meth c cells slots Z n (xSi i x).1 (xSi i x).2.1 (xSi i x).2.2.1) : GW ω M p l e R s m args below meth c cells slots Z pc x.1 x.2.1 x.2.2.1 := by
  obtain ⟨L, st, μ, f⟩ := x
  rcases st with _ | ⟨v, st⟩
  · exact absurd hf Bool.false_ne_true
  cases v <;> try exact absurd hf Bool.false_ne_true
  intro H locs ls hP hS hl hL
  obtain ⟨h1, h2, h3⟩ := f3 hf
  have hL : L.length = M.2.2.1 := hL
  exact row hl (by rw [← hL]; exact of_decide_eq_true h2) (fun ls' hl' => k H locs ls' hP hS (la_sub hl' (la_set1 h3)) (by show (L.set _ _).length = _; rw [List.length_set]; exact hL))
theorem gw_Sa {i : Nat} {x : Sx} (row : ∀ {H : Heap} {locs : List Loc} {ls : Array Slot} {rest : List Value} {v : Nat} {lv : List (Nat × Value)}, lv_has ls M.2.2.1 lv → i < M.2.2.1 → (∀ ls' : Array Slot, lv_has ls' M.2.2.1 ((i, Value.ref v) :: lv.filter (fun q => !(q.1 == i) && !(q.1 + 1 == i && q.2.category == 2))) → W p l e R s m args below meth c H locs cells slots Z (F0 m n ls' rest)) → W p l e R s m args below meth c H locs cells slots Z (F0 m pc ls (.ref v :: rest))) (hf : (xSa i x).2.2.2 = true) (k : GW ω M p l e R s m args below meth c cells slots Z n (xSa i x).1 (xSa i x).2.1 (xSa i x).2.2.1) : GW ω M p l e R s m args below meth c cells slots Z pc x.1 x.2.1 x.2.2.1 := by
  obtain ⟨L, st, μ, f⟩ := x
  rcases st with _ | ⟨v, st⟩
  · exact absurd hf Bool.false_ne_true
  cases v <;> try exact absurd hf Bool.false_ne_true
  intro H locs ls hP hS hl hL
  obtain ⟨h1, h2, h3⟩ := f3 hf
  have hL : L.length = M.2.2.1 := hL
  exact row hl (by rw [← hL]; exact of_decide_eq_true h2) (fun ls' hl' => k H locs ls' hP hS (la_sub hl' (la_set1 h3)) (by show (L.set _ _).length = _; rw [List.length_set]; exact hL))
theorem gw_Sl {i : Nat} {x : Sx} (row : ∀ {H : Heap} {locs : List Loc} {ls : Array Slot} {rest : List Value} {v : Int64} {lv : List (Nat × Value)}, lv_has ls M.2.2.1 lv → i + 1 < M.2.2.1 → (∀ ls' : Array Slot, lv_has ls' M.2.2.1 ((i, Value.long v) :: lv.filter (fun q => !(q.1 == i) && (!(q.1 == i + 1) && !(q.1 + 1 == i && q.2.category == 2)))) → W p l e R s m args below meth c H locs cells slots Z (F0 m n ls' rest)) → W p l e R s m args below meth c H locs cells slots Z (F0 m pc ls (.long v :: rest))) (hf : (xSl i x).2.2.2 = true) (k : GW ω M p l e R s m args below meth c cells slots Z n (xSl i x).1 (xSl i x).2.1 (xSl i x).2.2.1) : GW ω M p l e R s m args below meth c cells slots Z pc x.1 x.2.1 x.2.2.1 := by
  obtain ⟨L, st, μ, f⟩ := x
  rcases st with _ | ⟨v, st⟩
  · exact absurd hf Bool.false_ne_true
  cases v <;> try exact absurd hf Bool.false_ne_true
  intro H locs ls hP hS hl hL
  obtain ⟨h1, h2, h3⟩ := f3 hf
  have hL : L.length = M.2.2.1 := hL
  exact row hl (by rw [← hL]; exact of_decide_eq_true h2) (fun ls' hl' => k H locs ls' hP hS (la_sub hl' (la_set2 h3)) (by show ((L.set _ _).set _ _).length = _; rw [List.length_set, List.length_set]; exact hL))
theorem gw_Inc {i : Nat} {z : Int} {x : Sx} (row : ∀ {H : Heap} {locs : List Loc} {ls : Array Slot} {rest : List Value} {v : Int32} {j : Nat} {lv : List (Nat × Value)}, lv_has ls M.2.2.1 lv → lv[j]? = some (i, .int v) → i < M.2.2.1 → (∀ ls' : Array Slot, lv_has ls' M.2.2.1 ((i, Value.int (v + Int32.ofInt z)) :: lv.filter (fun q => !(q.1 == i) && !(q.1 + 1 == i && q.2.category == 2))) → W p l e R s m args below meth c H locs cells slots Z (F0 m n ls' rest)) → W p l e R s m args below meth c H locs cells slots Z (F0 m pc ls rest)) (hf : (xInc i z x).2.2.2 = true) (k : GW ω M p l e R s m args below meth c cells slots Z n (xInc i z x).1 (xInc i z x).2.1 (xInc i z x).2.2.1) : GW ω M p l e R s m args below meth c cells slots Z pc x.1 x.2.1 x.2.2.1 := by
  obtain ⟨L, st, μ, f⟩ := x
  unfold xInc at hf k
  intro H locs ls hP hS hl hL
  have hL : L.length = M.2.2.1 := hL
  cases h : L[i]? with
  | none => simp only [h] at hf; exact absurd hf Bool.false_ne_true
  | some v =>
    simp only [h] at hf k
    cases v <;> first | exact absurd hf Bool.false_ne_true | skip
    obtain ⟨h1, h2, h3⟩ := f3 hf
    obtain ⟨j, hj⟩ := List.getElem?_of_mem (la_mem (ω := ω).mpr ⟨_, h, rfl, rfl⟩)
    exact row hl hj (by rw [← hL]; exact of_decide_eq_true h2) (fun ls' hl' => k H locs ls' hP hS (la_sub hl' (la_set1 h3)) (by show (L.set _ _).length = _; rw [List.length_set]; exact hL))
theorem gw_II {g : Int32 → Int32 → Int32} {x : Sx} (row : ∀ {H : Heap} {locs : List Loc} {ls : Array Slot} {rest : List Value} {a b : Int32}, W p l e R s m args below meth c H locs cells slots Z (F0 m n ls (.int (g a b) :: rest)) → W p l e R s m args below meth c H locs cells slots Z (F0 m pc ls (.int b :: .int a :: rest))) (hf : (xII g x).2.2.2 = true) (k : GW ω M p l e R s m args below meth c cells slots Z n (xII g x).1 (xII g x).2.1 (xII g x).2.2.1) : GW ω M p l e R s m args below meth c cells slots Z pc x.1 x.2.1 x.2.2.1 := by
  obtain ⟨L, st, μ, f⟩ := x
  rcases st with _ | ⟨v, _ | ⟨w, st⟩⟩
  · exact absurd hf Bool.false_ne_true
  · cases v <;> exact absurd hf Bool.false_ne_true
  cases v <;> try exact absurd hf Bool.false_ne_true
  cases w <;> try exact absurd hf Bool.false_ne_true
  exact fun H locs ls hP hS hl hL => row (k H locs ls hP hS hl hL)
theorem gw_IIn {g : Int32 → Int32 → Int32} {x : Sx} (row : ∀ {H : Heap} {locs : List Loc} {ls : Array Slot} {rest : List Value} {a b : Int32}, ¬ b = 0 → W p l e R s m args below meth c H locs cells slots Z (F0 m n ls (.int (g a b) :: rest)) → W p l e R s m args below meth c H locs cells slots Z (F0 m pc ls (.int b :: .int a :: rest))) (hf : (xIIn g x).2.2.2 = true) (k : GW ω M p l e R s m args below meth c cells slots Z n (xIIn g x).1 (xIIn g x).2.1 (xIIn g x).2.2.1) : GW ω M p l e R s m args below meth c cells slots Z pc x.1 x.2.1 x.2.2.1 := by
  obtain ⟨L, st, μ, f⟩ := x
  rcases st with _ | ⟨v, _ | ⟨w, st⟩⟩
  · exact absurd hf Bool.false_ne_true
  · cases v <;> exact absurd hf Bool.false_ne_true
  cases v <;> try exact absurd hf Bool.false_ne_true
  cases w <;> try exact absurd hf Bool.false_ne_true
  exact fun H locs ls hP hS hl hL => row (of_decide_eq_true (f2 hf).2) (k H locs ls hP hS hl hL)
theorem gw_JJ {g : Int64 → Int64 → Int64} {x : Sx} (row : ∀ {H : Heap} {locs : List Loc} {ls : Array Slot} {rest : List Value} {a b : Int64}, W p l e R s m args below meth c H locs cells slots Z (F0 m n ls (.long (g a b) :: rest)) → W p l e R s m args below meth c H locs cells slots Z (F0 m pc ls (.long b :: .long a :: rest))) (hf : (xJJ g x).2.2.2 = true) (k : GW ω M p l e R s m args below meth c cells slots Z n (xJJ g x).1 (xJJ g x).2.1 (xJJ g x).2.2.1) : GW ω M p l e R s m args below meth c cells slots Z pc x.1 x.2.1 x.2.2.1 := by
  obtain ⟨L, st, μ, f⟩ := x
  rcases st with _ | ⟨v, _ | ⟨w, st⟩⟩
  · exact absurd hf Bool.false_ne_true
  · cases v <;> exact absurd hf Bool.false_ne_true
  cases v <;> try exact absurd hf Bool.false_ne_true
  cases w <;> try exact absurd hf Bool.false_ne_true
  exact fun H locs ls hP hS hl hL => row (k H locs ls hP hS hl hL)
theorem gw_JJn {g : Int64 → Int64 → Int64} {x : Sx} (row : ∀ {H : Heap} {locs : List Loc} {ls : Array Slot} {rest : List Value} {a b : Int64}, ¬ b = 0 → W p l e R s m args below meth c H locs cells slots Z (F0 m n ls (.long (g a b) :: rest)) → W p l e R s m args below meth c H locs cells slots Z (F0 m pc ls (.long b :: .long a :: rest))) (hf : (xJJn g x).2.2.2 = true) (k : GW ω M p l e R s m args below meth c cells slots Z n (xJJn g x).1 (xJJn g x).2.1 (xJJn g x).2.2.1) : GW ω M p l e R s m args below meth c cells slots Z pc x.1 x.2.1 x.2.2.1 := by
  obtain ⟨L, st, μ, f⟩ := x
  rcases st with _ | ⟨v, _ | ⟨w, st⟩⟩
  · exact absurd hf Bool.false_ne_true
  · cases v <;> exact absurd hf Bool.false_ne_true
  cases v <;> try exact absurd hf Bool.false_ne_true
  cases w <;> try exact absurd hf Bool.false_ne_true
  exact fun H locs ls hP hS hl hL => row (of_decide_eq_true (f2 hf).2) (k H locs ls hP hS hl hL)
theorem gw_JI {g : Int64 → Int32 → Int64} {x : Sx} (row : ∀ {H : Heap} {locs : List Loc} {ls : Array Slot} {rest : List Value} {a : Int64} {b : Int32}, W p l e R s m args below meth c H locs cells slots Z (F0 m n ls (.long (g a b) :: rest)) → W p l e R s m args below meth c H locs cells slots Z (F0 m pc ls (.int b :: .long a :: rest))) (hf : (xJI g x).2.2.2 = true) (k : GW ω M p l e R s m args below meth c cells slots Z n (xJI g x).1 (xJI g x).2.1 (xJI g x).2.2.1) : GW ω M p l e R s m args below meth c cells slots Z pc x.1 x.2.1 x.2.2.1 := by
  obtain ⟨L, st, μ, f⟩ := x
  rcases st with _ | ⟨v, _ | ⟨w, st⟩⟩
  · exact absurd hf Bool.false_ne_true
  · cases v <;> exact absurd hf Bool.false_ne_true
  cases v <;> try exact absurd hf Bool.false_ne_true
  cases w <;> try exact absurd hf Bool.false_ne_true
  exact fun H locs ls hP hS hl hL => row (k H locs ls hP hS hl hL)
theorem gw_Cmp {x : Sx} (row : ∀ {H : Heap} {locs : List Loc} {ls : Array Slot} {rest : List Value} {a b : Int64}, W p l e R s m args below meth c H locs cells slots Z (F0 m n ls (.int (lg_cmp a b) :: rest)) → W p l e R s m args below meth c H locs cells slots Z (F0 m pc ls (.long b :: .long a :: rest))) (hf : (xCmp x).2.2.2 = true) (k : GW ω M p l e R s m args below meth c cells slots Z n (xCmp x).1 (xCmp x).2.1 (xCmp x).2.2.1) : GW ω M p l e R s m args below meth c cells slots Z pc x.1 x.2.1 x.2.2.1 := by
  obtain ⟨L, st, μ, f⟩ := x
  rcases st with _ | ⟨v, _ | ⟨w, st⟩⟩
  · exact absurd hf Bool.false_ne_true
  · cases v <;> exact absurd hf Bool.false_ne_true
  cases v <;> try exact absurd hf Bool.false_ne_true
  cases w <;> try exact absurd hf Bool.false_ne_true
  exact fun H locs ls hP hS hl hL => row (k H locs ls hP hS hl hL)
theorem gw_I2l {x : Sx} (row : ∀ {H : Heap} {locs : List Loc} {ls : Array Slot} {rest : List Value} {a : Int32}, W p l e R s m args below meth c H locs cells slots Z (F0 m n ls (.long a.toInt64 :: rest)) → W p l e R s m args below meth c H locs cells slots Z (F0 m pc ls (.int a :: rest))) (hf : (xI2l x).2.2.2 = true) (k : GW ω M p l e R s m args below meth c cells slots Z n (xI2l x).1 (xI2l x).2.1 (xI2l x).2.2.1) : GW ω M p l e R s m args below meth c cells slots Z pc x.1 x.2.1 x.2.2.1 := by
  obtain ⟨L, st, μ, f⟩ := x
  rcases st with _ | ⟨v, st⟩
  · exact absurd hf Bool.false_ne_true
  cases v <;> try exact absurd hf Bool.false_ne_true
  exact fun H locs ls hP hS hl hL => row (k H locs ls hP hS hl hL)
theorem gw_Dup {x : Sx} (row : ∀ {H : Heap} {locs : List Loc} {ls : Array Slot} {rest : List Value} {v : Value}, v.category = 1 → W p l e R s m args below meth c H locs cells slots Z (F0 m n ls (v :: v :: rest)) → W p l e R s m args below meth c H locs cells slots Z (F0 m pc ls (v :: rest))) (hf : (xDup x).2.2.2 = true) (k : GW ω M p l e R s m args below meth c cells slots Z n (xDup x).1 (xDup x).2.1 (xDup x).2.2.1) : GW ω M p l e R s m args below meth c cells slots Z pc x.1 x.2.1 x.2.2.1 := by
  obtain ⟨L, st, μ, f⟩ := x
  rcases st with _ | ⟨v, st⟩
  · exact absurd hf Bool.false_ne_true
  exact fun H locs ls hP hS hl hL => row (by rw [tv_cat]; exact eq_of_beq (f2 hf).2) (k H locs ls hP hS hl hL)
theorem gw_Pop {x : Sx} (row : ∀ {H : Heap} {locs : List Loc} {ls : Array Slot} {rest : List Value} {v : Value}, v.category = 1 → W p l e R s m args below meth c H locs cells slots Z (F0 m n ls rest) → W p l e R s m args below meth c H locs cells slots Z (F0 m pc ls (v :: rest))) (hf : (xPop x).2.2.2 = true) (k : GW ω M p l e R s m args below meth c cells slots Z n (xPop x).1 (xPop x).2.1 (xPop x).2.2.1) : GW ω M p l e R s m args below meth c cells slots Z pc x.1 x.2.1 x.2.2.1 := by
  obtain ⟨L, st, μ, f⟩ := x
  rcases st with _ | ⟨v, st⟩
  · exact absurd hf Bool.false_ne_true
  exact fun H locs ls hP hS hl hL => row (by rw [tv_cat]; exact eq_of_beq (f2 hf).2) (k H locs ls hP hS hl hL)
theorem gw_Dup2 {x : Sx} (row : ∀ {H : Heap} {locs : List Loc} {ls : Array Slot} {rest : List Value} {v w : Value}, v.category = 1 → w.category = 1 → W p l e R s m args below meth c H locs cells slots Z (F0 m n ls (v :: w :: v :: w :: rest)) → W p l e R s m args below meth c H locs cells slots Z (F0 m pc ls (v :: w :: rest))) (hf : (xDup2 x).2.2.2 = true) (k : GW ω M p l e R s m args below meth c cells slots Z n (xDup2 x).1 (xDup2 x).2.1 (xDup2 x).2.2.1) : GW ω M p l e R s m args below meth c cells slots Z pc x.1 x.2.1 x.2.2.1 := by
  obtain ⟨L, st, μ, f⟩ := x
  rcases st with _ | ⟨v, _ | ⟨w, st⟩⟩
  · exact absurd hf Bool.false_ne_true
  · exact absurd hf Bool.false_ne_true
  exact fun H locs ls hP hS hl hL => row (by rw [tv_cat]; exact eq_of_beq (f3 hf).2.1) (by rw [tv_cat]; exact eq_of_beq (f3 hf).2.2) (k H locs ls hP hS hl hL)
end GWS
end
section
section GWM
variable {ω : Wd} {M : MD} {p : Program} {l : Launch} {e : Env} {R : Room} {s : State} {m : MethodId} {args : Array Value} {below : List Frame} {meth : Method} {c : Code} {cells slots : Nat} {Z : State → Prop} {pc : Nat}
theorem fl_use {ow idx a b d : Nat} (h : flOk ow idx a b d = true) : flW (ow, idx, a, b) ∈ gt ∧ a < 8 ∧ b < NN.getD a 0 ∧ (fkL.getD a []).getD b 9 = d ∧ (fkL.getD a []).getD b 0 = d := by
  unfold flOk at h
  obtain ⟨h1, h2⟩ := b2 h
  have hm : (ow, idx, a, b) ∈ flT := List.contains_iff_mem.mp h1
  have h3 := flT_lt _ hm
  have h4 : (fkL.getD a []).getD b 9 = d := eq_of_beq h2
  have h5 : b < (fkL.getD a []).length := by rw [cl_len a h3.1]; exact h3.2
  refine ⟨flT_ok _ hm, h3.1, h3.2, h4, ?_⟩
  rw [← h4]
  generalize fkL.getD a [] = F at h5
  rw [List.getD_eq_getElem?_getD, List.getD_eq_getElem?_getD, List.getElem?_eq_getElem h5]
  rfl
theorem gw_Get (C : Cx ω M p s m args meth c) {idx a b d : Nat} {x : Sx} (hd : decode M.2.1 pc = .ok (.getfield idx, 3)) (hw : flOk M.2.2.2.2.1 idx a b d = true) (hf : (xGet a b d x).2.2.2 = true) (k : GW ω M p l e R s m args below meth c cells slots Z (pc + 3) (xGet a b d x).1 (xGet a b d x).2.1 (xGet a b d x).2.2.1) : GW ω M p l e R s m args below meth c cells slots Z pc x.1 x.2.1 x.2.2.1 := by
  obtain ⟨L, st, μ, f⟩ := x
  rcases st with _ | ⟨v, st⟩
  · exact absurd hf Bool.false_ne_true
  cases v <;> try exact absurd hf Bool.false_ne_true
  rename_i q
  obtain ⟨hx, hb, hml, hr, hown, hts, hnw, hK, hlk, hap⟩ := C
  obtain ⟨w1, w2, w3, w4, w5⟩ := fl_use hw
  have ho : shA q = (0, a) := of_decide_eq_true (f2 hf).2
  have hq := shA_lt ho (by decide)
  intro H locs ls hP hS hl hL
  have hkl : b < (fkL.getD a []).length := by rw [cl_len a w2]; exact w3
  refine va_get hx hb hts (cl_in a w2) hown hK hP q (fs := fsV ω μ q a) (by rw [cW_at hq, ceE_o ho]) (cl_at a w2) b w3 (hts _ w1) (fun _ h => h) (fsV_at hkl) hd ?_
  have e1 : fV ω μ q b ((fkL.getD a []).getD b 0) = tv ω (aV μ q b d) := by
    rw [w5]
    rcases d with _ | _ | d <;> rfl
  rw [e1]
  exact k H locs ls hP hS hl hL
theorem gw_Put (C : Cx ω M p s m args meth c) {idx a b d : Nat} {x : Sx} (hd : decode M.2.1 pc = .ok (.putfield idx, 3)) (hw : flOk M.2.2.2.2.1 idx a b d = true) (hfin : (TT a b).2.2.2 = false) (hf : (xPut a b d x).2.2.2 = true) (k : GW ω M p l e R s m args below meth c cells slots Z (pc + 3) (xPut a b d x).1 (xPut a b d x).2.1 (xPut a b d x).2.2.1) : GW ω M p l e R s m args below meth c cells slots Z pc x.1 x.2.1 x.2.2.1 := by
  obtain ⟨L, st, μ, f⟩ := x
  rcases st with _ | ⟨v, _ | ⟨w, st⟩⟩
  · exact absurd hf Bool.false_ne_true
  · cases v <;> exact absurd hf Bool.false_ne_true
  obtain ⟨hx, hb, hml, hr, hown, hts, hnw, hK, hlk, hap⟩ := C
  obtain ⟨w1, w2, w3, w4, w5⟩ := fl_use hw
  have hkl : b < (fkL.getD a []).length := by rw [cl_len a w2]; exact w3
  have kd := cl_kd a w2 b w3
  cases v <;> try exact absurd hf Bool.false_ne_true
  · cases w <;> try exact absurd hf Bool.false_ne_true
    rename_i v q
    obtain ⟨-, f1, f2⟩ := f3 hf
    have ho : shA q = (0, a) := of_decide_eq_true f1
    have hq := shA_lt ho (by decide)
    have hd0 : d = 0 := eq_of_beq f2
    subst hd0
    intro H locs ls hP hS hl hL
    refine va_put hx hb hts (cl_in a w2) (tyT a) (cl_ty a w2) (cl_nm a w2) hown hK hP (cW_D hap) hS q (fs := fsV ω μ q a) (by rw [cW_at hq, ceE_o ho]) (cl_at a w2) b w3 (hts _ w1) (fun _ h => h) hfin (ty := .int) (v := .int v) (by rw [cl_ty a w2 b w3, kd.1 w4]) rfl rfl (by rw [fsV_len]; exact hkl) hd (fun H1 locs1 hP1 hD1 hS1 => ?_)
    rw [cW_wi_o ho hkl w5] at hP1
    exact k H1 locs1 ls hP1 hS1 hl hL
  · cases w <;> try exact absurd hf Bool.false_ne_true
    rename_i v q
    obtain ⟨-, f1, f2⟩ := f3 hf
    have ho : shA q = (0, a) := of_decide_eq_true f1
    have hq := shA_lt ho (by decide)
    have hd0 : d = 1 := eq_of_beq f2
    subst hd0
    intro H locs ls hP hS hl hL
    refine va_put hx hb hts (cl_in a w2) (tyT a) (cl_ty a w2) (cl_nm a w2) hown hK hP (cW_D hap) hS q (fs := fsV ω μ q a) (by rw [cW_at hq, ceE_o ho]) (cl_at a w2) b w3 (hts _ w1) (fun _ h => h) hfin (ty := .long) (v := .long v) (by rw [cl_ty a w2 b w3, kd.2 w4]) rfl rfl (by rw [fsV_len]; exact hkl) hd (fun H1 locs1 hP1 hD1 hS1 => ?_)
    rw [cW_wl_o ho hkl w5] at hP1
    exact k H1 locs1 ls hP1 hS1 hl hL
  · cases w <;> try exact absurd hf Bool.false_ne_true
    rename_i v q
    obtain ⟨-, f1, f2, f3⟩ := f4 hf
    have hq0 : q = 0 := of_decide_eq_true f1
    have ha6 : a = 6 := eq_of_beq f2
    have hb2 : b < 2 := of_decide_eq_true f3
    subst hq0
    subst ha6
    intro H locs ls hP hS hl hL
    refine va_put hx hb hts (cl_in 6 w2) (tyT 6) (cl_ty 6 w2) (cl_nm 6 w2) hown hK hP (cW_D hap) hS 0 (fs := fsV ω μ 0 6) (by rw [cW_at (by decide), ceE_o (ci := 6) (by decide)]) (cl_at 6 w2) b w3 (hts _ w1) (fun _ h => h) hfin (ty := .object "SimplicialSet$Cells") (v := .ref (wa ω v)) (by rw [cl_ty 6 w2 b w3]; rcases (show b = 0 ∨ b = 1 by omega) with rfl | rfl <;> rfl) rfl rfl (by rw [fsV_len]; exact hkl) hd (fun H1 locs1 hP1 hD1 hS1 => ?_)
    rw [cW_wr_o hb2] at hP1
    exact k H1 locs1 ls hP1 hS1 hl hL
theorem inb_use {q t : Nat} {j : Int32} (h : inb q t j = true) : (shA q) = (t, (shA q).2) ∧ vp_in j (shA q).2 := by
  obtain ⟨h1, h2⟩ := b2 h
  have h3 := of_decide_eq_true h1
  exact ⟨by rw [← h3], (of_decide_eq_true h2 : ¬ (j < 0 ∨ (shA q).2 ≤ j.toNatClampNeg))⟩
theorem gw_Ial (C : Cx ω M p s m args meth c) {x : Sx} (hd : decode M.2.1 pc = .ok (.iaload, 1)) (hf : (xIal x).2.2.2 = true) (k : GW ω M p l e R s m args below meth c cells slots Z (pc + 1) (xIal x).1 (xIal x).2.1 (xIal x).2.2.1) : GW ω M p l e R s m args below meth c cells slots Z pc x.1 x.2.1 x.2.2.1 := by
  obtain ⟨L, st, μ, f⟩ := x
  rcases st with _ | ⟨v, _ | ⟨w, st⟩⟩
  · exact absurd hf Bool.false_ne_true
  · cases v <;> exact absurd hf Bool.false_ne_true
  cases v <;> try exact absurd hf Bool.false_ne_true
  cases w <;> try exact absurd hf Bool.false_ne_true
  rename_i j q
  obtain ⟨hx, hb, hml, hr, hown, hts, hnw, hK, hlk, hap⟩ := C
  obtain ⟨h1, h2⟩ := inb_use (f2 hf).2
  have hq := shA_lt h1 (by decide)
  intro H locs ls hP hS hl hL
  exact va_iald hx hb hK hP q 0 (by rw [cW_at hq, ceE_i h1] <;> rfl) rfl h2 hd (k H locs ls hP hS hl hL)
theorem gw_Zal (C : Cx ω M p s m args meth c) {x : Sx} (hd : decode M.2.1 pc = .ok (.baload, 1)) (hf : (xZal x).2.2.2 = true) (k : GW ω M p l e R s m args below meth c cells slots Z (pc + 1) (xZal x).1 (xZal x).2.1 (xZal x).2.2.1) : GW ω M p l e R s m args below meth c cells slots Z pc x.1 x.2.1 x.2.2.1 := by
  obtain ⟨L, st, μ, f⟩ := x
  rcases st with _ | ⟨v, _ | ⟨w, st⟩⟩
  · exact absurd hf Bool.false_ne_true
  · cases v <;> exact absurd hf Bool.false_ne_true
  cases v <;> try exact absurd hf Bool.false_ne_true
  cases w <;> try exact absurd hf Bool.false_ne_true
  rename_i j q
  obtain ⟨hx, hb, hml, hr, hown, hts, hnw, hK, hlk, hap⟩ := C
  obtain ⟨h1, h2⟩ := inb_use (f2 hf).2
  have hq := shA_lt h1 (by decide)
  intro H locs ls hP hS hl hL
  exact va_zald hx hb hK hP q 2 (by rw [cW_at hq, ceE_z h1] <;> rfl) rfl h2 hd (k H locs ls hP hS hl hL)
theorem gw_Lal (C : Cx ω M p s m args meth c) {x : Sx} (hd : decode M.2.1 pc = .ok (.laload, 1)) (hf : (xLal x).2.2.2 = true) (k : GW ω M p l e R s m args below meth c cells slots Z (pc + 1) (xLal x).1 (xLal x).2.1 (xLal x).2.2.1) : GW ω M p l e R s m args below meth c cells slots Z pc x.1 x.2.1 x.2.2.1 := by
  obtain ⟨L, st, μ, f⟩ := x
  rcases st with _ | ⟨v, _ | ⟨w, st⟩⟩
  · exact absurd hf Bool.false_ne_true
  · cases v <;> exact absurd hf Bool.false_ne_true
  cases v <;> try exact absurd hf Bool.false_ne_true
  cases w <;> try exact absurd hf Bool.false_ne_true
  rename_i j q
  obtain ⟨hx, hb, hml, hr, hown, hts, hnw, hK, hlk, hap⟩ := C
  obtain ⟨h1, h2⟩ := inb_use (f2 hf).2
  have hq := shA_lt h1 (by decide)
  intro H locs ls hP hS hl hL
  exact va_lald hx hb hK hP q 1 (by rw [cW_at hq, ceE_l h1] <;> rfl) rfl h2 hd (k H locs ls hP hS hl hL)
theorem gw_Ias (C : Cx ω M p s m args meth c) {x : Sx} (hd : decode M.2.1 pc = .ok (.iastore, 1)) (hf : (xIas x).2.2.2 = true) (k : GW ω M p l e R s m args below meth c cells slots Z (pc + 1) (xIas x).1 (xIas x).2.1 (xIas x).2.2.1) : GW ω M p l e R s m args below meth c cells slots Z pc x.1 x.2.1 x.2.2.1 := by
  obtain ⟨L, st, μ, f⟩ := x
  rcases st with _ | ⟨v, _ | ⟨w, _ | ⟨u, st⟩⟩⟩
  · exact absurd hf Bool.false_ne_true
  · cases v <;> exact absurd hf Bool.false_ne_true
  · cases v <;> first | exact absurd hf Bool.false_ne_true | (cases w <;> exact absurd hf Bool.false_ne_true)
  cases v <;> try exact absurd hf Bool.false_ne_true
  cases w <;> try exact absurd hf Bool.false_ne_true
  cases u <;> try exact absurd hf Bool.false_ne_true
  rename_i v j q
  obtain ⟨hx, hb, hml, hr, hown, hts, hnw, hK, hlk, hap⟩ := C
  obtain ⟨h1, h2⟩ := inb_use (f2 hf).2
  have hq := shA_lt h1 (by decide)
  intro H locs ls hP hS hl hL
  refine va_iast hx hb hK hP (cW_D hap) hS q 0 (by rw [cW_at hq, ceE_i h1] <;> rfl) rfl h2 hd (fun H1 locs1 hP1 hD1 hS1 => ?_)
  rw [cW_wi_a h1] at hP1
  exact k H1 locs1 ls hP1 hS1 hl hL
theorem gw_Zas (C : Cx ω M p s m args meth c) {x : Sx} (hd : decode M.2.1 pc = .ok (.bastore, 1)) (hf : (xZas x).2.2.2 = true) (k : GW ω M p l e R s m args below meth c cells slots Z (pc + 1) (xZas x).1 (xZas x).2.1 (xZas x).2.2.1) : GW ω M p l e R s m args below meth c cells slots Z pc x.1 x.2.1 x.2.2.1 := by
  obtain ⟨L, st, μ, f⟩ := x
  rcases st with _ | ⟨v, _ | ⟨w, _ | ⟨u, st⟩⟩⟩
  · exact absurd hf Bool.false_ne_true
  · cases v <;> exact absurd hf Bool.false_ne_true
  · cases v <;> first | exact absurd hf Bool.false_ne_true | (cases w <;> exact absurd hf Bool.false_ne_true)
  cases v <;> try exact absurd hf Bool.false_ne_true
  cases w <;> try exact absurd hf Bool.false_ne_true
  cases u <;> try exact absurd hf Bool.false_ne_true
  rename_i v j q
  obtain ⟨hx, hb, hml, hr, hown, hts, hnw, hK, hlk, hap⟩ := C
  obtain ⟨h1, h2⟩ := inb_use (f2 hf).2
  have hq := shA_lt h1 (by decide)
  intro H locs ls hP hS hl hL
  refine va_zast hx hb hK hP (cW_D hap) hS q 2 (by rw [cW_at hq, ceE_z h1] <;> rfl) rfl h2 hd (fun H1 locs1 hP1 hD1 hS1 => ?_)
  rw [cW_wi_z h1] at hP1
  exact k H1 locs1 ls hP1 hS1 hl hL
theorem gw_Las (C : Cx ω M p s m args meth c) {x : Sx} (hd : decode M.2.1 pc = .ok (.lastore, 1)) (hf : (xLas x).2.2.2 = true) (k : GW ω M p l e R s m args below meth c cells slots Z (pc + 1) (xLas x).1 (xLas x).2.1 (xLas x).2.2.1) : GW ω M p l e R s m args below meth c cells slots Z pc x.1 x.2.1 x.2.2.1 := by
  obtain ⟨L, st, μ, f⟩ := x
  rcases st with _ | ⟨v, _ | ⟨w, _ | ⟨u, st⟩⟩⟩
  · exact absurd hf Bool.false_ne_true
  · cases v <;> exact absurd hf Bool.false_ne_true
  · cases v <;> first | exact absurd hf Bool.false_ne_true | (cases w <;> exact absurd hf Bool.false_ne_true)
  cases v <;> try exact absurd hf Bool.false_ne_true
  cases w <;> try exact absurd hf Bool.false_ne_true
  cases u <;> try exact absurd hf Bool.false_ne_true
  rename_i v j q
  obtain ⟨hx, hb, hml, hr, hown, hts, hnw, hK, hlk, hap⟩ := C
  obtain ⟨h1, h2⟩ := inb_use (f2 hf).2
  have hq := shA_lt h1 (by decide)
  intro H locs ls hP hS hl hL
  refine va_last hx hb hK hP (cW_D hap) hS q 1 (by rw [cW_at hq, ceE_l h1] <;> rfl) rfl h2 hd (fun H1 locs1 hP1 hD1 hS1 => ?_)
  rw [cW_wl_a h1] at hP1
  exact k H1 locs1 ls hP1 hS1 hl hL
theorem gw_Len (C : Cx ω M p s m args meth c) {x : Sx} (hd : decode M.2.1 pc = .ok (.arraylength, 1)) (hf : (xLen x).2.2.2 = true) (k : GW ω M p l e R s m args below meth c cells slots Z (pc + 1) (xLen x).1 (xLen x).2.1 (xLen x).2.2.1) : GW ω M p l e R s m args below meth c cells slots Z pc x.1 x.2.1 x.2.2.1 := by
  obtain ⟨L, st, μ, f⟩ := x
  rcases st with _ | ⟨v, st⟩
  · exact absurd hf Bool.false_ne_true
  cases v <;> try exact absurd hf Bool.false_ne_true
  rename_i q
  obtain ⟨hx, hb, hml, hr, hown, hts, hnw, hK, hlk, hap⟩ := C
  have h0 := of_decide_eq_true (f2 hf).2
  have h1 : (shA q).1 = 1 ∨ (shA q).1 = 2 ∨ (shA q).1 = 3 := by omega
  intro H locs ls hP hS hl hL
  rcases h1 with h1 | h1 | h1
  · have h2 : shA q = (1, (shA q).2) := by rw [← h1]
    have hq := shA_lt h2 (by decide)
    exact va_alen (x := ((shA q).2, .inl (μ.1 q))) (v := Int32.ofNat (shA q).2) hx hb hK hP q 0 (by rw [cW_at hq, ceE_i h2] <;> rfl) (ty := .int) rfl rfl hd (k H locs ls hP hS hl hL)
  · have h2 : shA q = (2, (shA q).2) := by rw [← h1]
    have hq := shA_lt h2 (by decide)
    exact va_alen (x := ((shA q).2, .inr (.inl (μ.2.1 q)))) (v := Int32.ofNat (shA q).2) hx hb hK hP q 1 (by rw [cW_at hq, ceE_l h2] <;> rfl) (ty := .long) rfl rfl hd (k H locs ls hP hS hl hL)
  · have h2 : shA q = (3, (shA q).2) := by rw [← h1]
    have hq := shA_lt h2 (by decide)
    exact va_alen (x := ((shA q).2, .inl (μ.1 q))) (v := Int32.ofNat (shA q).2) hx hb hK hP q 2 (by rw [cW_at hq, ceE_z h2] <;> rfl) (ty := .boolean) rfl rfl hd (k H locs ls hP hS hl hL)
end GWM
end
section
/-! one instruction of any kind, a block of them -/
section GWB
variable {ω : Wd} {M : MD} {p : Program} {l : Launch} {e : Env} {R : Room} {s : State} {m : MethodId} {args : Array Value} {below : List Frame} {meth : Method} {c : Code} {cells slots : Nat} {Z : State → Prop} {pc : Nat}
theorem sI_fl (q : IA) (x : Sx) (h : (sI q x).2.2.2 = true) : x.2.2.2 = true := by
  obtain ⟨i, len, a, b, d, z⟩ := q
  obtain ⟨L, st, μ, f⟩ := x
  cases f
  · exfalso
    cases i <;> first
      | exact absurd h Bool.false_ne_true
      | (revert h; simp only [sI, xP, xLi, xLl, xLa, xSi, xSa, xSl, xInc, xII, xIIn, xJJ, xJJn, xJI, xCmp, xI2l, xDup, xPop, xDup2, xGet, xPut, xIal, xZal, xLal, xIas, xZas, xLas, xLen, x0]; split <;> (try (rename_i heq; cases heq)) <;> simp [xP, x0])
  · rfl
set_option maxHeartbeats 4000000 in
theorem gw_one (C : Cx ω M p s m args meth c) (q : IA) (x : Sx) (hk : ckI M.2.2.2.2.1 M.2.1 pc q = true) (hf : (sI q x).2.2.2 = true) (k : GW ω M p l e R s m args below meth c cells slots Z (pc + q.2.1) (sI q x).1 (sI q x).2.1 (sI q x).2.2.1) : GW ω M p l e R s m args below meth c cells slots Z pc x.1 x.2.1 x.2.2.1 := by
  obtain ⟨i, len, a, b, d, z⟩ := q
  have C0 := C
  obtain ⟨hx, hb, hml, hr, hown, hts, hnw, hK, hlk, hap⟩ := C
  obtain ⟨hk1, hk2⟩ := b2 hk
  have hd : decode M.2.1 pc = .ok (i, len) := of_decide_eq_true hk1
  cases i <;> try exact absurd hf Bool.false_ne_true
  case iconst n => obtain rfl : len = 1 := eq_of_beq hk2; exact gw_P (fun h => lv_iconst hx hb hd rfl h) k
  case bipush n => obtain rfl : len = 2 := eq_of_beq hk2; exact gw_P (fun h => lv_bipush hx hb hd rfl h) k
  case sipush n => obtain rfl : len = 3 := eq_of_beq hk2; exact gw_P (fun h => lv_sipush hx hb hd rfl h) k
  case lconst n => obtain rfl : len = 1 := eq_of_beq hk2; exact gw_P (fun h => lv_lconst hx hb hd rfl h) k
  case ldc n =>
    obtain ⟨h1, h2⟩ := b2 hk2
    obtain rfl : len = 2 := eq_of_beq h2
    exact gw_P (fun h => lv_ldc hx hb hown (hts _ (ctI_ok _ (List.contains_iff_mem.mp h1))) hd h) k
  case ldc_w n =>
    obtain ⟨h1, h2⟩ := b2 hk2
    obtain rfl : len = 3 := eq_of_beq h2
    exact gw_P (fun h => lv_ldcw hx hb hown (hts _ (ctI_ok _ (List.contains_iff_mem.mp h1))) hd h) k
  case ldc2_w n =>
    obtain ⟨h1, h2⟩ := b2 hk2
    obtain rfl : len = 3 := eq_of_beq h2
    exact gw_P (fun h => lv_ldc2 hx hb hown (hts _ (ctL_ok _ (List.contains_iff_mem.mp h1))) hd h) k
  case iload_n n => obtain rfl : len = 1 := eq_of_beq hk2; exact gw_Li (fun h1 h => lv_iload_n hx hb hd rfl h1 h) hf k
  case iload n => obtain rfl : len = 2 := eq_of_beq hk2; exact gw_Li (fun h1 h => lv_iload hx hb hd h1 h) hf k
  case lload_n n => obtain rfl : len = 1 := eq_of_beq hk2; exact gw_Ll (fun h1 h => lv_lload_n hx hb hd rfl h1 h) hf k
  case lload n => obtain rfl : len = 2 := eq_of_beq hk2; exact gw_Ll (fun h1 h => lv_lload hx hb hd h1 h) hf k
  case aload_n n => obtain rfl : len = 1 := eq_of_beq hk2; exact gw_La (fun h1 h => lv_aload_n hx hb hd rfl h1 h) hf k
  case aload n => obtain rfl : len = 2 := eq_of_beq hk2; exact gw_La (fun h1 h => lv_aload hx hb hd h1 h) hf k
  case istore_n n => obtain rfl : len = 1 := eq_of_beq hk2; exact gw_Si (fun h1 h2 h => lv_istore_n hx hb hd rfl h1 h2 rfl h) hf k
  case istore n => obtain rfl : len = 2 := eq_of_beq hk2; exact gw_Si (fun h1 h2 h => lv_istore hx hb hd h1 h2 rfl h) hf k
  case lstore_n n => obtain rfl : len = 1 := eq_of_beq hk2; exact gw_Sl (fun h1 h2 h => lv_lstore_n hx hb hd rfl h1 h2 rfl h) hf k
  case lstore n => obtain rfl : len = 2 := eq_of_beq hk2; exact gw_Sl (fun h1 h2 h => lv_lstore hx hb hd h1 h2 rfl h) hf k
  case astore_n n => obtain rfl : len = 1 := eq_of_beq hk2; exact gw_Sa (fun h1 h2 h => lv_astore_n hx hb hd rfl h1 h2 rfl h) hf k
  case astore n => obtain rfl : len = 2 := eq_of_beq hk2; exact gw_Sa (fun h1 h2 h => lv_astore hx hb hd h1 h2 rfl h) hf k
  case iinc n z => obtain rfl : len = 3 := eq_of_beq hk2; exact gw_Inc (fun h1 h2 h3 h => lv_iinc hx hb hd h1 h2 rfl h3 rfl h) hf k
  case iadd => obtain rfl : len = 1 := eq_of_beq hk2; exact gw_II (fun h => lv_iadd hx hb hd h) hf k
  case isub => obtain rfl : len = 1 := eq_of_beq hk2; exact gw_II (fun h => lv_isub hx hb hd h) hf k
  case imul => obtain rfl : len = 1 := eq_of_beq hk2; exact gw_II (fun h => lv_imul hx hb hd h) hf k
  case iand => obtain rfl : len = 1 := eq_of_beq hk2; exact gw_II (fun h => lv_iand hx hb hd h) hf k
  case ior => obtain rfl : len = 1 := eq_of_beq hk2; exact gw_II (fun h => lv_ior hx hb hd h) hf k
  case ixor => obtain rfl : len = 1 := eq_of_beq hk2; exact gw_II (fun h => lv_ixor hx hb hd h) hf k
  case ishl => obtain rfl : len = 1 := eq_of_beq hk2; exact gw_II (fun h => lv_ishl hx hb hd h) hf k
  case ishr => obtain rfl : len = 1 := eq_of_beq hk2; exact gw_II (fun h => lv_ishr hx hb hd h) hf k
  case iushr => obtain rfl : len = 1 := eq_of_beq hk2; exact gw_II (fun h => lv_iushr hx hb hd rfl h) hf k
  case idiv => obtain rfl : len = 1 := eq_of_beq hk2; exact gw_IIn (fun h1 h => lv_idiv hx hb hd h1 h) hf k
  case irem => obtain rfl : len = 1 := eq_of_beq hk2; exact gw_IIn (fun h1 h => lv_irem hx hb hd h1 h) hf k
  case ladd => obtain rfl : len = 1 := eq_of_beq hk2; exact gw_JJ (fun h => lv_ladd hx hb hd h) hf k
  case lsub => obtain rfl : len = 1 := eq_of_beq hk2; exact gw_JJ (fun h => lv_lsub hx hb hd h) hf k
  case lmul => obtain rfl : len = 1 := eq_of_beq hk2; exact gw_JJ (fun h => lv_lmul hx hb hd h) hf k
  case land => obtain rfl : len = 1 := eq_of_beq hk2; exact gw_JJ (fun h => lv_land hx hb hd h) hf k
  case lor => obtain rfl : len = 1 := eq_of_beq hk2; exact gw_JJ (fun h => lv_lor hx hb hd h) hf k
  case ldiv => obtain rfl : len = 1 := eq_of_beq hk2; exact gw_JJn (fun h1 h => lv_ldiv hx hb hd h1 h) hf k
  case lrem => obtain rfl : len = 1 := eq_of_beq hk2; exact gw_JJn (fun h1 h => lv_lrem hx hb hd h1 h) hf k
  case lshl => obtain rfl : len = 1 := eq_of_beq hk2; exact gw_JI (fun h => lv_lshl hx hb hd rfl h) hf k
  case lshr => obtain rfl : len = 1 := eq_of_beq hk2; exact gw_JI (fun h => lv_lshr hx hb hd rfl h) hf k
  case lcmp => obtain rfl : len = 1 := eq_of_beq hk2; exact gw_Cmp (fun h => W.lcmp hx hb hd h) hf k
  case i2l => obtain rfl : len = 1 := eq_of_beq hk2; exact gw_I2l (fun h => lv_i2l hx hb hd rfl h) hf k
  case dup => obtain rfl : len = 1 := eq_of_beq hk2; exact gw_Dup (fun h1 h => lv_dup hx hb hd h1 h) hf k
  case pop => obtain rfl : len = 1 := eq_of_beq hk2; exact gw_Pop (fun h1 h => lv_pop hx hb hd h1 h) hf k
  case dup2 => obtain rfl : len = 1 := eq_of_beq hk2; exact gw_Dup2 (fun h1 h2 h => lv_dup2_11 hx hb hd h1 h2 h) hf k
  case getfield n =>
    obtain ⟨h1, h2⟩ := b2 hk2
    obtain rfl : len = 3 := eq_of_beq h2
    exact gw_Get C0 hd h1 hf k
  case putfield n =>
    obtain ⟨h1, h2, h3⟩ := b3 hk2
    obtain rfl : len = 3 := eq_of_beq h3
    exact gw_Put C0 hd h1 (by simpa using h2) hf k
  case iaload => obtain rfl : len = 1 := eq_of_beq hk2; exact gw_Ial C0 hd hf k
  case baload => obtain rfl : len = 1 := eq_of_beq hk2; exact gw_Zal C0 hd hf k
  case laload => obtain rfl : len = 1 := eq_of_beq hk2; exact gw_Lal C0 hd hf k
  case iastore => obtain rfl : len = 1 := eq_of_beq hk2; exact gw_Ias C0 hd hf k
  case bastore => obtain rfl : len = 1 := eq_of_beq hk2; exact gw_Zas C0 hd hf k
  case lastore => obtain rfl : len = 1 := eq_of_beq hk2; exact gw_Las C0 hd hf k
  case arraylength => obtain rfl : len = 1 := eq_of_beq hk2; exact gw_Len C0 hd hf k
def xs : List IA → Sx → Sx
  | [], x => x
  | q :: r, x => xs r (sI q x)
def ckB (ow : Nat) (cc : ByteArray) : Nat → List IA → Nat → Bool
  | pc, [], n => pc == n
  | pc, q :: r, n => ckI ow cc pc q && ckB ow cc (pc + q.2.1) r n
theorem xs_fl : ∀ (is : List IA) (x : Sx), (xs is x).2.2.2 = true → x.2.2.2 = true
  | [], _, h => h
  | q :: r, x, h => sI_fl q x (xs_fl r _ h)
theorem gw_blk (C : Cx ω M p s m args meth c) : ∀ (is : List IA) (pc n : Nat) (x : Sx), ckB M.2.2.2.2.1 M.2.1 pc is n = true → (xs is x).2.2.2 = true → GW ω M p l e R s m args below meth c cells slots Z n (xs is x).1 (xs is x).2.1 (xs is x).2.2.1 → GW ω M p l e R s m args below meth c cells slots Z pc x.1 x.2.1 x.2.2.1
  | [], pc, n, x, hk, hf, k => by
    obtain rfl : pc = n := eq_of_beq hk
    exact k
  | q :: r, pc, n, x, hk, hf, k => by
    obtain ⟨h1, h2⟩ := b2 hk
    exact gw_one C q x h1 (xs_fl r _ hf) (gw_blk C r _ n _ h2 hf k)
end GWB
end
section
/-! branches, calls, returns; a method's contract -/
def icd (cd : Jvm.ClassFile.Cond) (x y : Int32) : Prop := match cd with
  | .eq => x = y
  | .ne => ¬ x = y
  | .lt => x < y
  | .ge => y ≤ x
  | .gt => y < x
  | .le => x ≤ y
def rmM (M : MD) : Room := { frames := M.2.2.2.2.2.1, cells := 0, slots := 0, locals := M.2.2.2.2.2.2 }
def Qx (ω : Wd) (Q : Option Value → Mm → Prop) : Array Value → State → Outcome → State → Prop := fun _ st oc t => (∃ (v : Option Value) (μ : Mm), oc = .returned (v.map (tv ω)) ∧ Q v μ ∧ va_P (wD ω) vwCl (cW ω μ) t.heap) ∧ va_F (wA ω) st t
def wds (M : MD) : List Jvm.Cond := .code M.1 M.2.1 M.2.2.1 M.2.2.2.1 :: gt
def PreC (ω : Wd) (μ : Mm) (U : State) : Prop := va_P (wD ω) vwCl (cW ω μ) U.heap ∧ va_K (wD ω) vwCl (tys3 ω) U ∧ (∀ w ∈ nw, va_Nw w U) ∧ wAp ω
def Ctr (l : Launch) (ω : Wd) (M : MD) (as : List Value) (μ : Mm) (Q : Option Value → Mm → Prop) : Prop := Met l M.1 (wds M) (rmM M) (va_Pc (as.map (tv ω)) (PreC ω μ)) (Qx ω Q) 0 0 (wA ω)
def Good (l : Launch) (ω : Wd) (M : MD) (pc : Nat) (L st : List Value) (μ : Mm) (Q : Option Value → Mm → Prop) : Prop := ∀ (p : Program) (e : Env) (s : State) (m : MethodId) (args : Array Value) (below : List Frame) (meth : Method) (c : Code), Cx ω M p s m args meth c → GW ω M p l e (rmM M) s m args below meth c 0 0 (MQ below (Qx ω Q) args s 0 0 (wA ω)) pc L st μ
theorem gt_good {w : Jvm.Cond} (h : w ∈ gt) : (w.onTables && w.keeps) = true ∨ ∃ ty, w = .arrayClass ty := good_of_word (List.mem_filter.mp h).2
theorem wds_good {M : MD} (h : Jvm.Cond.code M.1 M.2.1 M.2.2.1 M.2.2.2.1 ∈ gt) : GoodIn gt (wds M) := by
  intro w hw
  rcases List.mem_cons.mp hw with rfl | hw
  · exact ⟨h, gt_good h⟩
  · exact ⟨hw, gt_good hw⟩
theorem pre_blind {ω : Wd} {μ : Mm} {av : List Value} : FrameBlind (va_Pc av (PreC ω μ)) := by
  intro a U g mk q
  obtain ⟨q0, qP, qK, qN, qA⟩ := q
  refine ⟨q0, qP, va_K.moved (u := U) (U := U.calling g mk a) (Vm.Alike.refl U.vm) qK, fun w hw => ?_, qA⟩
  obtain ⟨a1, i, x, y, rfl⟩ := nw_is hw
  exact va_Nw.same (u := U) (U := U.calling g mk a) rfl rfl (qN _ hw)
/-- what a method's words say: its code, its class -/
def MOk (M : MD) : Prop := Jvm.Cond.code M.1 M.2.1 M.2.2.1 M.2.2.2.1 ∈ gt ∧ Jvm.Cond.initialized M.1.cls ∈ gt ∧ (M.1.cls ≠ "java/lang/invoke/MethodHandle" ∧ M.1.cls ≠ "java/lang/invoke/VarHandle") ∧ M.1.cls = RR M.2.2.2.2.1
/-- a call's words: of a virtual call, of a static one, of a nest mate's -/
def StV (ow idx : Nat) (M : MD) (n : Nat) : Prop := MOk M ∧ (parseMethodDescriptor M.1.desc).map (fun d => d.parameters.length) = some n ∧ Jvm.Cond.methodLink (RR ow) idx M.1 ∈ gt ∧ Jvm.Cond.instanceMethod M.1 ∈ gt ∧ Jvm.Cond.selects M.1.cls M.1 M.1 ∈ gt ∧ M.2.2.2.2.1 < 8
def StS (ow idx : Nat) (M : MD) (n : Nat) : Prop := MOk M ∧ (parseMethodDescriptor M.1.desc).map (fun d => d.parameters.length) = some n ∧ Jvm.Cond.methodLink (RR ow) idx M.1 ∈ gt ∧ Jvm.Cond.static M.1 ∈ gt
def StN (ow idx : Nat) (M : MD) (n : Nat) : Prop := MOk M ∧ (parseMethodDescriptor M.1.desc).map (fun d => d.parameters.length) = some n ∧ (∃ host, Jvm.Cond.methodLinkNest (RR ow) idx M.1 host ∈ nw) ∧ Jvm.Cond.static M.1 ∈ gt
def rmOk (R : Room) (M : MD) (st : List Value) : Bool := decide (M.2.2.2.2.2.1 + 1 ≤ R.frames) && decide (8 + (M.2.2.1 + 11) + M.2.2.2.2.2.2 ≤ R.locals) && decide ((st.map fun v => v.category).sum ≤ 8)
section GWC
variable {ω : Wd} {M : MD} {p : Program} {l : Launch} {e : Env} {R : Room} {s : State} {m : MethodId} {args : Array Value} {below : List Frame} {meth : Method} {c : Code} {cells slots : Nat} {Z : State → Prop} {pc : Nat}
theorem gw_goto (C : Cx ω M p s m args meth c) {off : Int} {tgt : Nat} {L st : List Value} {μ : Mm} (hd : decode M.2.1 pc = .ok (.goto off, 3)) (ht : (pc : Int) + off = (tgt : Int)) (k : GW ω M p l e R s m args below meth c cells slots Z tgt L st μ) : GW ω M p l e R s m args below meth c cells slots Z pc L st μ :=
  fun H locs ls hP hS hl hL => lv_goto C.1 C.2.1 hd ht (k H locs ls hP hS hl hL)
theorem gw_icmp (C : Cx ω M p s m args meth c) {cd : Jvm.ClassFile.Cond} {off : Int} {tgt : Nat} {L st : List Value} {μ : Mm} {x y : Int32} (hd : decode M.2.1 pc = .ok (.if_icmp cd off, 3)) (ht : (pc : Int) + off = (tgt : Int)) (k1 : icd cd x y → GW ω M p l e R s m args below meth c cells slots Z tgt L st μ) (k2 : ¬ icd cd x y → GW ω M p l e R s m args below meth c cells slots Z (pc + 3) L st μ) : GW ω M p l e R s m args below meth c cells slots Z pc L (.int y :: .int x :: st) μ := by
  intro H locs ls hP hS hl hL
  cases cd
  · exact lv_icmp_eq C.1 C.2.1 hd ht (fun h => k1 h H locs ls hP hS hl hL) (fun h => k2 h H locs ls hP hS hl hL)
  · exact lv_icmp_ne C.1 C.2.1 hd ht (fun h => k1 h H locs ls hP hS hl hL) (fun h => k2 (fun g => g h) H locs ls hP hS hl hL)
  · exact lv_icmp_lt C.1 C.2.1 hd ht (fun h => k1 h H locs ls hP hS hl hL) (fun h => k2 h H locs ls hP hS hl hL)
  · exact lv_icmp_ge C.1 C.2.1 hd ht (fun h => k1 h H locs ls hP hS hl hL) (fun h => k2 h H locs ls hP hS hl hL)
  · exact lv_icmp_gt C.1 C.2.1 hd ht (fun h => k1 h H locs ls hP hS hl hL) (fun h => k2 h H locs ls hP hS hl hL)
  · exact lv_icmp_le C.1 C.2.1 hd ht (fun h => k1 h H locs ls hP hS hl hL) (fun h => k2 h H locs ls hP hS hl hL)
theorem gw_if (C : Cx ω M p s m args meth c) {cd : Jvm.ClassFile.Cond} {off : Int} {tgt : Nat} {L st : List Value} {μ : Mm} {x : Int32} (hd : decode M.2.1 pc = .ok (.ifCond cd off, 3)) (ht : (pc : Int) + off = (tgt : Int)) (k1 : icd cd x 0 → GW ω M p l e R s m args below meth c cells slots Z tgt L st μ) (k2 : ¬ icd cd x 0 → GW ω M p l e R s m args below meth c cells slots Z (pc + 3) L st μ) : GW ω M p l e R s m args below meth c cells slots Z pc L (.int x :: st) μ := by
  intro H locs ls hP hS hl hL
  cases cd
  · exact lv_if_eq C.1 C.2.1 hd ht (fun h => k1 h H locs ls hP hS hl hL) (fun h => k2 h H locs ls hP hS hl hL)
  · exact lv_if_ne C.1 C.2.1 hd ht (fun h => k1 h H locs ls hP hS hl hL) (fun h => k2 (fun g => g h) H locs ls hP hS hl hL)
  · exact lv_if_lt C.1 C.2.1 hd ht (fun h => k1 h H locs ls hP hS hl hL) (fun h => k2 h H locs ls hP hS hl hL)
  · exact lv_if_ge C.1 C.2.1 hd ht (fun h => k1 h H locs ls hP hS hl hL) (fun h => k2 h H locs ls hP hS hl hL)
  · exact lv_if_gt C.1 C.2.1 hd ht (fun h => k1 h H locs ls hP hS hl hL) (fun h => k2 h H locs ls hP hS hl hL)
  · exact lv_if_le C.1 C.2.1 hd ht (fun h => k1 h H locs ls hP hS hl hL) (fun h => k2 h H locs ls hP hS hl hL)
theorem w_after {H : Heap} {locs : List Loc} {ls : Array Slot} {st0 rest : List Value} {a : Array Value} {Q : Option Value → Mm → Prop} (hr : va_Run p l e R s m args below meth c H locs cells slots 0 0 (F0 m pc ls st0) rest (Qx ω Q a) (wA ω)) (hS : va_S (wA ω) s.heap H locs)
    (kk : ∀ (v : Option Value) (μ : Mm) (H1 : Heap) (locs1 : List Loc), Q v μ → va_P (wD ω) vwCl (cW ω μ) H1 → va_S (wA ω) s.heap H1 locs1 → W p l e R s m args below meth c H1 locs1 cells slots Z (F0 m (pc + 3) ls ((v.map (tv ω)).toList ++ rest))) : W p l e R s m args below meth c H locs cells slots Z (F0 m pc ls st0) := by
  intro T hT X
  obtain ⟨v, st₀, t, T', L, h0, X', hL, e1, e2, ⟨⟨r, μ, hv, hq, hP⟩, hz, hk⟩, st⟩ := hr T hT X
  cases hv
  rw [h0] at hz hk
  obtain ⟨t2, a1, b1⟩ := kk r μ T'.heap (locs ++ L) hq (by rw [e1]; exact hP)
    ⟨Nat.le_trans hS.1 (by rw [e1]; exact hz), fun q h1 h2 => by rw [e1, hk q (Nat.lt_of_lt_of_le h1 hS.1) h2]; exact hS.2.1 q h1 h2, fun q hq => by
      rcases List.mem_append.mp hq with h | h
      · exact hS.2.2 q h
      · exact hL q h⟩ T' rfl X'
  exact ⟨t2, st t2 a1, b1⟩
theorem callB_M (C : Cx ω M p s m args meth c) {M' : MD} {idx n : Nat} {st : List Value} (hM : MOk M') (hn : (parseMethodDescriptor M'.1.desc).map (fun d => d.parameters.length) = some n) (hl : Jvm.Cond.methodLink (RR M.2.2.2.2.1) idx M'.1 ∈ gt) (hR : rmOk R M' st = true) : CallB R s args (RR M.2.2.2.2.1) idx M'.1 M'.2.1 M'.2.2.1 M'.2.2.2.1 (wds M') (rmM M') 0 0 n := by
  obtain ⟨hx, hb, hml, hr, hown, hts, hnw, hK, hlk, hap⟩ := C
  obtain ⟨h1, h2, h3⟩ := b3 hR
  exact callB_of n hts (wds_good hM.1) rfl rfl rfl (hts _ hM.2.1) (hts _ hl) ⟨hM.2.2.1.1, hM.2.2.1.2, hn⟩ ⟨of_decide_eq_true h1, of_decide_eq_true h2⟩
theorem st_cat {st : List Value} : ((st.map (tv ω)).map fun v => v.category).sum = (st.map fun v => v.category).sum := by
  induction st with
  | nil => rfl
  | cons v t ih => simp only [List.map_cons, List.sum_cons, ih, tv_cat]
theorem pre_now (C : Cx ω M p s m args meth c) {μ : Mm} {H : Heap} (hP : va_P (wD ω) vwCl (cW ω μ) H) : ∀ U : State, U.heap = H → s.WarmedH U.vm → PreC ω μ U := by
  intro U hU hW
  obtain ⟨hx, hb, hml, hr, hown, hts, hnw, hK, hlk, hap⟩ := C
  exact ⟨by rw [hU]; exact hP, va_K.moved hW.alike hK, nw_warm hW hnw, hap⟩
theorem gw_callV (C : Cx ω M p s m args meth c) (hcs : cells ≤ R.cells ∧ slots ≤ R.slots) {M' : MD} {idx n q : Nat} {L as st : List Value} {μ : Mm} {Q' : Option Value → Mm → Prop} (hs : StV M.2.2.2.2.1 idx M' n) (hd : decode M.2.1 pc = .ok (.invokevirtual idx, 3)) (ho : oCl q M'.2.2.2.2.1 = true) (hn : as.length = n) (hR : rmOk R M' st = true) (K : Ctr l ω M' (.ref q :: as) μ Q')
    (k : ∀ v μ', Q' v μ' → GW ω M p l e R s m args below meth c cells slots Z (pc + 3) L (v.toList ++ st) μ') : GW ω M p l e R s m args below meth c cells slots Z pc L (as.reverse ++ .ref q :: st) μ := by
  intro H locs ls hP hS hl hL
  obtain ⟨hM, hpn, hlk, hin, hse, hci⟩ := hs
  have cb := callB_M C hM hpn hlk hR
  have C0 := C
  obtain ⟨hx, hb, hml, hr, hown, hts, hnw, hK, hlk, hap⟩ := C
  have ho' : shA q = (0, M'.2.2.2.2.1) := of_decide_eq_true ho
  have hq := shA_lt ho' (by decide)
  have hrec := va_recv hK hP (cl_at _ hci) (q0 := q) (a := wa ω q) (fs := fsV ω μ q M'.2.2.2.2.1) (by rw [cW_at hq, ceE_o ho'])
  rw [← hM.2.2.2] at hrec
  have hrun := va_runV (g := F0 m pc ls ((as.reverse ++ .ref q :: st).map (tv ω))) (b := wa ω q) (As := as.map (tv ω)) (rest := st.map (tv ω)) (locs := locs) (cells := cells) (slots := slots) (below := below) (meth := meth) (e := e) ⟨hx, hb, hml, hown, hts⟩ K ⟨cb, hts _ hin, hts _ hse⟩ ⟨pre_blind, hrec, fun U hU hW => ⟨rfl, pre_now C0 hP U hU hW⟩⟩ rfl (by rw [List.length_map]; exact hn) hl.1 (by simp [tv]) (lv_room (by rw [st_cat]; exact of_decide_eq_true (b3 hR).2.2)) hd hcs
  refine w_after hrun hS (fun v μ' H1 locs1 hq' hP1 hS1 => ?_)
  have := k v μ' hq' H1 locs1 ls hP1 hS1 hl hL
  rw [List.map_append] at this
  cases v <;> exact this
theorem gw_callS (C : Cx ω M p s m args meth c) (hcs : cells ≤ R.cells ∧ slots ≤ R.slots) {M' : MD} {idx n : Nat} {L as st : List Value} {μ : Mm} {Q' : Option Value → Mm → Prop} (hs : StS M.2.2.2.2.1 idx M' n) (hd : decode M.2.1 pc = .ok (.invokestatic idx, 3)) (hn : as.length = n) (hR : rmOk R M' st = true) (K : Ctr l ω M' as μ Q')
    (k : ∀ v μ', Q' v μ' → GW ω M p l e R s m args below meth c cells slots Z (pc + 3) L (v.toList ++ st) μ') : GW ω M p l e R s m args below meth c cells slots Z pc L (as.reverse ++ st) μ := by
  intro H locs ls hP hS hl hL
  obtain ⟨hM, hpn, hlk, hin⟩ := hs
  have cb := callB_M C hM hpn hlk hR
  have C0 := C
  obtain ⟨hx, hb, hml, hr, hown, hts, hnw, hK, hlk, hap⟩ := C
  have hrun := va_runS (g := F0 m pc ls ((as.reverse ++ st).map (tv ω))) (As := as.map (tv ω)) (rest := st.map (tv ω)) (H := H) (locs := locs) (cells := cells) (slots := slots) (below := below) (meth := meth) (e := e) ⟨hx, hb, hml, hown, hts⟩ K ⟨cb, hts _ hin⟩ ⟨pre_blind, fun U hU hW => ⟨rfl, pre_now C0 hP U hU hW⟩⟩ rfl (by rw [List.length_map]; exact hn) hl.1 (by simp) (lv_room (by rw [st_cat]; exact of_decide_eq_true (b3 hR).2.2)) hd hcs
  refine w_after hrun hS (fun v μ' H1 locs1 hq' hP1 hS1 => ?_)
  have := k v μ' hq' H1 locs1 ls hP1 hS1 hl hL
  rw [List.map_append] at this
  cases v <;> exact this
theorem gw_callN (C : Cx ω M p s m args meth c) (hcs : cells ≤ R.cells ∧ slots ≤ R.slots) {M' : MD} {idx n : Nat} {L as st : List Value} {μ : Mm} {Q' : Option Value → Mm → Prop} (hs : StN M.2.2.2.2.1 idx M' n) (hd : decode M.2.1 pc = .ok (.invokestatic idx, 3)) (hn : as.length = n) (hR : rmOk R M' st = true) (K : Ctr l ω M' as μ Q')
    (k : ∀ v μ', Q' v μ' → GW ω M p l e R s m args below meth c cells slots Z (pc + 3) L (v.toList ++ st) μ') : GW ω M p l e R s m args below meth c cells slots Z pc L (as.reverse ++ st) μ := by
  intro H locs ls hP hS hl hL
  obtain ⟨hM, hpn, ⟨host, hlk⟩, hin⟩ := hs
  have C0 := C
  obtain ⟨hx, hb, hml, hr, hown, hts, hnw, hK, hlk', hap⟩ := C
  obtain ⟨r1, r2, r3⟩ := b3 hR
  have cn : va_CN R s args (RR M.2.2.2.2.1) idx M'.1 host M'.2.1 M'.2.2.1 M'.2.2.2.1 (wds M') (rmM M') 0 0 n := va_cnB n hts (wds_good hM.1) rfl rfl rfl (hnw _ hlk) (hts _ hM.2.1) ⟨hM.2.2.1.1, hM.2.2.1.2, hpn⟩ ⟨of_decide_eq_true r1, of_decide_eq_true r2⟩
  have hrun := va_runSN (g := F0 m pc ls ((as.reverse ++ st).map (tv ω))) (As := as.map (tv ω)) (rest := st.map (tv ω)) (H := H) (locs := locs) (cells := cells) (slots := slots) (below := below) (meth := meth) (e := e) ⟨hx, hb, hml, hown, hts⟩ K ⟨cn, hts _ hin, trivial⟩ ⟨pre_blind, fun U hU hW => ⟨rfl, pre_now C0 hP U hU hW⟩⟩ rfl (by rw [List.length_map]; exact hn) hl.1 (by simp) (lv_room (by rw [st_cat]; exact of_decide_eq_true r3)) hd hcs
  refine w_after hrun hS (fun v μ' H1 locs1 hq' hP1 hS1 => ?_)
  have := k v μ' hq' H1 locs1 ls hP1 hS1 hl hL
  rw [List.map_append] at this
  cases v <;> exact this
theorem gw_copy (C : Cx ω M p s m args meth c) {idx q0 q1 : Nat} {L st : List Value} {μ : Mm} {sp dp n : Int32} (hlink : Jvm.Cond.methodLink (RR M.2.2.2.2.1) idx arraycopyName ∈ gt) (hnat : Jvm.Cond.native arraycopyName ∈ gt) (hstat : Jvm.Cond.static arraycopyName ∈ gt) (hini : Jvm.Cond.initialized "java/lang/System" ∈ gt) (hd : decode M.2.1 pc = .ok (.invokestatic idx, 3))
    {n0 n1 : Nat} (s0 : shA q0 = (1, n0)) (s1 : shA q1 = (1, n1)) (h1 : ¬ sp < 0) (h2 : ¬ dp < 0) (h3 : ¬ n < 0) (h4 : sp.toNatClampNeg + n.toNatClampNeg ≤ n0) (h5 : dp.toNatClampNeg + n.toNatClampNeg ≤ n1) (hfr : 1 ≤ R.frames) (hlo : (st.map fun v => v.category).sum + (nativeFrameWords "java/lang/System" "arraycopy" 5 + 11) ≤ R.locals)
    (k : GW ω M p l e R s m args below meth c cells slots Z (pc + 3) L st (ss_cp μ q0 sp.toNatClampNeg q1 dp.toNatClampNeg n.toNatClampNeg)) : GW ω M p l e R s m args below meth c cells slots Z pc L (.int n :: .int dp :: .ref q1 :: .int sp :: .ref q0 :: st) μ := by
  intro H locs ls hP hS hl hL
  obtain ⟨hx, hb, hml, hr, hown, hts, hnw, hK, hlk', hap⟩ := C
  refine va_copyi hx hb (by rw [hml]; exact hl.1.symm) hown (hts _ hlink) (hts _ hnat) (hts _ hstat) (hts _ hini) hK hP (cW_D hap) hS q0 q1 0 0 (by rw [cW_at (shA_lt s0 (by decide)), ceE_i s0]) (by rw [cW_at (shA_lt s1 (by decide)), ceE_i s1]) (ty := .int) rfl rfl rfl h1 h2 h3 h4 h5 (fun _ _ => rfl) hfr (by rw [st_cat]; exact hlo) hd (fun H1 locs1 hP1 hD1 hS1 => ?_)
  rw [cW_cp s1] at hP1
  exact k H1 locs1 ls hP1 hS1 hl hL
end GWC
section GDS
variable {l : Launch} {ω : Wd} {M : MD} {pc : Nat} {L st : List Value} {μ : Mm} {Q : Option Value → Mm → Prop}
theorem gd_blk (is : List IA) (n : Nat) {L' st' : List Value} {μ' : Mm} {f : Bool} (hk : ckB M.2.2.2.2.1 M.2.1 pc is n = true) (hx : xs is (L, st, μ, true) = (L', st', μ', f)) (hf : f = true) (k : Good l ω M n L' st' μ' Q) : Good l ω M pc L st μ Q := by
  intro p e s m args below meth c C
  refine gw_blk C is pc n (L, st, μ, true) hk (by rw [hx]; exact hf) ?_
  rw [hx]
  exact k p e s m args below meth c C
theorem gd_goto {off : Int} {tgt : Nat} (hd : decode M.2.1 pc = .ok (.goto off, 3)) (ht : (pc : Int) + off = (tgt : Int)) (k : Good l ω M tgt L st μ Q) : Good l ω M pc L st μ Q :=
  fun p e s m args below meth c C => gw_goto C hd ht (k p e s m args below meth c C)
theorem gd_icmp {cd : Jvm.ClassFile.Cond} {off : Int} {tgt : Nat} {x y : Int32} (hd : decode M.2.1 pc = .ok (.if_icmp cd off, 3)) (ht : (pc : Int) + off = (tgt : Int)) (k1 : icd cd x y → Good l ω M tgt L st μ Q) (k2 : ¬ icd cd x y → Good l ω M (pc + 3) L st μ Q) : Good l ω M pc L (.int y :: .int x :: st) μ Q :=
  fun p e s m args below meth c C => gw_icmp C hd ht (fun h => k1 h p e s m args below meth c C) (fun h => k2 h p e s m args below meth c C)
theorem gd_if {cd : Jvm.ClassFile.Cond} {off : Int} {tgt : Nat} {x : Int32} (hd : decode M.2.1 pc = .ok (.ifCond cd off, 3)) (ht : (pc : Int) + off = (tgt : Int)) (k1 : icd cd x 0 → Good l ω M tgt L st μ Q) (k2 : ¬ icd cd x 0 → Good l ω M (pc + 3) L st μ Q) : Good l ω M pc L (.int x :: st) μ Q :=
  fun p e s m args below meth c C => gw_if C hd ht (fun h => k1 h p e s m args below meth c C) (fun h => k2 h p e s m args below meth c C)
theorem gd_callV {M' : MD} {idx n q : Nat} (as : List Value) {Q' : Option Value → Mm → Prop} (hs : StV M.2.2.2.2.1 idx M' n) (hd : decode M.2.1 pc = .ok (.invokevirtual idx, 3)) (hn : as.length = n) (hR : rmOk (rmM M) M' st = true) {st0 : List Value} (h0 : st0 = as.reverse ++ .ref q :: st) (ho : oCl q M'.2.2.2.2.1 = true) (K : Ctr l ω M' (.ref q :: as) μ Q') (k : ∀ v μ', Q' v μ' → Good l ω M (pc + 3) L (v.toList ++ st) μ' Q) : Good l ω M pc L st0 μ Q := by
  subst h0
  exact fun p e s m args below meth c C => gw_callV C ⟨Nat.le_refl 0, Nat.le_refl 0⟩ hs hd ho hn hR K (fun v μ' h => k v μ' h p e s m args below meth c C)
theorem gd_callS {M' : MD} {idx n : Nat} (as : List Value) {Q' : Option Value → Mm → Prop} (hs : StS M.2.2.2.2.1 idx M' n) (hd : decode M.2.1 pc = .ok (.invokestatic idx, 3)) (hn : as.length = n) (hR : rmOk (rmM M) M' st = true) {st0 : List Value} (h0 : st0 = as.reverse ++ st) (K : Ctr l ω M' as μ Q') (k : ∀ v μ', Q' v μ' → Good l ω M (pc + 3) L (v.toList ++ st) μ' Q) : Good l ω M pc L st0 μ Q := by
  subst h0
  exact fun p e s m args below meth c C => gw_callS C ⟨Nat.le_refl 0, Nat.le_refl 0⟩ hs hd hn hR K (fun v μ' h => k v μ' h p e s m args below meth c C)
theorem gd_callN {M' : MD} {idx n : Nat} (as : List Value) {Q' : Option Value → Mm → Prop} (hs : StN M.2.2.2.2.1 idx M' n) (hd : decode M.2.1 pc = .ok (.invokestatic idx, 3)) (hn : as.length = n) (hR : rmOk (rmM M) M' st = true) {st0 : List Value} (h0 : st0 = as.reverse ++ st) (K : Ctr l ω M' as μ Q') (k : ∀ v μ', Q' v μ' → Good l ω M (pc + 3) L (v.toList ++ st) μ' Q) : Good l ω M pc L st0 μ Q := by
  subst h0
  exact fun p e s m args below meth c C => gw_callN C ⟨Nat.le_refl 0, Nat.le_refl 0⟩ hs hd hn hR K (fun v μ' h => k v μ' h p e s m args below meth c C)
theorem gd_copy {idx q0 q1 : Nat} {sp dp n : Int32} (hlink : Jvm.Cond.methodLink (RR M.2.2.2.2.1) idx arraycopyName ∈ gt) (hnat : Jvm.Cond.native arraycopyName ∈ gt) (hstat : Jvm.Cond.static arraycopyName ∈ gt) (hini : Jvm.Cond.initialized "java/lang/System" ∈ gt) (hd : decode M.2.1 pc = .ok (.invokestatic idx, 3)) (hfr : 1 ≤ (rmM M).frames) (hlo : (st.map fun v => v.category).sum + (nativeFrameWords "java/lang/System" "arraycopy" 5 + 11) ≤ (rmM M).locals)
    {n0 n1 : Nat} (s0 : shA q0 = (1, n0)) (s1 : shA q1 = (1, n1)) (h1 : ¬ sp < 0) (h2 : ¬ dp < 0) (h3 : ¬ n < 0) (h4 : sp.toNatClampNeg + n.toNatClampNeg ≤ n0) (h5 : dp.toNatClampNeg + n.toNatClampNeg ≤ n1)
    (k : Good l ω M (pc + 3) L st (ss_cp μ q0 sp.toNatClampNeg q1 dp.toNatClampNeg n.toNatClampNeg) Q) : Good l ω M pc L (.int n :: .int dp :: .ref q1 :: .int sp :: .ref q0 :: st) μ Q :=
  fun p e s m args below meth c C => gw_copy C hlink hnat hstat hini hd s0 s1 h1 h2 h3 h4 h5 hfr hlo (k p e s m args below meth c C)
theorem gd_iret {ty : FieldType} {v : Int32} (hd : decode M.2.1 pc = .ok (.ireturn, 1)) (hr : M.2.2.2.1 = some ty) (hn : narrow ty (.int v) = .int v) (hq : Q (some (.int v)) μ) : Good l ω M pc L [.int v] μ Q := by
  intro p e s m args below meth c C H locs ls hP hS hl hL
  obtain ⟨hx, hb, hml, hr', hown, hts, hnw, hK, hlk, hap⟩ := C
  exact W.zret (v := v) hx hb (by rw [hr', hr]) hn (fun t ht hW => ⟨⟨some (.int v), μ, rfl, hq, by rw [ht]; exact hP⟩, hS.F ht⟩) hS.2.2 hd hlk
theorem gd_lret {v : Int64} (hd : decode M.2.1 pc = .ok (.lreturn, 1)) (hr : M.2.2.2.1 = some .long) (hq : Q (some (.long v)) μ) : Good l ω M pc L [.long v] μ Q := by
  intro p e s m args below meth c C H locs ls hP hS hl hL
  obtain ⟨hx, hb, hml, hr', hown, hts, hnw, hK, hlk, hap⟩ := C
  exact W.lret (v := v) hx hb (by rw [hr', hr]) (fun t ht hW => ⟨⟨some (.long v), μ, rfl, hq, by rw [ht]; exact hP⟩, hS.F ht⟩) hS.2.2 hd hlk
theorem gd_vret (hd : decode M.2.1 pc = .ok (.return_, 1)) (hr : M.2.2.2.1 = none) (hq : Q none μ) : Good l ω M pc L [] μ Q := by
  intro p e s m args below meth c C H locs ls hP hS hl hL
  obtain ⟨hx, hb, hml, hr', hown, hts, hnw, hK, hlk, hap⟩ := C
  exact W.vret hx hb (by rw [hr', hr]) (fun t ht hW => ⟨⟨none, μ, rfl, hq, by rw [ht]; exact hP⟩, hS.F ht⟩) hS.2.2 hd hlk
def flt : List Value → List Value
  | [] => []
  | v :: vs => if v.category = 2 then v :: .null :: flt vs else v :: flt vs
def enL (as : List Value) (n : Nat) : List Value := flt as ++ List.replicate (n - (flt as).length) .null
theorem flt_len : ∀ as : List Value, (lg_sl (as.map (tv ω))).length = (flt as).length
  | [] => rfl
  | v :: vs => by
    have ih := flt_len vs
    unfold lg_sl at ih ⊢
    simp only [List.map_cons, List.flatMap_cons, List.length_append, flt, tv_cat, ih]
    by_cases h : v.category = 2 <;> simp [h] <;> omega
theorem enL_in : ∀ (as : List Value) (k i j : Nat) (v : Value), (flt as ++ List.replicate k Value.null)[j]? = some v → nul v = false → (i + j, tv ω v) ∈ lv_args i (as.map (tv ω))
  | [], k, i, j, v, h, hn => by
    simp only [flt, List.nil_append, List.getElem?_replicate] at h
    split at h
    · cases h; exact absurd hn (by decide)
    · cases h
  | u :: us, k, i, j, v, h, hn => by
    have ih := enL_in us k
    simp only [List.map_cons, lv_args, tv_cat]
    by_cases hc : u.category = 2
    · simp only [flt, hc, if_true, List.cons_append] at h ⊢
      rcases j with _ | _ | j
      · cases h; exact List.mem_cons_self
      · cases h; exact absurd hn (by decide)
      · have h' : (flt us ++ List.replicate k Value.null)[j]? = some v := h
        have := ih (i + 2) j v h' hn
        rw [show i + (j + 1 + 1) = i + 2 + j by omega]
        exact List.mem_cons_of_mem _ this
    · simp only [flt, hc, if_false, List.cons_append] at h ⊢
      rcases j with _ | j
      · cases h; exact List.mem_cons_self
      · have h' : (flt us ++ List.replicate k Value.null)[j]? = some v := h
        have := ih (i + 1) j v h' hn
        rw [show i + (j + 1) = i + 1 + j by omega]
        exact List.mem_cons_of_mem _ this
theorem ctr_of {as : List Value} (hy : plainName M.1.cls = true) (ho : M.1.cls = RR M.2.2.2.2.1) (hle : (flt as).length ≤ M.2.2.1) (k : Good l ω M 0 (enL as M.2.2.1) [] μ Q) : Ctr l ω M as μ Q := by
  refine Met.ofW (cc := M.2.1) (maxL := M.2.2.1) (ret := M.2.2.2.1) hy rfl ?_
  intro p e s m args below meth c s₁ B hml hv
  obtain ⟨rfl, hP, hK, hN, hap⟩ := hv
  have hts := atoms_spec (ws := wds M) B.pre
  have hl := lv_entry (as.map (tv ω)) (n := M.2.2.1) (by rw [flt_len]; exact hle)
  rw [lg_entry_eq]
  generalize (lg_sl (as.map (tv ω)) ++ List.replicate (M.2.2.1 - (lg_sl (as.map (tv ω))).length) Slot.unset).toArray = ls at hl ⊢
  have hl2 : lv_has ls M.2.2.1 (la ω (enL as M.2.2.1)) := la_sub hl (fun q hq => by
    obtain ⟨j, w⟩ := q
    obtain ⟨v, h1, h2, rfl⟩ := la_mem.mp hq
    have := enL_in (ω := ω) as _ 0 j v h1 h2
    rwa [Nat.zero_add] at this)
  exact k p e s m _ below meth c ⟨B.exec, B.bytes, hml, B.returns, by rw [← ho]; exact findClass_of_methodNamed B.named, fun w hw => hts w (List.mem_cons_of_mem _ hw), hN, hK, B.notSynchronized, hap⟩ s.heap [] ls hP va_S.rf hl2 (by unfold enL; rw [List.length_append, List.length_replicate]; omega)
theorem ctr_mono {as : List Value} {Q1 : Option Value → Mm → Prop} (h : Ctr l ω M as μ Q1) (hq : ∀ v μ', Q1 v μ' → Q v μ') : Ctr l ω M as μ Q := by
  intro p e ha hc hk s m args below hf h1 hP hK
  obtain ⟨t, o, a1, a2, a3, ⟨⟨v, μ', b1, b2, b3⟩, b4⟩, b5⟩ := h p e ha hc hk s m args below hf h1 hP hK
  exact ⟨t, o, a1, a2, a3, ⟨⟨v, μ', b1, hq v μ' b2, b3⟩, b4⟩, b5⟩
end GDS
end
section
abbrev M_X6_addVertex : MD := (yX6_addVertex, cX6_addVertex, 1, (some .int), 6, 2, 49)
theorem mok_X6_addVertex : MOk M_X6_addVertex := ⟨gt_at 232 (by decide +kernel) (by decide +kernel), gt_at 54 (by decide +kernel) (by decide +kernel), ⟨by decide +kernel, by decide +kernel⟩, rfl⟩
abbrev M_X6_beginCell : MD := (yX6_beginCell, cX6_beginCell, 2, (some .int), 6, 2, 44)
theorem mok_X6_beginCell : MOk M_X6_beginCell := ⟨gt_at 243 (by decide +kernel) (by decide +kernel), gt_at 54 (by decide +kernel) (by decide +kernel), ⟨by decide +kernel, by decide +kernel⟩, rfl⟩
abbrev M_X6_setFace : MD := (yX6_setFace, cX6_setFace, 4, (some .int), 6, 2, 43)
theorem mok_X6_setFace : MOk M_X6_setFace := ⟨gt_at 254 (by decide +kernel) (by decide +kernel), gt_at 54 (by decide +kernel) (by decide +kernel), ⟨by decide +kernel, by decide +kernel⟩, rfl⟩
abbrev M_X6_endCell : MD := (yX6_endCell, cX6_endCell, 2, (some .int), 6, 5, 116)
theorem mok_X6_endCell : MOk M_X6_endCell := ⟨gt_at 282 (by decide +kernel) (by decide +kernel), gt_at 54 (by decide +kernel) (by decide +kernel), ⟨by decide +kernel, by decide +kernel⟩, rfl⟩
abbrev M_X6_clear : MD := (yX6_clear, cX6_clear, 2, (some .int), 6, 2, 40)
theorem mok_X6_clear : MOk M_X6_clear := ⟨gt_at 329 (by decide +kernel) (by decide +kernel), gt_at 54 (by decide +kernel) (by decide +kernel), ⟨by decide +kernel, by decide +kernel⟩, rfl⟩
abbrev M_X6_cellCount : MD := (yX6_cellCount, cX6_cellCount, 2, (some .int), 6, 1, 23)
theorem mok_X6_cellCount : MOk M_X6_cellCount := ⟨gt_at 337 (by decide +kernel) (by decide +kernel), gt_at 54 (by decide +kernel) (by decide +kernel), ⟨by decide +kernel, by decide +kernel⟩, rfl⟩
abbrev M_X6_dimension : MD := (yX6_dimension, cX6_dimension, 2, (some .int), 6, 1, 21)
theorem mok_X6_dimension : MOk M_X6_dimension := ⟨gt_at 345 (by decide +kernel) (by decide +kernel), gt_at 54 (by decide +kernel) (by decide +kernel), ⟨by decide +kernel, by decide +kernel⟩, rfl⟩
abbrev M_X6_faceCell : MD := (yX6_faceCell, cX6_faceCell, 6, (some .int), 6, 4, 91)
theorem mok_X6_faceCell : MOk M_X6_faceCell := ⟨gt_at 349 (by decide +kernel) (by decide +kernel), gt_at 54 (by decide +kernel) (by decide +kernel), ⟨by decide +kernel, by decide +kernel⟩, rfl⟩
abbrev M_X6_faceMask : MD := (yX6_faceMask, cX6_faceMask, 6, (some .int), 6, 4, 91)
theorem mok_X6_faceMask : MOk M_X6_faceMask := ⟨gt_at 359 (by decide +kernel) (by decide +kernel), gt_at 54 (by decide +kernel) (by decide +kernel), ⟨by decide +kernel, by decide +kernel⟩, rfl⟩
abbrev M_X6_degeneracyMask : MD := (yX6_degeneracyMask, cX6_degeneracyMask, 6, (some .int), 6, 3, 69)
theorem mok_X6_degeneracyMask : MOk M_X6_degeneracyMask := ⟨gt_at 364 (by decide +kernel) (by decide +kernel), gt_at 54 (by decide +kernel) (by decide +kernel), ⟨by decide +kernel, by decide +kernel⟩, rfl⟩
abbrev M_X6_vertex : MD := (yX6_vertex, cX6_vertex, 6, (some .int), 6, 5, 117)
theorem mok_X6_vertex : MOk M_X6_vertex := ⟨gt_at 371 (by decide +kernel) (by decide +kernel), gt_at 54 (by decide +kernel) (by decide +kernel), ⟨by decide +kernel, by decide +kernel⟩, rfl⟩
abbrev M_X6_simplexCount : MD := (yX6_simplexCount, cX6_simplexCount, 4, (some .int), 6, 1, 23)
theorem mok_X6_simplexCount : MOk M_X6_simplexCount := ⟨gt_at 379 (by decide +kernel) (by decide +kernel), gt_at 54 (by decide +kernel) (by decide +kernel), ⟨by decide +kernel, by decide +kernel⟩, rfl⟩
abbrev M_X6_eulerCharacteristic : MD := (yX6_eulerCharacteristic, cX6_eulerCharacteristic, 3, (some .int), 6, 1, 20)
theorem mok_X6_eulerCharacteristic : MOk M_X6_eulerCharacteristic := ⟨gt_at 386 (by decide +kernel) (by decide +kernel), gt_at 54 (by decide +kernel) (by decide +kernel), ⟨by decide +kernel, by decide +kernel⟩, rfl⟩
abbrev M_X6_partCount : MD := (yX6_partCount, cX6_partCount, 3, (some .int), 6, 2, 46)
theorem mok_X6_partCount : MOk M_X6_partCount := ⟨gt_at 393 (by decide +kernel) (by decide +kernel), gt_at 54 (by decide +kernel) (by decide +kernel), ⟨by decide +kernel, by decide +kernel⟩, rfl⟩
abbrev M_X6_incidence : MD := (yX6_incidence, cX6_incidence, 6, (some .int), 6, 1, 22)
theorem mok_X6_incidence : MOk M_X6_incidence := ⟨gt_at 402 (by decide +kernel) (by decide +kernel), gt_at 54 (by decide +kernel) (by decide +kernel), ⟨by decide +kernel, by decide +kernel⟩, rfl⟩
abbrev M_X6_betti : MD := (yX6_betti, cX6_betti, 2, (some .int), 6, 6, 147)
theorem mok_X6_betti : MOk M_X6_betti := ⟨gt_at 406 (by decide +kernel) (by decide +kernel), gt_at 54 (by decide +kernel) (by decide +kernel), ⟨by decide +kernel, by decide +kernel⟩, rfl⟩
abbrev M_X6_torsionCount : MD := (yX6_torsionCount, cX6_torsionCount, 2, (some .int), 6, 6, 149)
theorem mok_X6_torsionCount : MOk M_X6_torsionCount := ⟨gt_at 487 (by decide +kernel) (by decide +kernel), gt_at 54 (by decide +kernel) (by decide +kernel), ⟨by decide +kernel, by decide +kernel⟩, rfl⟩
abbrev M_X6_torsion : MD := (yX6_torsion, cX6_torsion, 4, (some .long), 6, 6, 149)
theorem mok_X6_torsion : MOk M_X6_torsion := ⟨gt_at 538 (by decide +kernel) (by decide +kernel), gt_at 54 (by decide +kernel) (by decide +kernel), ⟨by decide +kernel, by decide +kernel⟩, rfl⟩
abbrev M_X6_hornCount : MD := (yX6_hornCount, cX6_hornCount, 2, (some .int), 6, 6, 143)
theorem mok_X6_hornCount : MOk M_X6_hornCount := ⟨gt_at 545 (by decide +kernel) (by decide +kernel), gt_at 54 (by decide +kernel) (by decide +kernel), ⟨by decide +kernel, by decide +kernel⟩, rfl⟩
abbrev M_X6_unfilledCount : MD := (yX6_unfilledCount, cX6_unfilledCount, 2, (some .int), 6, 6, 143)
theorem mok_X6_unfilledCount : MOk M_X6_unfilledCount := ⟨gt_at 572 (by decide +kernel) (by decide +kernel), gt_at 54 (by decide +kernel) (by decide +kernel), ⟨by decide +kernel, by decide +kernel⟩, rfl⟩
abbrev M_X6_loadSimplex : MD := (yX6_loadSimplex, cX6_loadSimplex, 3, (some .int), 6, 4, 89)
theorem mok_X6_loadSimplex : MOk M_X6_loadSimplex := ⟨gt_at 581 (by decide +kernel) (by decide +kernel), gt_at 54 (by decide +kernel) (by decide +kernel), ⟨by decide +kernel, by decide +kernel⟩, rfl⟩
abbrev M_X6_loadSphere : MD := (yX6_loadSphere, cX6_loadSphere, 3, (some .int), 6, 2, 49)
theorem mok_X6_loadSphere : MOk M_X6_loadSphere := ⟨gt_at 601 (by decide +kernel) (by decide +kernel), gt_at 54 (by decide +kernel) (by decide +kernel), ⟨by decide +kernel, by decide +kernel⟩, rfl⟩
abbrev M_X6_save : MD := (yX6_save, cX6_save, 1, (some .int), 6, 2, 47)
theorem mok_X6_save : MOk M_X6_save := ⟨gt_at 606 (by decide +kernel) (by decide +kernel), gt_at 54 (by decide +kernel) (by decide +kernel), ⟨by decide +kernel, by decide +kernel⟩, rfl⟩
abbrev M_X6_product : MD := (yX6_product, cX6_product, 3, (some .int), 6, 5, 119)
theorem mok_X6_product : MOk M_X6_product := ⟨gt_at 614 (by decide +kernel) (by decide +kernel), gt_at 54 (by decide +kernel) (by decide +kernel), ⟨by decide +kernel, by decide +kernel⟩, rfl⟩
abbrev M_X6_removeAll : MD := (yX6_removeAll, cX6_removeAll, 1, none, 6, 1, 20)
theorem mok_X6_removeAll : MOk M_X6_removeAll := ⟨gt_at 333 (by decide +kernel) (by decide +kernel), gt_at 54 (by decide +kernel) (by decide +kernel), ⟨by decide +kernel, by decide +kernel⟩, rfl⟩
abbrev M_X6_checkPlace : MD := (yX6_checkPlace, cX6_checkPlace, 7, (some .int), 6, 2, 43)
theorem mok_X6_checkPlace : MOk M_X6_checkPlace := ⟨gt_at 353 (by decide +kernel) (by decide +kernel), gt_at 54 (by decide +kernel) (by decide +kernel), ⟨by decide +kernel, by decide +kernel⟩, rfl⟩
abbrev M_X6_pointAt : MD := (yX6_pointAt, cX6_pointAt, 7, (some .int), 6, 4, 91)
theorem mok_X6_pointAt : MOk M_X6_pointAt := ⟨gt_at 375 (by decide +kernel) (by decide +kernel), gt_at 54 (by decide +kernel) (by decide +kernel), ⟨by decide +kernel, by decide +kernel⟩, rfl⟩
abbrev M_X6_joinEnds : MD := (yX6_joinEnds, cX6_joinEnds, 5, (some .boolean), 6, 1, 22)
theorem mok_X6_joinEnds : MOk M_X6_joinEnds := ⟨gt_at 397 (by decide +kernel) (by decide +kernel), gt_at 54 (by decide +kernel) (by decide +kernel), ⟨by decide +kernel, by decide +kernel⟩, rfl⟩
abbrev M_X6_appendSubsets : MD := (yX6_appendSubsets, cX6_appendSubsets, 4, none, 6, 3, 66)
theorem mok_X6_appendSubsets : MOk M_X6_appendSubsets := ⟨gt_at 585 (by decide +kernel) (by decide +kernel), gt_at 54 (by decide +kernel) (by decide +kernel), ⟨by decide +kernel, by decide +kernel⟩, rfl⟩
abbrev M_X6_setFacesOfSubset : MD := (yX6_setFacesOfSubset, cX6_setFacesOfSubset, 6, none, 6, 2, 41)
theorem mok_X6_setFacesOfSubset : MOk M_X6_setFacesOfSubset := ⟨gt_at 589 (by decide +kernel) (by decide +kernel), gt_at 54 (by decide +kernel) (by decide +kernel), ⟨by decide +kernel, by decide +kernel⟩, rfl⟩
abbrev M_X6_pack : MD := (yX6_pack, cX6_pack, 2, (some .int), 6, 0, 0)
theorem mok_X6_pack : MOk M_X6_pack := ⟨gt_at 278 (by decide +kernel) (by decide +kernel), gt_at 54 (by decide +kernel) (by decide +kernel), ⟨by decide +kernel, by decide +kernel⟩, rfl⟩
abbrev M_X6_cellOf : MD := (yX6_cellOf, cX6_cellOf, 1, (some .int), 6, 0, 0)
theorem mok_X6_cellOf : MOk M_X6_cellOf := ⟨gt_at 297 (by decide +kernel) (by decide +kernel), gt_at 54 (by decide +kernel) (by decide +kernel), ⟨by decide +kernel, by decide +kernel⟩, rfl⟩
abbrev M_X6_maskOf : MD := (yX6_maskOf, cX6_maskOf, 1, (some .int), 6, 1, 20)
theorem mok_X6_maskOf : MOk M_X6_maskOf := ⟨gt_at 300 (by decide +kernel) (by decide +kernel), gt_at 54 (by decide +kernel) (by decide +kernel), ⟨by decide +kernel, by decide +kernel⟩, rfl⟩
abbrev M_X6_lowBits : MD := (yX6_lowBits, cX6_lowBits, 1, (some .int), 6, 0, 0)
theorem mok_X6_lowBits : MOk M_X6_lowBits := ⟨gt_at 269 (by decide +kernel) (by decide +kernel), gt_at 54 (by decide +kernel) (by decide +kernel), ⟨by decide +kernel, by decide +kernel⟩, rfl⟩
abbrev M_X6_numberAt : MD := (yX6_numberAt, cX6_numberAt, 2, (some .int), 6, 1, 20)
theorem mok_X6_numberAt : MOk M_X6_numberAt := ⟨gt_at 311 (by decide +kernel) (by decide +kernel), gt_at 54 (by decide +kernel) (by decide +kernel), ⟨by decide +kernel, by decide +kernel⟩, rfl⟩
abbrev M_X6_hasBit : MD := (yX6_hasBit, cX6_hasBit, 2, (some .boolean), 6, 0, 0)
theorem mok_X6_hasBit : MOk M_X6_hasBit := ⟨gt_at 304 (by decide +kernel) (by decide +kernel), gt_at 54 (by decide +kernel) (by decide +kernel), ⟨by decide +kernel, by decide +kernel⟩, rfl⟩
abbrev M_X6_withoutBit : MD := (yX6_withoutBit, cX6_withoutBit, 2, (some .int), 6, 1, 20)
theorem mok_X6_withoutBit : MOk M_X6_withoutBit := ⟨gt_at 307 (by decide +kernel) (by decide +kernel), gt_at 54 (by decide +kernel) (by decide +kernel), ⟨by decide +kernel, by decide +kernel⟩, rfl⟩
abbrev M_X6_withClearBit : MD := (yX6_withClearBit, cX6_withClearBit, 2, (some .int), 6, 1, 20)
theorem mok_X6_withClearBit : MOk M_X6_withClearBit := ⟨gt_at 367 (by decide +kernel) (by decide +kernel), gt_at 54 (by decide +kernel) (by decide +kernel), ⟨by decide +kernel, by decide +kernel⟩, rfl⟩
abbrev M_X6_gatherBits : MD := (yX6_gatherBits, cX6_gatherBits, 4, (some .int), 6, 2, 41)
theorem mok_X6_gatherBits : MOk M_X6_gatherBits := ⟨gt_at 646 (by decide +kernel) (by decide +kernel), gt_at 54 (by decide +kernel) (by decide +kernel), ⟨by decide +kernel, by decide +kernel⟩, rfl⟩
abbrev M_X6_spreadBits : MD := (yX6_spreadBits, cX6_spreadBits, 4, (some .int), 6, 2, 41)
theorem mok_X6_spreadBits : MOk M_X6_spreadBits := ⟨gt_at 319 (by decide +kernel) (by decide +kernel), gt_at 54 (by decide +kernel) (by decide +kernel), ⟨by decide +kernel, by decide +kernel⟩, rfl⟩
abbrev M_X6_sign : MD := (yX6_sign, cX6_sign, 1, (some .int), 6, 0, 0)
theorem mok_X6_sign : MOk M_X6_sign := ⟨gt_at 389 (by decide +kernel) (by decide +kernel), gt_at 54 (by decide +kernel) (by decide +kernel), ⟨by decide +kernel, by decide +kernel⟩, rfl⟩
abbrev M_X6_gcd : MD := (yX6_gcd, cX6_gcd, 11, (some .long), 6, 0, 0)
theorem mok_X6_gcd : MOk M_X6_gcd := ⟨gt_at 526 (by decide +kernel) (by decide +kernel), gt_at 54 (by decide +kernel) (by decide +kernel), ⟨by decide +kernel, by decide +kernel⟩, rfl⟩
abbrev M_X6_binomial : MD := (yX6_binomial, cX6_binomial, 4, (some .int), 6, 0, 0)
theorem mok_X6_binomial : MOk M_X6_binomial := ⟨gt_at 382 (by decide +kernel) (by decide +kernel), gt_at 54 (by decide +kernel) (by decide +kernel), ⟨by decide +kernel, by decide +kernel⟩, rfl⟩
abbrev M_X7_bits : MD := (yX7_bits, cX7_bits, 3, (some .int), 7, 0, 0)
theorem mok_X7_bits : MOk M_X7_bits := ⟨gt_at 794 (by decide +kernel) (by decide +kernel), gt_at 61 (by decide +kernel) (by decide +kernel), ⟨by decide +kernel, by decide +kernel⟩, rfl⟩
abbrev M_X7_in : MD := (yX7_in, cX7_in, 3, (some .boolean), 7, 0, 0)
theorem mok_X7_in : MOk M_X7_in := ⟨gt_at 776 (by decide +kernel) (by decide +kernel), gt_at 61 (by decide +kernel) (by decide +kernel), ⟨by decide +kernel, by decide +kernel⟩, rfl⟩
abbrev M_X7_full : MD := (yX7_full, cX7_full, 1, (some .int), 7, 0, 0)
theorem mok_X7_full : MOk M_X7_full := ⟨gt_at 791 (by decide +kernel) (by decide +kernel), gt_at 61 (by decide +kernel) (by decide +kernel), ⟨by decide +kernel, by decide +kernel⟩, rfl⟩
abbrev M_X7_noCell : MD := (yX7_noCell, cX7_noCell, 2, (some .boolean), 7, 1, 22)
theorem mok_X7_noCell : MOk M_X7_noCell := ⟨gt_at 784 (by decide +kernel) (by decide +kernel), gt_at 61 (by decide +kernel) (by decide +kernel), ⟨by decide +kernel, by decide +kernel⟩, rfl⟩
abbrev M_X7_isMask : MD := (yX7_isMask, cX7_isMask, 4, (some .boolean), 7, 1, 22)
theorem mok_X7_isMask : MOk M_X7_isMask := ⟨gt_at 788 (by decide +kernel) (by decide +kernel), gt_at 61 (by decide +kernel) (by decide +kernel), ⟨by decide +kernel, by decide +kernel⟩, rfl⟩
abbrev M_X7_numberAt : MD := (yX7_numberAt, cX7_numberAt, 2, (some .int), 7, 1, 22)
theorem mok_X7_numberAt : MOk M_X7_numberAt := ⟨gt_at 812 (by decide +kernel) (by decide +kernel), gt_at 61 (by decide +kernel) (by decide +kernel), ⟨by decide +kernel, by decide +kernel⟩, rfl⟩
abbrev M_X7_dropped : MD := (yX7_dropped, cX7_dropped, 4, (some .int), 7, 1, 20)
theorem mok_X7_dropped : MOk M_X7_dropped := ⟨gt_at 809 (by decide +kernel) (by decide +kernel), gt_at 61 (by decide +kernel) (by decide +kernel), ⟨by decide +kernel, by decide +kernel⟩, rfl⟩
abbrev M_X7_takeFace : MD := (yX7_takeFace, cX7_takeFace, 15, none, 7, 2, 43)
theorem mok_X7_takeFace : MOk M_X7_takeFace := ⟨gt_at 806 (by decide +kernel) (by decide +kernel), gt_at 61 (by decide +kernel) (by decide +kernel), ⟨by decide +kernel, by decide +kernel⟩, rfl⟩
abbrev M_X7_addCell : MD := (yX7_addCell, cX7_addCell, 2, (some .int), 7, 0, 0)
theorem mok_X7_addCell : MOk M_X7_addCell := ⟨gt_at 769 (by decide +kernel) (by decide +kernel), gt_at 61 (by decide +kernel) (by decide +kernel), ⟨by decide +kernel, by decide +kernel⟩, rfl⟩
abbrev M_X7_putFace : MD := (yX7_putFace, cX7_putFace, 5, none, 7, 0, 0)
theorem mok_X7_putFace : MOk M_X7_putFace := ⟨gt_at 816 (by decide +kernel) (by decide +kernel), gt_at 61 (by decide +kernel) (by decide +kernel), ⟨by decide +kernel, by decide +kernel⟩, rfl⟩
abbrev M_X7_addVertex : MD := (yX7_addVertex, cX7_addVertex, 1, (some .int), 7, 1, 21)
theorem mok_X7_addVertex : MOk M_X7_addVertex := ⟨gt_at 765 (by decide +kernel) (by decide +kernel), gt_at 61 (by decide +kernel) (by decide +kernel), ⟨by decide +kernel, by decide +kernel⟩, rfl⟩
abbrev M_X7_beginCell : MD := (yX7_beginCell, cX7_beginCell, 2, (some .int), 7, 1, 22)
theorem mok_X7_beginCell : MOk M_X7_beginCell := ⟨gt_at 773 (by decide +kernel) (by decide +kernel), gt_at 61 (by decide +kernel) (by decide +kernel), ⟨by decide +kernel, by decide +kernel⟩, rfl⟩
abbrev M_X7_setFace : MD := (yX7_setFace, cX7_setFace, 4, (some .int), 7, 2, 45)
theorem mok_X7_setFace : MOk M_X7_setFace := ⟨gt_at 780 (by decide +kernel) (by decide +kernel), gt_at 61 (by decide +kernel) (by decide +kernel), ⟨by decide +kernel, by decide +kernel⟩, rfl⟩
abbrev M_X7_areFacesSo : MD := (yX7_areFacesSo, cX7_areFacesSo, 6, (some .boolean), 7, 3, 77)
theorem mok_X7_areFacesSo : MOk M_X7_areFacesSo := ⟨gt_at 802 (by decide +kernel) (by decide +kernel), gt_at 61 (by decide +kernel) (by decide +kernel), ⟨by decide +kernel, by decide +kernel⟩, rfl⟩
abbrev M_X7_endCell : MD := (yX7_endCell, cX7_endCell, 3, (some .int), 7, 4, 102)
theorem mok_X7_endCell : MOk M_X7_endCell := ⟨gt_at 798 (by decide +kernel) (by decide +kernel), gt_at 61 (by decide +kernel) (by decide +kernel), ⟨by decide +kernel, by decide +kernel⟩, rfl⟩
abbrev M_X7_clear : MD := (yX7_clear, cX7_clear, 2, (some .int), 7, 0, 0)
theorem mok_X7_clear : MOk M_X7_clear := ⟨gt_at 820 (by decide +kernel) (by decide +kernel), gt_at 61 (by decide +kernel) (by decide +kernel), ⟨by decide +kernel, by decide +kernel⟩, rfl⟩
abbrev M_X7_countOf : MD := (yX7_countOf, cX7_countOf, 4, (some .int), 7, 0, 0)
theorem mok_X7_countOf : MOk M_X7_countOf := ⟨gt_at 828 (by decide +kernel) (by decide +kernel), gt_at 61 (by decide +kernel) (by decide +kernel), ⟨by decide +kernel, by decide +kernel⟩, rfl⟩
abbrev M_X7_cellCount : MD := (yX7_cellCount, cX7_cellCount, 2, (some .int), 7, 1, 23)
theorem mok_X7_cellCount : MOk M_X7_cellCount := ⟨gt_at 824 (by decide +kernel) (by decide +kernel), gt_at 61 (by decide +kernel) (by decide +kernel), ⟨by decide +kernel, by decide +kernel⟩, rfl⟩
abbrev M_X7_dimension : MD := (yX7_dimension, cX7_dimension, 2, (some .int), 7, 2, 43)
theorem mok_X7_dimension : MOk M_X7_dimension := ⟨gt_at 832 (by decide +kernel) (by decide +kernel), gt_at 61 (by decide +kernel) (by decide +kernel), ⟨by decide +kernel, by decide +kernel⟩, rfl⟩
abbrev M_X7_simplexBarred : MD := (yX7_simplexBarred, cX7_simplexBarred, 7, (some .int), 7, 2, 45)
theorem mok_X7_simplexBarred : MOk M_X7_simplexBarred := ⟨gt_at 840 (by decide +kernel) (by decide +kernel), gt_at 61 (by decide +kernel) (by decide +kernel), ⟨by decide +kernel, by decide +kernel⟩, rfl⟩
abbrev M_X7_faceCell : MD := (yX7_faceCell, cX7_faceCell, 6, (some .int), 7, 3, 77)
theorem mok_X7_faceCell : MOk M_X7_faceCell := ⟨gt_at 836 (by decide +kernel) (by decide +kernel), gt_at 61 (by decide +kernel) (by decide +kernel), ⟨by decide +kernel, by decide +kernel⟩, rfl⟩
abbrev M_X7_faceMask : MD := (yX7_faceMask, cX7_faceMask, 6, (some .int), 7, 3, 77)
theorem mok_X7_faceMask : MOk M_X7_faceMask := ⟨gt_at 844 (by decide +kernel) (by decide +kernel), gt_at 61 (by decide +kernel) (by decide +kernel), ⟨by decide +kernel, by decide +kernel⟩, rfl⟩
abbrev M_X7_degeneracyMask : MD := (yX7_degeneracyMask, cX7_degeneracyMask, 6, (some .int), 7, 3, 71)
theorem mok_X7_degeneracyMask : MOk M_X7_degeneracyMask := ⟨gt_at 848 (by decide +kernel) (by decide +kernel), gt_at 61 (by decide +kernel) (by decide +kernel), ⟨by decide +kernel, by decide +kernel⟩, rfl⟩
abbrev M_X7_vertex : MD := (yX7_vertex, cX7_vertex, 8, (some .int), 7, 3, 77)
theorem mok_X7_vertex : MOk M_X7_vertex := ⟨gt_at 852 (by decide +kernel) (by decide +kernel), gt_at 61 (by decide +kernel) (by decide +kernel), ⟨by decide +kernel, by decide +kernel⟩, rfl⟩
abbrev M_X7_choose : MD := (yX7_choose, cX7_choose, 4, (some .int), 7, 0, 0)
theorem mok_X7_choose : MOk M_X7_choose := ⟨gt_at 859 (by decide +kernel) (by decide +kernel), gt_at 61 (by decide +kernel) (by decide +kernel), ⟨by decide +kernel, by decide +kernel⟩, rfl⟩
abbrev M_X7_simplexCount : MD := (yX7_simplexCount, cX7_simplexCount, 4, (some .int), 7, 1, 23)
theorem mok_X7_simplexCount : MOk M_X7_simplexCount := ⟨gt_at 856 (by decide +kernel) (by decide +kernel), gt_at 61 (by decide +kernel) (by decide +kernel), ⟨by decide +kernel, by decide +kernel⟩, rfl⟩
abbrev M_X7_eulerCharacteristic : MD := (yX7_eulerCharacteristic, cX7_eulerCharacteristic, 3, (some .int), 7, 0, 0)
theorem mok_X7_eulerCharacteristic : MOk M_X7_eulerCharacteristic := ⟨gt_at 863 (by decide +kernel) (by decide +kernel), gt_at 61 (by decide +kernel) (by decide +kernel), ⟨by decide +kernel, by decide +kernel⟩, rfl⟩
abbrev M_X7_partCount : MD := (yX7_partCount, cX7_partCount, 6, (some .int), 7, 0, 0)
theorem mok_X7_partCount : MOk M_X7_partCount := ⟨gt_at 867 (by decide +kernel) (by decide +kernel), gt_at 61 (by decide +kernel) (by decide +kernel), ⟨by decide +kernel, by decide +kernel⟩, rfl⟩
abbrev M_X7_entryOf : MD := (yX7_entryOf, cX7_entryOf, 5, (some .int), 7, 0, 0)
theorem mok_X7_entryOf : MOk M_X7_entryOf := ⟨gt_at 875 (by decide +kernel) (by decide +kernel), gt_at 61 (by decide +kernel) (by decide +kernel), ⟨by decide +kernel, by decide +kernel⟩, rfl⟩
abbrev M_X7_incidence : MD := (yX7_incidence, cX7_incidence, 3, (some .int), 7, 2, 43)
theorem mok_X7_incidence : MOk M_X7_incidence := ⟨gt_at 871 (by decide +kernel) (by decide +kernel), gt_at 61 (by decide +kernel) (by decide +kernel), ⟨by decide +kernel, by decide +kernel⟩, rfl⟩
abbrev M_X7_layMatrix : MD := (yX7_layMatrix, cX7_layMatrix, 4, none, 7, 1, 24)
theorem mok_X7_layMatrix : MOk M_X7_layMatrix := ⟨gt_at 887 (by decide +kernel) (by decide +kernel), gt_at 61 (by decide +kernel) (by decide +kernel), ⟨by decide +kernel, by decide +kernel⟩, rfl⟩
abbrev M_X7_rest : MD := (yX7_rest, cX7_rest, 6, (some .long), 7, 0, 0)
theorem mok_X7_rest : MOk M_X7_rest := ⟨gt_at 895 (by decide +kernel) (by decide +kernel), gt_at 61 (by decide +kernel) (by decide +kernel), ⟨by decide +kernel, by decide +kernel⟩, rfl⟩
abbrev M_X7_inverse : MD := (yX7_inverse, cX7_inverse, 10, (some .long), 7, 0, 0)
theorem mok_X7_inverse : MOk M_X7_inverse := ⟨gt_at 902 (by decide +kernel) (by decide +kernel), gt_at 61 (by decide +kernel) (by decide +kernel), ⟨by decide +kernel, by decide +kernel⟩, rfl⟩
abbrev M_X7_clearColumn : MD := (yX7_clearColumn, cX7_clearColumn, 11, none, 7, 1, 29)
theorem mok_X7_clearColumn : MOk M_X7_clearColumn := ⟨gt_at 899 (by decide +kernel) (by decide +kernel), gt_at 61 (by decide +kernel) (by decide +kernel), ⟨by decide +kernel, by decide +kernel⟩, rfl⟩
abbrev M_X7_rankBy : MD := (yX7_rankBy, cX7_rankBy, 7, (some .int), 7, 2, 59)
theorem mok_X7_rankBy : MOk M_X7_rankBy := ⟨gt_at 892 (by decide +kernel) (by decide +kernel), gt_at 61 (by decide +kernel) (by decide +kernel), ⟨by decide +kernel, by decide +kernel⟩, rfl⟩
abbrev M_X7_rankOf : MD := (yX7_rankOf, cX7_rankOf, 4, (some .int), 7, 3, 85)
theorem mok_X7_rankOf : MOk M_X7_rankOf := ⟨gt_at 883 (by decide +kernel) (by decide +kernel), gt_at 61 (by decide +kernel) (by decide +kernel), ⟨by decide +kernel, by decide +kernel⟩, rfl⟩
abbrev M_X7_betti : MD := (yX7_betti, cX7_betti, 2, (some .int), 7, 4, 108)
theorem mok_X7_betti : MOk M_X7_betti := ⟨gt_at 879 (by decide +kernel) (by decide +kernel), gt_at 61 (by decide +kernel) (by decide +kernel), ⟨by decide +kernel, by decide +kernel⟩, rfl⟩
abbrev M_X7_minorBy : MD := (yX7_minorBy, cX7_minorBy, 10, (some .long), 7, 2, 59)
theorem mok_X7_minorBy : MOk M_X7_minorBy := ⟨gt_at 920 (by decide +kernel) (by decide +kernel), gt_at 61 (by decide +kernel) (by decide +kernel), ⟨by decide +kernel, by decide +kernel⟩, rfl⟩
abbrev M_X7_minorOf : MD := (yX7_minorOf, cX7_minorOf, 10, (some .long), 7, 3, 88)
theorem mok_X7_minorOf : MOk M_X7_minorOf := ⟨gt_at 916 (by decide +kernel) (by decide +kernel), gt_at 61 (by decide +kernel) (by decide +kernel), ⟨by decide +kernel, by decide +kernel⟩, rfl⟩
abbrev M_X7_product64 : MD := (yX7_product64, cX7_product64, 8, (some .long), 7, 0, 0)
theorem mok_X7_product64 : MOk M_X7_product64 := ⟨gt_at 943 (by decide +kernel) (by decide +kernel), gt_at 61 (by decide +kernel) (by decide +kernel), ⟨by decide +kernel, by decide +kernel⟩, rfl⟩
abbrev M_X7_common : MD := (yX7_common, cX7_common, 10, (some .long), 7, 0, 0)
theorem mok_X7_common : MOk M_X7_common := ⟨gt_at 956 (by decide +kernel) (by decide +kernel), gt_at 61 (by decide +kernel) (by decide +kernel), ⟨by decide +kernel, by decide +kernel⟩, rfl⟩
abbrev M_X7_takesLeast : MD := (yX7_takesLeast, cX7_takesLeast, 8, (some .boolean), 7, 0, 0)
theorem mok_X7_takesLeast : MOk M_X7_takesLeast := ⟨gt_at 931 (by decide +kernel) (by decide +kernel), gt_at 61 (by decide +kernel) (by decide +kernel), ⟨by decide +kernel, by decide +kernel⟩, rfl⟩
abbrev M_X7_addRow : MD := (yX7_addRow, cX7_addRow, 6, none, 7, 1, 27)
theorem mok_X7_addRow : MOk M_X7_addRow := ⟨gt_at 939 (by decide +kernel) (by decide +kernel), gt_at 61 (by decide +kernel) (by decide +kernel), ⟨by decide +kernel, by decide +kernel⟩, rfl⟩
abbrev M_X7_addColumn : MD := (yX7_addColumn, cX7_addColumn, 6, none, 7, 1, 27)
theorem mok_X7_addColumn : MOk M_X7_addColumn := ⟨gt_at 949 (by decide +kernel) (by decide +kernel), gt_at 61 (by decide +kernel) (by decide +kernel), ⟨by decide +kernel, by decide +kernel⟩, rfl⟩
abbrev M_X7_clearsCross : MD := (yX7_clearsCross, cX7_clearsCross, 6, (some .boolean), 7, 2, 52)
theorem mok_X7_clearsCross : MOk M_X7_clearsCross := ⟨gt_at 935 (by decide +kernel) (by decide +kernel), gt_at 61 (by decide +kernel) (by decide +kernel), ⟨by decide +kernel, by decide +kernel⟩, rfl⟩
abbrev M_X7_oddRow : MD := (yX7_oddRow, cX7_oddRow, 5, (some .int), 7, 0, 0)
theorem mok_X7_oddRow : MOk M_X7_oddRow := ⟨gt_at 953 (by decide +kernel) (by decide +kernel), gt_at 61 (by decide +kernel) (by decide +kernel), ⟨by decide +kernel, by decide +kernel⟩, rfl⟩
abbrev M_X7_factorAt : MD := (yX7_factorAt, cX7_factorAt, 3, (some .long), 7, 3, 77)
theorem mok_X7_factorAt : MOk M_X7_factorAt := ⟨gt_at 927 (by decide +kernel) (by decide +kernel), gt_at 61 (by decide +kernel) (by decide +kernel), ⟨by decide +kernel, by decide +kernel⟩, rfl⟩
abbrev M_X7_layTorsion : MD := (yX7_layTorsion, cX7_layTorsion, 6, none, 7, 4, 117)
theorem mok_X7_layTorsion : MOk M_X7_layTorsion := ⟨gt_at 912 (by decide +kernel) (by decide +kernel), gt_at 61 (by decide +kernel) (by decide +kernel), ⟨by decide +kernel, by decide +kernel⟩, rfl⟩
abbrev M_X7_torsionCount : MD := (yX7_torsionCount, cX7_torsionCount, 2, (some .int), 7, 5, 142)
theorem mok_X7_torsionCount : MOk M_X7_torsionCount := ⟨gt_at 908 (by decide +kernel) (by decide +kernel), gt_at 61 (by decide +kernel) (by decide +kernel), ⟨by decide +kernel, by decide +kernel⟩, rfl⟩
abbrev M_X7_torsion : MD := (yX7_torsion, cX7_torsion, 3, (some .long), 7, 5, 142)
theorem mok_X7_torsion : MOk M_X7_torsion := ⟨gt_at 960 (by decide +kernel) (by decide +kernel), gt_at 61 (by decide +kernel) (by decide +kernel), ⟨by decide +kernel, by decide +kernel⟩, rfl⟩
abbrev M_X7_vertexOf : MD := (yX7_vertexOf, cX7_vertexOf, 3, (some .int), 7, 0, 0)
theorem mok_X7_vertexOf : MOk M_X7_vertexOf := ⟨gt_at 979 (by decide +kernel) (by decide +kernel), gt_at 61 (by decide +kernel) (by decide +kernel), ⟨by decide +kernel, by decide +kernel⟩, rfl⟩
abbrev M_X7_layFilled : MD := (yX7_layFilled, cX7_layFilled, 6, none, 7, 3, 77)
theorem mok_X7_layFilled : MOk M_X7_layFilled := ⟨gt_at 975 (by decide +kernel) (by decide +kernel), gt_at 61 (by decide +kernel) (by decide +kernel), ⟨by decide +kernel, by decide +kernel⟩, rfl⟩
abbrev M_X7_hornsAt : MD := (yX7_hornsAt, cX7_hornsAt, 9, (some .int), 7, 4, 102)
theorem mok_X7_hornsAt : MOk M_X7_hornsAt := ⟨gt_at 971 (by decide +kernel) (by decide +kernel), gt_at 61 (by decide +kernel) (by decide +kernel), ⟨by decide +kernel, by decide +kernel⟩, rfl⟩
abbrev M_X7_hornCount : MD := (yX7_hornCount, cX7_hornCount, 2, (some .int), 7, 5, 130)
theorem mok_X7_hornCount : MOk M_X7_hornCount := ⟨gt_at 967 (by decide +kernel) (by decide +kernel), gt_at 61 (by decide +kernel) (by decide +kernel), ⟨by decide +kernel, by decide +kernel⟩, rfl⟩
abbrev M_X7_unfilledCount : MD := (yX7_unfilledCount, cX7_unfilledCount, 2, (some .int), 7, 5, 130)
theorem mok_X7_unfilledCount : MOk M_X7_unfilledCount := ⟨gt_at 983 (by decide +kernel) (by decide +kernel), gt_at 61 (by decide +kernel) (by decide +kernel), ⟨by decide +kernel, by decide +kernel⟩, rfl⟩
abbrev M_X7_cellBy : MD := (yX7_cellBy, cX7_cellBy, 4, (some .int), 7, 0, 0)
theorem mok_X7_cellBy : MOk M_X7_cellBy := ⟨gt_at 995 (by decide +kernel) (by decide +kernel), gt_at 61 (by decide +kernel) (by decide +kernel), ⟨by decide +kernel, by decide +kernel⟩, rfl⟩
abbrev M_X7_addSubset : MD := (yX7_addSubset, cX7_addSubset, 7, none, 7, 1, 24)
theorem mok_X7_addSubset : MOk M_X7_addSubset := ⟨gt_at 991 (by decide +kernel) (by decide +kernel), gt_at 61 (by decide +kernel) (by decide +kernel), ⟨by decide +kernel, by decide +kernel⟩, rfl⟩
abbrev M_X7_loadSimplex : MD := (yX7_loadSimplex, cX7_loadSimplex, 4, (some .int), 7, 2, 50)
theorem mok_X7_loadSimplex : MOk M_X7_loadSimplex := ⟨gt_at 987 (by decide +kernel) (by decide +kernel), gt_at 61 (by decide +kernel) (by decide +kernel), ⟨by decide +kernel, by decide +kernel⟩, rfl⟩
abbrev M_X7_loadSphere : MD := (yX7_loadSphere, cX7_loadSphere, 3, (some .int), 7, 1, 24)
theorem mok_X7_loadSphere : MOk M_X7_loadSphere := ⟨gt_at 999 (by decide +kernel) (by decide +kernel), gt_at 61 (by decide +kernel) (by decide +kernel), ⟨by decide +kernel, by decide +kernel⟩, rfl⟩
abbrev M_X7_save : MD := (yX7_save, cX7_save, 3, (some .int), 7, 0, 0)
theorem mok_X7_save : MOk M_X7_save := ⟨gt_at 1003 (by decide +kernel) (by decide +kernel), gt_at 61 (by decide +kernel) (by decide +kernel), ⟨by decide +kernel, by decide +kernel⟩, rfl⟩
abbrev M_X7_addPair : MD := (yX7_addPair, cX7_addPair, 6, none, 7, 0, 0)
theorem mok_X7_addPair : MOk M_X7_addPair := ⟨gt_at 1018 (by decide +kernel) (by decide +kernel), gt_at 61 (by decide +kernel) (by decide +kernel), ⟨by decide +kernel, by decide +kernel⟩, rfl⟩
abbrev M_X7_layPairs : MD := (yX7_layPairs, cX7_layPairs, 6, none, 7, 1, 25)
theorem mok_X7_layPairs : MOk M_X7_layPairs := ⟨gt_at 1014 (by decide +kernel) (by decide +kernel), gt_at 61 (by decide +kernel) (by decide +kernel), ⟨by decide +kernel, by decide +kernel⟩, rfl⟩
abbrev M_X7_squeezed : MD := (yX7_squeezed, cX7_squeezed, 5, (some .int), 7, 0, 0)
theorem mok_X7_squeezed : MOk M_X7_squeezed := ⟨gt_at 1029 (by decide +kernel) (by decide +kernel), gt_at 61 (by decide +kernel) (by decide +kernel), ⟨by decide +kernel, by decide +kernel⟩, rfl⟩
abbrev M_X7_pairBy : MD := (yX7_pairBy, cX7_pairBy, 9, (some .int), 7, 1, 24)
theorem mok_X7_pairBy : MOk M_X7_pairBy := ⟨gt_at 1026 (by decide +kernel) (by decide +kernel), gt_at 61 (by decide +kernel) (by decide +kernel), ⟨by decide +kernel, by decide +kernel⟩, rfl⟩
abbrev M_X7_greater : MD := (yX7_greater, cX7_greater, 2, (some .int), 7, 0, 0)
theorem mok_X7_greater : MOk M_X7_greater := ⟨gt_at 1010 (by decide +kernel) (by decide +kernel), gt_at 61 (by decide +kernel) (by decide +kernel), ⟨by decide +kernel, by decide +kernel⟩, rfl⟩
abbrev M_X7_layPairFaces : MD := (yX7_layPairFaces, cX7_layPairFaces, 5, none, 7, 3, 77)
theorem mok_X7_layPairFaces : MOk M_X7_layPairFaces := ⟨gt_at 1022 (by decide +kernel) (by decide +kernel), gt_at 61 (by decide +kernel) (by decide +kernel), ⟨by decide +kernel, by decide +kernel⟩, rfl⟩
abbrev M_X7_product : MD := (yX7_product, cX7_product, 5, (some .int), 7, 4, 101)
theorem mok_X7_product : MOk M_X7_product := ⟨gt_at 1007 (by decide +kernel) (by decide +kernel), gt_at 61 (by decide +kernel) (by decide +kernel), ⟨by decide +kernel, by decide +kernel⟩, rfl⟩
abbrev M_X0_has : MD := (yX0_has, cX0_has, 2, (some .boolean), 0, 0, 0)
theorem mok_X0_has : MOk M_X0_has := ⟨gt_at 262 (by decide +kernel) (by decide +kernel), gt_at 55 (by decide +kernel) (by decide +kernel), ⟨by decide +kernel, by decide +kernel⟩, rfl⟩
abbrev M_X0_isMask : MD := (yX0_isMask, cX0_isMask, 4, (some .boolean), 0, 1, 20)
theorem mok_X0_isMask : MOk M_X0_isMask := ⟨gt_at 266 (by decide +kernel) (by decide +kernel), gt_at 55 (by decide +kernel) (by decide +kernel), ⟨by decide +kernel, by decide +kernel⟩, rfl⟩
abbrev M_X0_faceAt : MD := (yX0_faceAt, cX0_faceAt, 3, (some .int), 0, 0, 0)
theorem mok_X0_faceAt : MOk M_X0_faceAt := ⟨gt_at 316 (by decide +kernel) (by decide +kernel), gt_at 55 (by decide +kernel) (by decide +kernel), ⟨by decide +kernel, by decide +kernel⟩, rfl⟩
abbrev M_X0_append : MD := (yX0_append, cX0_append, 4, (some .int), 0, 1, 26)
theorem mok_X0_append : MOk M_X0_append := ⟨gt_at 236 (by decide +kernel) (by decide +kernel), gt_at 55 (by decide +kernel) (by decide +kernel), ⟨by decide +kernel, by decide +kernel⟩, rfl⟩
abbrev M_X0_copyFrom : MD := (yX0_copyFrom, cX0_copyFrom, 2, none, 0, 1, 26)
theorem mok_X0_copyFrom : MOk M_X0_copyFrom := ⟨gt_at 610 (by decide +kernel) (by decide +kernel), gt_at 55 (by decide +kernel) (by decide +kernel), ⟨by decide +kernel, by decide +kernel⟩, rfl⟩
abbrev M_X0_countOf : MD := (yX0_countOf, cX0_countOf, 4, (some .int), 0, 0, 0)
theorem mok_X0_countOf : MOk M_X0_countOf := ⟨gt_at 341 (by decide +kernel) (by decide +kernel), gt_at 55 (by decide +kernel) (by decide +kernel), ⟨by decide +kernel, by decide +kernel⟩, rfl⟩
abbrev M_X0_greatestDimension : MD := (yX0_greatestDimension, cX0_greatestDimension, 3, (some .int), 0, 1, 21)
theorem mok_X0_greatestDimension : MOk M_X0_greatestDimension := ⟨gt_at 618 (by decide +kernel) (by decide +kernel), gt_at 55 (by decide +kernel) (by decide +kernel), ⟨by decide +kernel, by decide +kernel⟩, rfl⟩
abbrev M_X0_faceOf : MD := (yX0_faceOf, cX0_faceOf, 8, (some .int), 0, 3, 64)
theorem mok_X0_faceOf : MOk M_X0_faceOf := ⟨gt_at 294 (by decide +kernel) (by decide +kernel), gt_at 55 (by decide +kernel) (by decide +kernel), ⟨by decide +kernel, by decide +kernel⟩, rfl⟩
abbrev M_X1_exists : MD := (yX1_exists, cX1_exists, 1, (some .boolean), 1, 0, 0)
theorem mok_X1_exists : MOk M_X1_exists := ⟨gt_at 258 (by decide +kernel) (by decide +kernel), gt_at 56 (by decide +kernel) (by decide +kernel), ⟨by decide +kernel, by decide +kernel⟩, rfl⟩
abbrev M_X1_begin : MD := (yX1_begin, cX1_begin, 2, none, 1, 1, 23)
theorem mok_X1_begin : MOk M_X1_begin := ⟨gt_at 247 (by decide +kernel) (by decide +kernel), gt_at 56 (by decide +kernel) (by decide +kernel), ⟨by decide +kernel, by decide +kernel⟩, rfl⟩
abbrev M_X1_drop : MD := (yX1_drop, cX1_drop, 1, none, 1, 0, 0)
theorem mok_X1_drop : MOk M_X1_drop := ⟨gt_at 325 (by decide +kernel) (by decide +kernel), gt_at 56 (by decide +kernel) (by decide +kernel), ⟨by decide +kernel, by decide +kernel⟩, rfl⟩
abbrev M_X1_isComplete : MD := (yX1_isComplete, cX1_isComplete, 2, (some .boolean), 1, 0, 0)
theorem mok_X1_isComplete : MOk M_X1_isComplete := ⟨gt_at 286 (by decide +kernel) (by decide +kernel), gt_at 56 (by decide +kernel) (by decide +kernel), ⟨by decide +kernel, by decide +kernel⟩, rfl⟩
abbrev M_X1_satisfiesIdentities : MD := (yX1_satisfiesIdentities, cX1_satisfiesIdentities, 6, (some .boolean), 1, 4, 91)
theorem mok_X1_satisfiesIdentities : MOk M_X1_satisfiesIdentities := ⟨gt_at 290 (by decide +kernel) (by decide +kernel), gt_at 56 (by decide +kernel) (by decide +kernel), ⟨by decide +kernel, by decide +kernel⟩, rfl⟩
abbrev M_X2_rankOf : MD := (yX2_rankOf, cX2_rankOf, 3, (some .int), 2, 5, 125)
theorem mok_X2_rankOf : MOk M_X2_rankOf := ⟨gt_at 410 (by decide +kernel) (by decide +kernel), gt_at 59 (by decide +kernel) (by decide +kernel), ⟨by decide +kernel, by decide +kernel⟩, rfl⟩
abbrev M_X2_findFactors : MD := (yX2_findFactors, cX2_findFactors, 5, none, 2, 5, 125)
theorem mok_X2_findFactors : MOk M_X2_findFactors := ⟨gt_at 491 (by decide +kernel) (by decide +kernel), gt_at 59 (by decide +kernel) (by decide +kernel), ⟨by decide +kernel, by decide +kernel⟩, rfl⟩
abbrev M_X2_unitFactors : MD := (yX2_unitFactors, cX2_unitFactors, 3, (some .int), 2, 0, 0)
theorem mok_X2_unitFactors : MOk M_X2_unitFactors := ⟨gt_at 534 (by decide +kernel) (by decide +kernel), gt_at 59 (by decide +kernel) (by decide +kernel), ⟨by decide +kernel, by decide +kernel⟩, rfl⟩
abbrev M_X2_eliminate : MD := (yX2_eliminate, cX2_eliminate, 5, none, 2, 4, 101)
theorem mok_X2_eliminate : MOk M_X2_eliminate := ⟨gt_at 440 (by decide +kernel) (by decide +kernel), gt_at 59 (by decide +kernel) (by decide +kernel), ⟨by decide +kernel, by decide +kernel⟩, rfl⟩
abbrev M_X2_clearBelow : MD := (yX2_clearBelow, cX2_clearBelow, 6, none, 2, 3, 76)
theorem mok_X2_clearBelow : MOk M_X2_clearBelow := ⟨gt_at 466 (by decide +kernel) (by decide +kernel), gt_at 59 (by decide +kernel) (by decide +kernel), ⟨by decide +kernel, by decide +kernel⟩, rfl⟩
abbrev M_X2_isolatePivot : MD := (yX2_isolatePivot, cX2_isolatePivot, 3, none, 2, 4, 100)
theorem mok_X2_isolatePivot : MOk M_X2_isolatePivot := ⟨gt_at 498 (by decide +kernel) (by decide +kernel), gt_at 59 (by decide +kernel) (by decide +kernel), ⟨by decide +kernel, by decide +kernel⟩, rfl⟩
abbrev M_X2_orderByDivision : MD := (yX2_orderByDivision, cX2_orderByDivision, 6, none, 2, 1, 30)
theorem mok_X2_orderByDivision : MOk M_X2_orderByDivision := ⟨gt_at 530 (by decide +kernel) (by decide +kernel), gt_at 59 (by decide +kernel) (by decide +kernel), ⟨by decide +kernel, by decide +kernel⟩, rfl⟩
abbrev M_X3_forget : MD := (yX3_forget, cX3_forget, 1, none, 3, 1, 24)
theorem mok_X3_forget : MOk M_X3_forget := ⟨gt_at 549 (by decide +kernel) (by decide +kernel), gt_at 58 (by decide +kernel) (by decide +kernel), ⟨by decide +kernel, by decide +kernel⟩, rfl⟩
abbrev M_X3_markFilled : MD := (yX3_markFilled, cX3_markFilled, 7, none, 3, 4, 91)
theorem mok_X3_markFilled : MOk M_X3_markFilled := ⟨gt_at 576 (by decide +kernel) (by decide +kernel), gt_at 58 (by decide +kernel) (by decide +kernel), ⟨by decide +kernel, by decide +kernel⟩, rfl⟩
abbrev M_X3_countUnmarked : MD := (yX3_countUnmarked, cX3_countUnmarked, 7, (some .int), 3, 5, 117)
theorem mok_X3_countUnmarked : MOk M_X3_countUnmarked := ⟨gt_at 554 (by decide +kernel) (by decide +kernel), gt_at 58 (by decide +kernel) (by decide +kernel), ⟨by decide +kernel, by decide +kernel⟩, rfl⟩
abbrev M_X3_findMeetingPoints : MD := (yX3_findMeetingPoints, cX3_findMeetingPoints, 7, none, 3, 4, 91)
theorem mok_X3_findMeetingPoints : MOk M_X3_findMeetingPoints := ⟨gt_at 558 (by decide +kernel) (by decide +kernel), gt_at 58 (by decide +kernel) (by decide +kernel), ⟨by decide +kernel, by decide +kernel⟩, rfl⟩
abbrev M_X3_lower : MD := (yX3_lower, cX3_lower, 1, (some .int), 3, 0, 0)
theorem mok_X3_lower : MOk M_X3_lower := ⟨gt_at 568 (by decide +kernel) (by decide +kernel), gt_at 58 (by decide +kernel) (by decide +kernel), ⟨by decide +kernel, by decide +kernel⟩, rfl⟩
abbrev M_X3_upper : MD := (yX3_upper, cX3_upper, 1, (some .int), 3, 0, 0)
theorem mok_X3_upper : MOk M_X3_upper := ⟨gt_at 563 (by decide +kernel) (by decide +kernel), gt_at 58 (by decide +kernel) (by decide +kernel), ⟨by decide +kernel, by decide +kernel⟩, rfl⟩
abbrev M_X4_collect : MD := (yX4_collect, cX4_collect, 7, (some .boolean), 4, 3, 69)
theorem mok_X4_collect : MOk M_X4_collect := ⟨gt_at 625 (by decide +kernel) (by decide +kernel), gt_at 57 (by decide +kernel) (by decide +kernel), ⟨by decide +kernel, by decide +kernel⟩, rfl⟩
abbrev M_X4_collectPartners : MD := (yX4_collectPartners, cX4_collectPartners, 7, (some .boolean), 4, 2, 43)
theorem mok_X4_collectPartners : MOk M_X4_collectPartners := ⟨gt_at 632 (by decide +kernel) (by decide +kernel), gt_at 57 (by decide +kernel) (by decide +kernel), ⟨by decide +kernel, by decide +kernel⟩, rfl⟩
abbrev M_X4_writeTo : MD := (yX4_writeTo, cX4_writeTo, 9, none, 4, 4, 91)
theorem mok_X4_writeTo : MOk M_X4_writeTo := ⟨gt_at 637 (by decide +kernel) (by decide +kernel), gt_at 57 (by decide +kernel) (by decide +kernel), ⟨by decide +kernel, by decide +kernel⟩, rfl⟩
abbrev M_X4_faceOfPair : MD := (yX4_faceOfPair, cX4_faceOfPair, 6, (some .int), 4, 3, 64)
theorem mok_X4_faceOfPair : MOk M_X4_faceOfPair := ⟨gt_at 642 (by decide +kernel) (by decide +kernel), gt_at 57 (by decide +kernel) (by decide +kernel), ⟨by decide +kernel, by decide +kernel⟩, rfl⟩
abbrev M_X4_find : MD := (yX4_find, cX4_find, 5, (some .int), 4, 0, 0)
theorem mok_X4_find : MOk M_X4_find := ⟨gt_at 650 (by decide +kernel) (by decide +kernel), gt_at 57 (by decide +kernel) (by decide +kernel), ⟨by decide +kernel, by decide +kernel⟩, rfl⟩
abbrev M_X5_load : MD := (yX5_load, cX5_load, 6, none, 5, 2, 50)
theorem mok_X5_load : MOk M_X5_load := ⟨gt_at 415 (by decide +kernel) (by decide +kernel), gt_at 60 (by decide +kernel) (by decide +kernel), ⟨by decide +kernel, by decide +kernel⟩, rfl⟩
abbrev M_X5_numberCells : MD := (yX5_numberCells, cX5_numberCells, 5, (some .int), 5, 0, 0)
theorem mok_X5_numberCells : MOk M_X5_numberCells := ⟨gt_at 422 (by decide +kernel) (by decide +kernel), gt_at 60 (by decide +kernel) (by decide +kernel), ⟨by decide +kernel, by decide +kernel⟩, rfl⟩
abbrev M_X5_loadColumn : MD := (yX5_loadColumn, cX5_loadColumn, 7, none, 5, 1, 24)
theorem mok_X5_loadColumn : MOk M_X5_loadColumn := ⟨gt_at 429 (by decide +kernel) (by decide +kernel), gt_at 60 (by decide +kernel) (by decide +kernel), ⟨by decide +kernel, by decide +kernel⟩, rfl⟩
abbrev M_X5_residue : MD := (yX5_residue, cX5_residue, 5, (some .long), 5, 0, 0)
theorem mok_X5_residue : MOk M_X5_residue := ⟨gt_at 436 (by decide +kernel) (by decide +kernel), gt_at 60 (by decide +kernel) (by decide +kernel), ⟨by decide +kernel, by decide +kernel⟩, rfl⟩
abbrev M_X5_times : MD := (yX5_times, cX5_times, 8, (some .long), 5, 0, 0)
theorem mok_X5_times : MOk M_X5_times := ⟨gt_at 461 (by decide +kernel) (by decide +kernel), gt_at 60 (by decide +kernel) (by decide +kernel), ⟨by decide +kernel, by decide +kernel⟩, rfl⟩
abbrev M_X5_power : MD := (yX5_power, cX5_power, 8, (some .long), 5, 1, 27)
theorem mok_X5_power : MOk M_X5_power := ⟨gt_at 471 (by decide +kernel) (by decide +kernel), gt_at 60 (by decide +kernel) (by decide +kernel), ⟨by decide +kernel, by decide +kernel⟩, rfl⟩
abbrev M_X5_at : MD := (yX5_at, cX5_at, 3, (some .long), 5, 0, 0)
theorem mok_X5_at : MOk M_X5_at := ⟨gt_at 448 (by decide +kernel) (by decide +kernel), gt_at 60 (by decide +kernel) (by decide +kernel), ⟨by decide +kernel, by decide +kernel⟩, rfl⟩
abbrev M_X5_rowWithEntry : MD := (yX5_rowWithEntry, cX5_rowWithEntry, 4, (some .int), 5, 1, 22)
theorem mok_X5_rowWithEntry : MOk M_X5_rowWithEntry := ⟨gt_at 444 (by decide +kernel) (by decide +kernel), gt_at 60 (by decide +kernel) (by decide +kernel), ⟨by decide +kernel, by decide +kernel⟩, rfl⟩
abbrev M_X5_swapRows : MD := (yX5_swapRows, cX5_swapRows, 4, none, 5, 1, 24)
theorem mok_X5_swapRows : MOk M_X5_swapRows := ⟨gt_at 452 (by decide +kernel) (by decide +kernel), gt_at 60 (by decide +kernel) (by decide +kernel), ⟨by decide +kernel, by decide +kernel⟩, rfl⟩
abbrev M_X5_swapColumns : MD := (yX5_swapColumns, cX5_swapColumns, 4, none, 5, 1, 24)
theorem mok_X5_swapColumns : MOk M_X5_swapColumns := ⟨gt_at 514 (by decide +kernel) (by decide +kernel), gt_at 60 (by decide +kernel) (by decide +kernel), ⟨by decide +kernel, by decide +kernel⟩, rfl⟩
abbrev M_X5_swap : MD := (yX5_swap, cX5_swap, 5, none, 5, 0, 0)
theorem mok_X5_swap : MOk M_X5_swap := ⟨gt_at 456 (by decide +kernel) (by decide +kernel), gt_at 60 (by decide +kernel) (by decide +kernel), ⟨by decide +kernel, by decide +kernel⟩, rfl⟩
abbrev M_X5_subtractRow : MD := (yX5_subtractRow, cX5_subtractRow, 6, none, 5, 2, 51)
theorem mok_X5_subtractRow : MOk M_X5_subtractRow := ⟨gt_at 476 (by decide +kernel) (by decide +kernel), gt_at 60 (by decide +kernel) (by decide +kernel), ⟨by decide +kernel, by decide +kernel⟩, rfl⟩
abbrev M_X5_subtractColumn : MD := (yX5_subtractColumn, cX5_subtractColumn, 6, none, 5, 2, 51)
theorem mok_X5_subtractColumn : MOk M_X5_subtractColumn := ⟨gt_at 523 (by decide +kernel) (by decide +kernel), gt_at 60 (by decide +kernel) (by decide +kernel), ⟨by decide +kernel, by decide +kernel⟩, rfl⟩
abbrev M_X5_subtract : MD := (yX5_subtract, cX5_subtract, 5, none, 5, 1, 27)
theorem mok_X5_subtract : MOk M_X5_subtract := ⟨gt_at 480 (by decide +kernel) (by decide +kernel), gt_at 60 (by decide +kernel) (by decide +kernel), ⟨by decide +kernel, by decide +kernel⟩, rfl⟩
abbrev M_X5_moveLeast : MD := (yX5_moveLeast, cX5_moveLeast, 5, none, 5, 2, 47)
theorem mok_X5_moveLeast : MOk M_X5_moveLeast := ⟨gt_at 506 (by decide +kernel) (by decide +kernel), gt_at 60 (by decide +kernel) (by decide +kernel), ⟨by decide +kernel, by decide +kernel⟩, rfl⟩
abbrev M_X5_isLess : MD := (yX5_isLess, cX5_isLess, 4, (some .boolean), 5, 0, 0)
theorem mok_X5_isLess : MOk M_X5_isLess := ⟨gt_at 509 (by decide +kernel) (by decide +kernel), gt_at 60 (by decide +kernel) (by decide +kernel), ⟨by decide +kernel, by decide +kernel⟩, rfl⟩
abbrev M_X5_isIsolated : MD := (yX5_isIsolated, cX5_isIsolated, 3, (some .boolean), 5, 1, 22)
theorem mok_X5_isIsolated : MOk M_X5_isIsolated := ⟨gt_at 502 (by decide +kernel) (by decide +kernel), gt_at 60 (by decide +kernel) (by decide +kernel), ⟨by decide +kernel, by decide +kernel⟩, rfl⟩
abbrev M_X5_reduceCross : MD := (yX5_reduceCross, cX5_reduceCross, 5, none, 5, 3, 76)
theorem mok_X5_reduceCross : MOk M_X5_reduceCross := ⟨gt_at 518 (by decide +kernel) (by decide +kernel), gt_at 60 (by decide +kernel) (by decide +kernel), ⟨by decide +kernel, by decide +kernel⟩, rfl⟩
abbrev M_J6_bitCount_0f7a4 : MD := (yJ6_bitCount_0f7a4, cJ6_bitCount_0f7a4, 1, (some .int), 8, 0, 0)
theorem mok_J6_bitCount_0f7a4 : MOk M_J6_bitCount_0f7a4 := ⟨gt_at 272 (by decide +kernel) (by decide +kernel), gt_at 65 (by decide +kernel) (by decide +kernel), ⟨by decide +kernel, by decide +kernel⟩, rfl⟩
abbrev M_J6_highestOneBit_0f7a4 : MD := (yJ6_highestOneBit_0f7a4, cJ6_highestOneBit_0f7a4, 1, (some .int), 8, 1, 21)
theorem mok_J6_highestOneBit_0f7a4 : MOk M_J6_highestOneBit_0f7a4 := ⟨gt_at 592 (by decide +kernel) (by decide +kernel), gt_at 65 (by decide +kernel) (by decide +kernel), ⟨by decide +kernel, by decide +kernel⟩, rfl⟩
abbrev M_J6_numberOfLeadingZeros_0f7a4 : MD := (yJ6_numberOfLeadingZeros_0f7a4, cJ6_numberOfLeadingZeros_0f7a4, 2, (some .int), 8, 0, 0)
theorem mok_J6_numberOfLeadingZeros_0f7a4 : MOk M_J6_numberOfLeadingZeros_0f7a4 := ⟨gt_at 596 (by decide +kernel) (by decide +kernel), gt_at 65 (by decide +kernel) (by decide +kernel), ⟨by decide +kernel, by decide +kernel⟩, rfl⟩
abbrev M_J9_max_7cf53 : MD := (yJ9_max_7cf53, cJ9_max_7cf53, 2, (some .int), 9, 0, 0)
theorem mok_J9_max_7cf53 : MOk M_J9_max_7cf53 := ⟨gt_at 621 (by decide +kernel) (by decide +kernel), gt_at 66 (by decide +kernel) (by decide +kernel), ⟨by decide +kernel, by decide +kernel⟩, rfl⟩
abbrev M_J9_max_f86c9 : MD := (yJ9_max_f86c9, cJ9_max_f86c9, 4, (some .long), 9, 0, 0)
theorem mok_J9_max_f86c9 : MOk M_J9_max_f86c9 := ⟨gt_at 418 (by decide +kernel) (by decide +kernel), gt_at 66 (by decide +kernel) (by decide +kernel), ⟨by decide +kernel, by decide +kernel⟩, rfl⟩
abbrev M_J9_min_7cf53 : MD := (yJ9_min_7cf53, cJ9_min_7cf53, 2, (some .int), 9, 0, 0)
theorem mok_J9_min_7cf53 : MOk M_J9_min_7cf53 := ⟨gt_at 494 (by decide +kernel) (by decide +kernel), gt_at 66 (by decide +kernel) (by decide +kernel), ⟨by decide +kernel, by decide +kernel⟩, rfl⟩
abbrev M_J9_min_f86c9 : MD := (yJ9_min_f86c9, cJ9_min_f86c9, 4, (some .long), 9, 0, 0)
theorem mok_J9_min_f86c9 : MOk M_J9_min_f86c9 := ⟨gt_at 483 (by decide +kernel) (by decide +kernel), gt_at 66 (by decide +kernel) (by decide +kernel), ⟨by decide +kernel, by decide +kernel⟩, rfl⟩
abbrev M_J7_fill_53178 : MD := (yJ7_fill_53178, cJ7_fill_53178, 4, none, 10, 0, 0)
theorem mok_J7_fill_53178 : MOk M_J7_fill_53178 := ⟨gt_at 250 (by decide +kernel) (by decide +kernel), gt_at 63 (by decide +kernel) (by decide +kernel), ⟨by decide +kernel, by decide +kernel⟩, rfl⟩
abbrev M_J7_fill_d0a16 : MD := (yJ7_fill_d0a16, cJ7_fill_d0a16, 5, none, 10, 0, 0)
theorem mok_J7_fill_d0a16 : MOk M_J7_fill_d0a16 := ⟨gt_at 425 (by decide +kernel) (by decide +kernel), gt_at 63 (by decide +kernel) (by decide +kernel), ⟨by decide +kernel, by decide +kernel⟩, rfl⟩
theorem sN_0_22 : StN 0 22 M_X6_lowBits 1 := ⟨mok_X6_lowBits, by decide +kernel, ⟨"SimplicialSet", List.mem_filter.mpr ⟨List.mem_of_getElem? (i := 267) (by decide +kernel), by decide +kernel⟩⟩, gt_at 268 (by decide +kernel) (by decide +kernel)⟩
theorem sS_0_26 : StS 0 26 M_J6_bitCount_0f7a4 1 := ⟨mok_J6_bitCount_0f7a4, by decide +kernel, gt_at 270 (by decide +kernel) (by decide +kernel), gt_at 271 (by decide +kernel) (by decide +kernel)⟩
theorem sL_0_31 : Jvm.Cond.methodLink (RR 0) 31 arraycopyName ∈ gt := gt_at 237 (by decide +kernel) (by decide +kernel)
theorem sS_0_37 : StS 0 37 M_J9_max_7cf53 2 := ⟨mok_J9_max_7cf53, by decide +kernel, gt_at 619 (by decide +kernel) (by decide +kernel), gt_at 620 (by decide +kernel) (by decide +kernel)⟩
theorem sN_0_43 : StN 0 43 M_X6_cellOf 1 := ⟨mok_X6_cellOf, by decide +kernel, ⟨"SimplicialSet", List.mem_filter.mpr ⟨List.mem_of_getElem? (i := 295) (by decide +kernel), by decide +kernel⟩⟩, gt_at 296 (by decide +kernel) (by decide +kernel)⟩
theorem sN_0_46 : StN 0 46 M_X6_maskOf 1 := ⟨mok_X6_maskOf, by decide +kernel, ⟨"SimplicialSet", List.mem_filter.mpr ⟨List.mem_of_getElem? (i := 298) (by decide +kernel), by decide +kernel⟩⟩, gt_at 299 (by decide +kernel) (by decide +kernel)⟩
theorem sN_0_49 : StN 0 49 M_X6_hasBit 2 := ⟨mok_X6_hasBit, by decide +kernel, ⟨"SimplicialSet", List.mem_filter.mpr ⟨List.mem_of_getElem? (i := 302) (by decide +kernel), by decide +kernel⟩⟩, gt_at 303 (by decide +kernel) (by decide +kernel)⟩
theorem sN_0_53 : StN 0 53 M_X6_withoutBit 2 := ⟨mok_X6_withoutBit, by decide +kernel, ⟨"SimplicialSet", List.mem_filter.mpr ⟨List.mem_of_getElem? (i := 305) (by decide +kernel), by decide +kernel⟩⟩, gt_at 306 (by decide +kernel) (by decide +kernel)⟩
theorem sN_0_56 : StN 0 56 M_X6_pack 2 := ⟨mok_X6_pack, by decide +kernel, ⟨"SimplicialSet", List.mem_filter.mpr ⟨List.mem_of_getElem? (i := 308) (by decide +kernel), by decide +kernel⟩⟩, gt_at 277 (by decide +kernel) (by decide +kernel)⟩
theorem sN_0_59 : StN 0 59 M_X6_numberAt 2 := ⟨mok_X6_numberAt, by decide +kernel, ⟨"SimplicialSet", List.mem_filter.mpr ⟨List.mem_of_getElem? (i := 309) (by decide +kernel), by decide +kernel⟩⟩, gt_at 310 (by decide +kernel) (by decide +kernel)⟩
theorem sV_0_62 : StV 0 62 M_X0_faceAt 2 := ⟨mok_X0_faceAt, by decide +kernel, gt_at 313 (by decide +kernel) (by decide +kernel), gt_at 314 (by decide +kernel) (by decide +kernel), gt_at 315 (by decide +kernel) (by decide +kernel), by decide⟩
theorem sN_0_65 : StN 0 65 M_X6_spreadBits 2 := ⟨mok_X6_spreadBits, by decide +kernel, ⟨"SimplicialSet", List.mem_filter.mpr ⟨List.mem_of_getElem? (i := 317) (by decide +kernel), by decide +kernel⟩⟩, gt_at 318 (by decide +kernel) (by decide +kernel)⟩
theorem sS_1_19 : StS 1 19 M_J7_fill_53178 2 := ⟨mok_J7_fill_53178, by decide +kernel, gt_at 248 (by decide +kernel) (by decide +kernel), gt_at 249 (by decide +kernel) (by decide +kernel)⟩
theorem sV_1_25 : StV 1 25 M_X0_faceOf 3 := ⟨mok_X0_faceOf, by decide +kernel, gt_at 291 (by decide +kernel) (by decide +kernel), gt_at 292 (by decide +kernel) (by decide +kernel), gt_at 293 (by decide +kernel) (by decide +kernel), by decide⟩
theorem sV_2_24 : StV 2 24 M_X5_load 3 := ⟨mok_X5_load, by decide +kernel, gt_at 412 (by decide +kernel) (by decide +kernel), gt_at 413 (by decide +kernel) (by decide +kernel), gt_at 414 (by decide +kernel) (by decide +kernel), by decide⟩
theorem sV_2_28 : StV 2 28 M_X2_eliminate 0 := ⟨mok_X2_eliminate, by decide +kernel, gt_at 437 (by decide +kernel) (by decide +kernel), gt_at 439 (by decide +kernel) (by decide +kernel), gt_at 7 (by decide +kernel) (by decide +kernel), by decide⟩
theorem sS_2_45 : StS 2 45 M_J9_min_7cf53 2 := ⟨mok_J9_min_7cf53, by decide +kernel, gt_at 492 (by decide +kernel) (by decide +kernel), gt_at 493 (by decide +kernel) (by decide +kernel)⟩
theorem sV_2_51 : StV 2 51 M_X2_isolatePivot 1 := ⟨mok_X2_isolatePivot, by decide +kernel, gt_at 495 (by decide +kernel) (by decide +kernel), gt_at 497 (by decide +kernel) (by decide +kernel), gt_at 11 (by decide +kernel) (by decide +kernel), by decide⟩
theorem sV_2_55 : StV 2 55 M_X5_at 2 := ⟨mok_X5_at, by decide +kernel, gt_at 457 (by decide +kernel) (by decide +kernel), gt_at 446 (by decide +kernel) (by decide +kernel), gt_at 447 (by decide +kernel) (by decide +kernel), by decide⟩
theorem sN_2_59 : StN 2 59 M_X6_gcd 2 := ⟨mok_X6_gcd, by decide +kernel, ⟨"SimplicialSet", List.mem_filter.mpr ⟨List.mem_of_getElem? (i := 524) (by decide +kernel), by decide +kernel⟩⟩, gt_at 525 (by decide +kernel) (by decide +kernel)⟩
theorem sV_2_63 : StV 2 63 M_X2_orderByDivision 1 := ⟨mok_X2_orderByDivision, by decide +kernel, gt_at 527 (by decide +kernel) (by decide +kernel), gt_at 529 (by decide +kernel) (by decide +kernel), gt_at 14 (by decide +kernel) (by decide +kernel), by decide⟩
theorem sV_2_66 : StV 2 66 M_X5_rowWithEntry 2 := ⟨mok_X5_rowWithEntry, by decide +kernel, gt_at 441 (by decide +kernel) (by decide +kernel), gt_at 442 (by decide +kernel) (by decide +kernel), gt_at 443 (by decide +kernel) (by decide +kernel), by decide⟩
theorem sV_2_69 : StV 2 69 M_X5_swapRows 2 := ⟨mok_X5_swapRows, by decide +kernel, gt_at 449 (by decide +kernel) (by decide +kernel), gt_at 450 (by decide +kernel) (by decide +kernel), gt_at 451 (by decide +kernel) (by decide +kernel), by decide⟩
theorem sV_2_73 : StV 2 73 M_X5_times 2 := ⟨mok_X5_times, by decide +kernel, gt_at 458 (by decide +kernel) (by decide +kernel), gt_at 459 (by decide +kernel) (by decide +kernel), gt_at 460 (by decide +kernel) (by decide +kernel), by decide⟩
theorem sV_2_76 : StV 2 76 M_X2_clearBelow 2 := ⟨mok_X2_clearBelow, by decide +kernel, gt_at 463 (by decide +kernel) (by decide +kernel), gt_at 465 (by decide +kernel) (by decide +kernel), gt_at 9 (by decide +kernel) (by decide +kernel), by decide⟩
theorem sS_2_79 : StS 2 79 M_J9_min_f86c9 2 := ⟨mok_J9_min_f86c9, by decide +kernel, gt_at 481 (by decide +kernel) (by decide +kernel), gt_at 482 (by decide +kernel) (by decide +kernel)⟩
theorem sV_2_83 : StV 2 83 M_X5_power 2 := ⟨mok_X5_power, by decide +kernel, gt_at 468 (by decide +kernel) (by decide +kernel), gt_at 469 (by decide +kernel) (by decide +kernel), gt_at 470 (by decide +kernel) (by decide +kernel), by decide⟩
theorem sV_2_86 : StV 2 86 M_X5_subtractRow 3 := ⟨mok_X5_subtractRow, by decide +kernel, gt_at 473 (by decide +kernel) (by decide +kernel), gt_at 474 (by decide +kernel) (by decide +kernel), gt_at 475 (by decide +kernel) (by decide +kernel), by decide⟩
theorem sV_2_90 : StV 2 90 M_X5_isIsolated 1 := ⟨mok_X5_isIsolated, by decide +kernel, gt_at 499 (by decide +kernel) (by decide +kernel), gt_at 500 (by decide +kernel) (by decide +kernel), gt_at 501 (by decide +kernel) (by decide +kernel), by decide⟩
theorem sV_2_94 : StV 2 94 M_X5_moveLeast 1 := ⟨mok_X5_moveLeast, by decide +kernel, gt_at 503 (by decide +kernel) (by decide +kernel), gt_at 504 (by decide +kernel) (by decide +kernel), gt_at 505 (by decide +kernel) (by decide +kernel), by decide⟩
theorem sV_2_97 : StV 2 97 M_X5_reduceCross 1 := ⟨mok_X5_reduceCross, by decide +kernel, gt_at 515 (by decide +kernel) (by decide +kernel), gt_at 516 (by decide +kernel) (by decide +kernel), gt_at 517 (by decide +kernel) (by decide +kernel), by decide⟩
theorem sS_3_22 : StS 3 22 M_J7_fill_d0a16 2 := ⟨mok_J7_fill_d0a16, by decide +kernel, gt_at 550 (by decide +kernel) (by decide +kernel), gt_at 424 (by decide +kernel) (by decide +kernel)⟩
theorem sN_3_34 : StN 3 34 M_X6_lowBits 1 := ⟨mok_X6_lowBits, by decide +kernel, ⟨"SimplicialSet", List.mem_filter.mpr ⟨List.mem_of_getElem? (i := 559) (by decide +kernel), by decide +kernel⟩⟩, gt_at 268 (by decide +kernel) (by decide +kernel)⟩
theorem sV_3_38 : StV 3 38 M_X0_isMask 3 := ⟨mok_X0_isMask, by decide +kernel, gt_at 577 (by decide +kernel) (by decide +kernel), gt_at 264 (by decide +kernel) (by decide +kernel), gt_at 265 (by decide +kernel) (by decide +kernel), by decide⟩
theorem sN_3_42 : StN 3 42 M_X6_pack 2 := ⟨mok_X6_pack, by decide +kernel, ⟨"SimplicialSet", List.mem_filter.mpr ⟨List.mem_of_getElem? (i := 560) (by decide +kernel), by decide +kernel⟩⟩, gt_at 277 (by decide +kernel) (by decide +kernel)⟩
theorem sS_3_46 : StS 3 46 M_X3_lower 1 := ⟨mok_X3_lower, by decide +kernel, gt_at 566 (by decide +kernel) (by decide +kernel), gt_at 567 (by decide +kernel) (by decide +kernel)⟩
theorem sV_3_49 : StV 3 49 M_X0_faceOf 3 := ⟨mok_X0_faceOf, by decide +kernel, gt_at 564 (by decide +kernel) (by decide +kernel), gt_at 292 (by decide +kernel) (by decide +kernel), gt_at 293 (by decide +kernel) (by decide +kernel), by decide⟩
theorem sN_3_53 : StN 3 53 M_X6_cellOf 1 := ⟨mok_X6_cellOf, by decide +kernel, ⟨"SimplicialSet", List.mem_filter.mpr ⟨List.mem_of_getElem? (i := 565) (by decide +kernel), by decide +kernel⟩⟩, gt_at 296 (by decide +kernel) (by decide +kernel)⟩
theorem sS_3_56 : StS 3 56 M_X3_upper 1 := ⟨mok_X3_upper, by decide +kernel, gt_at 561 (by decide +kernel) (by decide +kernel), gt_at 562 (by decide +kernel) (by decide +kernel)⟩
theorem sV_3_59 : StV 3 59 M_X3_findMeetingPoints 2 := ⟨mok_X3_findMeetingPoints, by decide +kernel, gt_at 555 (by decide +kernel) (by decide +kernel), gt_at 557 (by decide +kernel) (by decide +kernel), gt_at 15 (by decide +kernel) (by decide +kernel), by decide⟩
theorem sN_4_31 : StN 4 31 M_X6_lowBits 1 := ⟨mok_X6_lowBits, by decide +kernel, ⟨"SimplicialSet", List.mem_filter.mpr ⟨List.mem_of_getElem? (i := 626) (by decide +kernel), by decide +kernel⟩⟩, gt_at 268 (by decide +kernel) (by decide +kernel)⟩
theorem sV_4_35 : StV 4 35 M_X0_isMask 3 := ⟨mok_X0_isMask, by decide +kernel, gt_at 627 (by decide +kernel) (by decide +kernel), gt_at 264 (by decide +kernel) (by decide +kernel), gt_at 265 (by decide +kernel) (by decide +kernel), by decide⟩
theorem sN_4_39 : StN 4 39 M_X6_pack 2 := ⟨mok_X6_pack, by decide +kernel, ⟨"SimplicialSet", List.mem_filter.mpr ⟨List.mem_of_getElem? (i := 628) (by decide +kernel), by decide +kernel⟩⟩, gt_at 277 (by decide +kernel) (by decide +kernel)⟩
theorem sV_4_43 : StV 4 43 M_X4_collectPartners 3 := ⟨mok_X4_collectPartners, by decide +kernel, gt_at 629 (by decide +kernel) (by decide +kernel), gt_at 631 (by decide +kernel) (by decide +kernel), gt_at 18 (by decide +kernel) (by decide +kernel), by decide⟩
theorem sN_4_47 : StN 4 47 M_X6_maskOf 1 := ⟨mok_X6_maskOf, by decide +kernel, ⟨"SimplicialSet", List.mem_filter.mpr ⟨List.mem_of_getElem? (i := 633) (by decide +kernel), by decide +kernel⟩⟩, gt_at 299 (by decide +kernel) (by decide +kernel)⟩
theorem sV_4_50 : StV 4 50 M_X0_faceOf 3 := ⟨mok_X0_faceOf, by decide +kernel, gt_at 638 (by decide +kernel) (by decide +kernel), gt_at 292 (by decide +kernel) (by decide +kernel), gt_at 293 (by decide +kernel) (by decide +kernel), by decide⟩
theorem sV_4_54 : StV 4 54 M_X4_faceOfPair 2 := ⟨mok_X4_faceOfPair, by decide +kernel, gt_at 639 (by decide +kernel) (by decide +kernel), gt_at 641 (by decide +kernel) (by decide +kernel), gt_at 19 (by decide +kernel) (by decide +kernel), by decide⟩
theorem sV_4_57 : StV 4 57 M_X0_append 2 := ⟨mok_X0_append, by decide +kernel, gt_at 651 (by decide +kernel) (by decide +kernel), gt_at 234 (by decide +kernel) (by decide +kernel), gt_at 235 (by decide +kernel) (by decide +kernel), by decide⟩
theorem sN_4_61 : StN 4 61 M_X6_cellOf 1 := ⟨mok_X6_cellOf, by decide +kernel, ⟨"SimplicialSet", List.mem_filter.mpr ⟨List.mem_of_getElem? (i := 643) (by decide +kernel), by decide +kernel⟩⟩, gt_at 296 (by decide +kernel) (by decide +kernel)⟩
theorem sN_4_64 : StN 4 64 M_X6_gatherBits 2 := ⟨mok_X6_gatherBits, by decide +kernel, ⟨"SimplicialSet", List.mem_filter.mpr ⟨List.mem_of_getElem? (i := 644) (by decide +kernel), by decide +kernel⟩⟩, gt_at 645 (by decide +kernel) (by decide +kernel)⟩
theorem sV_4_67 : StV 4 67 M_X4_find 2 := ⟨mok_X4_find, by decide +kernel, gt_at 647 (by decide +kernel) (by decide +kernel), gt_at 649 (by decide +kernel) (by decide +kernel), gt_at 20 (by decide +kernel) (by decide +kernel), by decide⟩
theorem sS_5_23 : StS 5 23 M_J9_max_f86c9 2 := ⟨mok_J9_max_f86c9, by decide +kernel, gt_at 416 (by decide +kernel) (by decide +kernel), gt_at 417 (by decide +kernel) (by decide +kernel)⟩
theorem sV_5_29 : StV 5 29 M_X5_numberCells 2 := ⟨mok_X5_numberCells, by decide +kernel, gt_at 419 (by decide +kernel) (by decide +kernel), gt_at 421 (by decide +kernel) (by decide +kernel), gt_at 4 (by decide +kernel) (by decide +kernel), by decide⟩
theorem sS_5_40 : StS 5 40 M_J7_fill_d0a16 2 := ⟨mok_J7_fill_d0a16, by decide +kernel, gt_at 423 (by decide +kernel) (by decide +kernel), gt_at 424 (by decide +kernel) (by decide +kernel)⟩
theorem sV_5_54 : StV 5 54 M_X5_loadColumn 2 := ⟨mok_X5_loadColumn, by decide +kernel, gt_at 426 (by decide +kernel) (by decide +kernel), gt_at 428 (by decide +kernel) (by decide +kernel), gt_at 5 (by decide +kernel) (by decide +kernel), by decide⟩
theorem sV_5_58 : StV 5 58 M_X0_faceAt 2 := ⟨mok_X0_faceAt, by decide +kernel, gt_at 430 (by decide +kernel) (by decide +kernel), gt_at 314 (by decide +kernel) (by decide +kernel), gt_at 315 (by decide +kernel) (by decide +kernel), by decide⟩
theorem sN_5_62 : StN 5 62 M_X6_cellOf 1 := ⟨mok_X6_cellOf, by decide +kernel, ⟨"SimplicialSet", List.mem_filter.mpr ⟨List.mem_of_getElem? (i := 431) (by decide +kernel), by decide +kernel⟩⟩, gt_at 296 (by decide +kernel) (by decide +kernel)⟩
theorem sN_5_66 : StN 5 66 M_X6_sign 1 := ⟨mok_X6_sign, by decide +kernel, ⟨"SimplicialSet", List.mem_filter.mpr ⟨List.mem_of_getElem? (i := 432) (by decide +kernel), by decide +kernel⟩⟩, gt_at 388 (by decide +kernel) (by decide +kernel)⟩
theorem sV_5_69 : StV 5 69 M_X5_residue 1 := ⟨mok_X5_residue, by decide +kernel, gt_at 433 (by decide +kernel) (by decide +kernel), gt_at 435 (by decide +kernel) (by decide +kernel), gt_at 6 (by decide +kernel) (by decide +kernel), by decide⟩
theorem sV_5_75 : StV 5 75 M_X5_times 2 := ⟨mok_X5_times, by decide +kernel, gt_at 472 (by decide +kernel) (by decide +kernel), gt_at 459 (by decide +kernel) (by decide +kernel), gt_at 460 (by decide +kernel) (by decide +kernel), by decide⟩
theorem sV_5_78 : StV 5 78 M_X5_at 2 := ⟨mok_X5_at, by decide +kernel, gt_at 445 (by decide +kernel) (by decide +kernel), gt_at 446 (by decide +kernel) (by decide +kernel), gt_at 447 (by decide +kernel) (by decide +kernel), by decide⟩
theorem sV_5_82 : StV 5 82 M_X5_swap 2 := ⟨mok_X5_swap, by decide +kernel, gt_at 453 (by decide +kernel) (by decide +kernel), gt_at 455 (by decide +kernel) (by decide +kernel), gt_at 8 (by decide +kernel) (by decide +kernel), by decide⟩
theorem sV_5_86 : StV 5 86 M_X5_subtract 3 := ⟨mok_X5_subtract, by decide +kernel, gt_at 477 (by decide +kernel) (by decide +kernel), gt_at 479 (by decide +kernel) (by decide +kernel), gt_at 10 (by decide +kernel) (by decide +kernel), by decide⟩
theorem sS_5_90 : StS 5 90 M_X5_isLess 2 := ⟨mok_X5_isLess, by decide +kernel, gt_at 507 (by decide +kernel) (by decide +kernel), gt_at 508 (by decide +kernel) (by decide +kernel)⟩
theorem sV_5_94 : StV 5 94 M_X5_swapRows 2 := ⟨mok_X5_swapRows, by decide +kernel, gt_at 510 (by decide +kernel) (by decide +kernel), gt_at 450 (by decide +kernel) (by decide +kernel), gt_at 451 (by decide +kernel) (by decide +kernel), by decide⟩
theorem sV_5_97 : StV 5 97 M_X5_swapColumns 2 := ⟨mok_X5_swapColumns, by decide +kernel, gt_at 511 (by decide +kernel) (by decide +kernel), gt_at 513 (by decide +kernel) (by decide +kernel), gt_at 12 (by decide +kernel) (by decide +kernel), by decide⟩
theorem sV_5_100 : StV 5 100 M_X5_subtractRow 3 := ⟨mok_X5_subtractRow, by decide +kernel, gt_at 519 (by decide +kernel) (by decide +kernel), gt_at 474 (by decide +kernel) (by decide +kernel), gt_at 475 (by decide +kernel) (by decide +kernel), by decide⟩
theorem sV_5_103 : StV 5 103 M_X5_subtractColumn 3 := ⟨mok_X5_subtractColumn, by decide +kernel, gt_at 520 (by decide +kernel) (by decide +kernel), gt_at 522 (by decide +kernel) (by decide +kernel), gt_at 13 (by decide +kernel) (by decide +kernel), by decide⟩
theorem sV_6_64 : StV 6 64 M_X0_append 2 := ⟨mok_X0_append, by decide +kernel, gt_at 233 (by decide +kernel) (by decide +kernel), gt_at 234 (by decide +kernel) (by decide +kernel), gt_at 235 (by decide +kernel) (by decide +kernel), by decide⟩
theorem sV_6_68 : StV 6 68 M_X1_begin 1 := ⟨mok_X1_begin, by decide +kernel, gt_at 244 (by decide +kernel) (by decide +kernel), gt_at 245 (by decide +kernel) (by decide +kernel), gt_at 246 (by decide +kernel) (by decide +kernel), by decide⟩
theorem sV_6_72 : StV 6 72 M_X1_exists 0 := ⟨mok_X1_exists, by decide +kernel, gt_at 255 (by decide +kernel) (by decide +kernel), gt_at 256 (by decide +kernel) (by decide +kernel), gt_at 257 (by decide +kernel) (by decide +kernel), by decide⟩
theorem sV_6_79 : StV 6 79 M_X0_has 1 := ⟨mok_X0_has, by decide +kernel, gt_at 259 (by decide +kernel) (by decide +kernel), gt_at 260 (by decide +kernel) (by decide +kernel), gt_at 261 (by decide +kernel) (by decide +kernel), by decide⟩
theorem sV_6_83 : StV 6 83 M_X0_isMask 3 := ⟨mok_X0_isMask, by decide +kernel, gt_at 263 (by decide +kernel) (by decide +kernel), gt_at 264 (by decide +kernel) (by decide +kernel), gt_at 265 (by decide +kernel) (by decide +kernel), by decide⟩
theorem sS_6_90 : StS 6 90 M_X6_pack 2 := ⟨mok_X6_pack, by decide +kernel, gt_at 276 (by decide +kernel) (by decide +kernel), gt_at 277 (by decide +kernel) (by decide +kernel)⟩
theorem sV_6_94 : StV 6 94 M_X1_isComplete 0 := ⟨mok_X1_isComplete, by decide +kernel, gt_at 283 (by decide +kernel) (by decide +kernel), gt_at 284 (by decide +kernel) (by decide +kernel), gt_at 285 (by decide +kernel) (by decide +kernel), by decide⟩
theorem sV_6_97 : StV 6 97 M_X1_satisfiesIdentities 1 := ⟨mok_X1_satisfiesIdentities, by decide +kernel, gt_at 287 (by decide +kernel) (by decide +kernel), gt_at 288 (by decide +kernel) (by decide +kernel), gt_at 289 (by decide +kernel) (by decide +kernel), by decide⟩
theorem sV_6_101 : StV 6 101 M_X1_drop 0 := ⟨mok_X1_drop, by decide +kernel, gt_at 322 (by decide +kernel) (by decide +kernel), gt_at 323 (by decide +kernel) (by decide +kernel), gt_at 324 (by decide +kernel) (by decide +kernel), by decide⟩
theorem sV_6_104 : StV 6 104 M_X6_removeAll 0 := ⟨mok_X6_removeAll, by decide +kernel, gt_at 330 (by decide +kernel) (by decide +kernel), gt_at 332 (by decide +kernel) (by decide +kernel), gt_at 0 (by decide +kernel) (by decide +kernel), by decide⟩
theorem sV_6_107 : StV 6 107 M_X0_countOf 1 := ⟨mok_X0_countOf, by decide +kernel, gt_at 338 (by decide +kernel) (by decide +kernel), gt_at 339 (by decide +kernel) (by decide +kernel), gt_at 340 (by decide +kernel) (by decide +kernel), by decide⟩
theorem sV_6_114 : StV 6 114 M_X6_checkPlace 6 := ⟨mok_X6_checkPlace, by decide +kernel, gt_at 350 (by decide +kernel) (by decide +kernel), gt_at 352 (by decide +kernel) (by decide +kernel), gt_at 1 (by decide +kernel) (by decide +kernel), by decide⟩
theorem sV_6_118 : StV 6 118 M_X0_faceOf 3 := ⟨mok_X0_faceOf, by decide +kernel, gt_at 354 (by decide +kernel) (by decide +kernel), gt_at 292 (by decide +kernel) (by decide +kernel), gt_at 293 (by decide +kernel) (by decide +kernel), by decide⟩
theorem sS_6_122 : StS 6 122 M_X6_cellOf 1 := ⟨mok_X6_cellOf, by decide +kernel, gt_at 355 (by decide +kernel) (by decide +kernel), gt_at 296 (by decide +kernel) (by decide +kernel)⟩
theorem sS_6_125 : StS 6 125 M_X6_maskOf 1 := ⟨mok_X6_maskOf, by decide +kernel, gt_at 360 (by decide +kernel) (by decide +kernel), gt_at 299 (by decide +kernel) (by decide +kernel)⟩
theorem sS_6_128 : StS 6 128 M_X6_withClearBit 2 := ⟨mok_X6_withClearBit, by decide +kernel, gt_at 365 (by decide +kernel) (by decide +kernel), gt_at 366 (by decide +kernel) (by decide +kernel)⟩
theorem sV_6_131 : StV 6 131 M_X6_pointAt 3 := ⟨mok_X6_pointAt, by decide +kernel, gt_at 372 (by decide +kernel) (by decide +kernel), gt_at 374 (by decide +kernel) (by decide +kernel), gt_at 2 (by decide +kernel) (by decide +kernel), by decide⟩
theorem sS_6_134 : StS 6 134 M_X6_binomial 2 := ⟨mok_X6_binomial, by decide +kernel, gt_at 380 (by decide +kernel) (by decide +kernel), gt_at 381 (by decide +kernel) (by decide +kernel)⟩
theorem sS_6_137 : StS 6 137 M_X6_sign 1 := ⟨mok_X6_sign, by decide +kernel, gt_at 387 (by decide +kernel) (by decide +kernel), gt_at 388 (by decide +kernel) (by decide +kernel)⟩
theorem sV_6_140 : StV 6 140 M_X6_joinEnds 1 := ⟨mok_X6_joinEnds, by decide +kernel, gt_at 394 (by decide +kernel) (by decide +kernel), gt_at 396 (by decide +kernel) (by decide +kernel), gt_at 3 (by decide +kernel) (by decide +kernel), by decide⟩
theorem sV_6_143 : StV 6 143 M_X0_faceAt 2 := ⟨mok_X0_faceAt, by decide +kernel, gt_at 398 (by decide +kernel) (by decide +kernel), gt_at 314 (by decide +kernel) (by decide +kernel), gt_at 315 (by decide +kernel) (by decide +kernel), by decide⟩
theorem sV_6_146 : StV 6 146 M_X2_rankOf 2 := ⟨mok_X2_rankOf, by decide +kernel, gt_at 407 (by decide +kernel) (by decide +kernel), gt_at 408 (by decide +kernel) (by decide +kernel), gt_at 409 (by decide +kernel) (by decide +kernel), by decide⟩
theorem sV_6_150 : StV 6 150 M_X2_findFactors 2 := ⟨mok_X2_findFactors, by decide +kernel, gt_at 488 (by decide +kernel) (by decide +kernel), gt_at 489 (by decide +kernel) (by decide +kernel), gt_at 490 (by decide +kernel) (by decide +kernel), by decide⟩
theorem sV_6_157 : StV 6 157 M_X2_unitFactors 0 := ⟨mok_X2_unitFactors, by decide +kernel, gt_at 531 (by decide +kernel) (by decide +kernel), gt_at 532 (by decide +kernel) (by decide +kernel), gt_at 533 (by decide +kernel) (by decide +kernel), by decide⟩
theorem sV_6_171 : StV 6 171 M_X3_forget 0 := ⟨mok_X3_forget, by decide +kernel, gt_at 546 (by decide +kernel) (by decide +kernel), gt_at 547 (by decide +kernel) (by decide +kernel), gt_at 548 (by decide +kernel) (by decide +kernel), by decide⟩
theorem sV_6_174 : StV 6 174 M_X3_countUnmarked 2 := ⟨mok_X3_countUnmarked, by decide +kernel, gt_at 551 (by decide +kernel) (by decide +kernel), gt_at 552 (by decide +kernel) (by decide +kernel), gt_at 553 (by decide +kernel) (by decide +kernel), by decide⟩
theorem sV_6_177 : StV 6 177 M_X3_markFilled 2 := ⟨mok_X3_markFilled, by decide +kernel, gt_at 573 (by decide +kernel) (by decide +kernel), gt_at 574 (by decide +kernel) (by decide +kernel), gt_at 575 (by decide +kernel) (by decide +kernel), by decide⟩
theorem sV_6_180 : StV 6 180 M_X6_appendSubsets 2 := ⟨mok_X6_appendSubsets, by decide +kernel, gt_at 582 (by decide +kernel) (by decide +kernel), gt_at 584 (by decide +kernel) (by decide +kernel), gt_at 16 (by decide +kernel) (by decide +kernel), by decide⟩
theorem sS_6_184 : StS 6 184 M_J7_fill_53178 2 := ⟨mok_J7_fill_53178, by decide +kernel, gt_at 602 (by decide +kernel) (by decide +kernel), gt_at 249 (by decide +kernel) (by decide +kernel)⟩
theorem sV_6_190 : StV 6 190 M_X0_copyFrom 1 := ⟨mok_X0_copyFrom, by decide +kernel, gt_at 607 (by decide +kernel) (by decide +kernel), gt_at 608 (by decide +kernel) (by decide +kernel), gt_at 609 (by decide +kernel) (by decide +kernel), by decide⟩
theorem sV_6_194 : StV 6 194 M_X0_greatestDimension 0 := ⟨mok_X0_greatestDimension, by decide +kernel, gt_at 615 (by decide +kernel) (by decide +kernel), gt_at 616 (by decide +kernel) (by decide +kernel), gt_at 617 (by decide +kernel) (by decide +kernel), by decide⟩
theorem sV_6_197 : StV 6 197 M_X4_collect 3 := ⟨mok_X4_collect, by decide +kernel, gt_at 622 (by decide +kernel) (by decide +kernel), gt_at 623 (by decide +kernel) (by decide +kernel), gt_at 624 (by decide +kernel) (by decide +kernel), by decide⟩
theorem sV_6_201 : StV 6 201 M_X4_writeTo 3 := ⟨mok_X4_writeTo, by decide +kernel, gt_at 634 (by decide +kernel) (by decide +kernel), gt_at 635 (by decide +kernel) (by decide +kernel), gt_at 636 (by decide +kernel) (by decide +kernel), by decide⟩
theorem sS_6_205 : StS 6 205 M_X6_lowBits 1 := ⟨mok_X6_lowBits, by decide +kernel, gt_at 301 (by decide +kernel) (by decide +kernel), gt_at 268 (by decide +kernel) (by decide +kernel)⟩
theorem sS_6_208 : StS 6 208 M_J6_bitCount_0f7a4 1 := ⟨mok_J6_bitCount_0f7a4, by decide +kernel, gt_at 312 (by decide +kernel) (by decide +kernel), gt_at 271 (by decide +kernel) (by decide +kernel)⟩
theorem sV_6_213 : StV 6 213 M_X6_setFacesOfSubset 2 := ⟨mok_X6_setFacesOfSubset, by decide +kernel, gt_at 586 (by decide +kernel) (by decide +kernel), gt_at 588 (by decide +kernel) (by decide +kernel), gt_at 17 (by decide +kernel) (by decide +kernel), by decide⟩
theorem sS_6_216 : StS 6 216 M_J6_highestOneBit_0f7a4 1 := ⟨mok_J6_highestOneBit_0f7a4, by decide +kernel, gt_at 590 (by decide +kernel) (by decide +kernel), gt_at 591 (by decide +kernel) (by decide +kernel)⟩
theorem sS_6_219 : StS 6 219 M_X6_hasBit 2 := ⟨mok_X6_hasBit, by decide +kernel, gt_at 320 (by decide +kernel) (by decide +kernel), gt_at 303 (by decide +kernel) (by decide +kernel)⟩
theorem sS_6_223 : StS 6 223 M_X6_numberAt 2 := ⟨mok_X6_numberAt, by decide +kernel, gt_at 321 (by decide +kernel) (by decide +kernel), gt_at 310 (by decide +kernel) (by decide +kernel)⟩
theorem sS_7_79 : StS 7 79 M_X7_in 3 := ⟨mok_X7_in, by decide +kernel, gt_at 774 (by decide +kernel) (by decide +kernel), gt_at 775 (by decide +kernel) (by decide +kernel)⟩
theorem sS_7_83 : StS 7 83 M_X7_full 1 := ⟨mok_X7_full, by decide +kernel, gt_at 789 (by decide +kernel) (by decide +kernel), gt_at 790 (by decide +kernel) (by decide +kernel)⟩
theorem sS_7_87 : StS 7 87 M_X7_bits 1 := ⟨mok_X7_bits, by decide +kernel, gt_at 792 (by decide +kernel) (by decide +kernel), gt_at 793 (by decide +kernel) (by decide +kernel)⟩
theorem sS_7_93 : StS 7 93 M_X7_dropped 3 := ⟨mok_X7_dropped, by decide +kernel, gt_at 807 (by decide +kernel) (by decide +kernel), gt_at 808 (by decide +kernel) (by decide +kernel)⟩
theorem sS_7_100 : StS 7 100 M_X7_numberAt 2 := ⟨mok_X7_numberAt, by decide +kernel, gt_at 810 (by decide +kernel) (by decide +kernel), gt_at 811 (by decide +kernel) (by decide +kernel)⟩
theorem sV_7_104 : StV 7 104 M_X7_addCell 1 := ⟨mok_X7_addCell, by decide +kernel, gt_at 766 (by decide +kernel) (by decide +kernel), gt_at 768 (by decide +kernel) (by decide +kernel), gt_at 21 (by decide +kernel) (by decide +kernel), by decide⟩
theorem sV_7_113 : StV 7 113 M_X7_noCell 1 := ⟨mok_X7_noCell, by decide +kernel, gt_at 781 (by decide +kernel) (by decide +kernel), gt_at 783 (by decide +kernel) (by decide +kernel), gt_at 22 (by decide +kernel) (by decide +kernel), by decide⟩
theorem sV_7_117 : StV 7 117 M_X7_isMask 3 := ⟨mok_X7_isMask, by decide +kernel, gt_at 785 (by decide +kernel) (by decide +kernel), gt_at 787 (by decide +kernel) (by decide +kernel), gt_at 23 (by decide +kernel) (by decide +kernel), by decide⟩
theorem sV_7_120 : StV 7 120 M_X7_takeFace 5 := ⟨mok_X7_takeFace, by decide +kernel, gt_at 803 (by decide +kernel) (by decide +kernel), gt_at 805 (by decide +kernel) (by decide +kernel), gt_at 25 (by decide +kernel) (by decide +kernel), by decide⟩
theorem sV_7_124 : StV 7 124 M_X7_areFacesSo 0 := ⟨mok_X7_areFacesSo, by decide +kernel, gt_at 799 (by decide +kernel) (by decide +kernel), gt_at 801 (by decide +kernel) (by decide +kernel), gt_at 24 (by decide +kernel) (by decide +kernel), by decide⟩
theorem sV_7_128 : StV 7 128 M_X7_putFace 4 := ⟨mok_X7_putFace, by decide +kernel, gt_at 813 (by decide +kernel) (by decide +kernel), gt_at 815 (by decide +kernel) (by decide +kernel), gt_at 26 (by decide +kernel) (by decide +kernel), by decide⟩
theorem sV_7_132 : StV 7 132 M_X7_countOf 1 := ⟨mok_X7_countOf, by decide +kernel, gt_at 825 (by decide +kernel) (by decide +kernel), gt_at 827 (by decide +kernel) (by decide +kernel), gt_at 27 (by decide +kernel) (by decide +kernel), by decide⟩
theorem sV_7_135 : StV 7 135 M_X7_simplexBarred 6 := ⟨mok_X7_simplexBarred, by decide +kernel, gt_at 837 (by decide +kernel) (by decide +kernel), gt_at 839 (by decide +kernel) (by decide +kernel), gt_at 28 (by decide +kernel) (by decide +kernel), by decide⟩
theorem sS_7_139 : StS 7 139 M_X7_choose 2 := ⟨mok_X7_choose, by decide +kernel, gt_at 857 (by decide +kernel) (by decide +kernel), gt_at 858 (by decide +kernel) (by decide +kernel)⟩
theorem sV_7_142 : StV 7 142 M_X7_entryOf 2 := ⟨mok_X7_entryOf, by decide +kernel, gt_at 872 (by decide +kernel) (by decide +kernel), gt_at 874 (by decide +kernel) (by decide +kernel), gt_at 29 (by decide +kernel) (by decide +kernel), by decide⟩
theorem sS_7_153 : StS 7 153 M_X7_inverse 2 := ⟨mok_X7_inverse, by decide +kernel, gt_at 900 (by decide +kernel) (by decide +kernel), gt_at 901 (by decide +kernel) (by decide +kernel)⟩
theorem sS_7_157 : StS 7 157 M_X7_rest 2 := ⟨mok_X7_rest, by decide +kernel, gt_at 893 (by decide +kernel) (by decide +kernel), gt_at 894 (by decide +kernel) (by decide +kernel)⟩
theorem sV_7_160 : StV 7 160 M_X7_clearColumn 3 := ⟨mok_X7_clearColumn, by decide +kernel, gt_at 896 (by decide +kernel) (by decide +kernel), gt_at 898 (by decide +kernel) (by decide +kernel), gt_at 33 (by decide +kernel) (by decide +kernel), by decide⟩
theorem sV_7_164 : StV 7 164 M_X7_layMatrix 1 := ⟨mok_X7_layMatrix, by decide +kernel, gt_at 884 (by decide +kernel) (by decide +kernel), gt_at 886 (by decide +kernel) (by decide +kernel), gt_at 31 (by decide +kernel) (by decide +kernel), by decide⟩
theorem sV_7_170 : StV 7 170 M_X7_rankBy 1 := ⟨mok_X7_rankBy, by decide +kernel, gt_at 889 (by decide +kernel) (by decide +kernel), gt_at 891 (by decide +kernel) (by decide +kernel), gt_at 32 (by decide +kernel) (by decide +kernel), by decide⟩
theorem sV_7_176 : StV 7 176 M_X7_rankOf 1 := ⟨mok_X7_rankOf, by decide +kernel, gt_at 880 (by decide +kernel) (by decide +kernel), gt_at 882 (by decide +kernel) (by decide +kernel), gt_at 30 (by decide +kernel) (by decide +kernel), by decide⟩
theorem sV_7_179 : StV 7 179 M_X7_minorBy 2 := ⟨mok_X7_minorBy, by decide +kernel, gt_at 917 (by decide +kernel) (by decide +kernel), gt_at 919 (by decide +kernel) (by decide +kernel), gt_at 36 (by decide +kernel) (by decide +kernel), by decide⟩
theorem sV_7_203 : StV 7 203 M_X7_product64 2 := ⟨mok_X7_product64, by decide +kernel, gt_at 940 (by decide +kernel) (by decide +kernel), gt_at 942 (by decide +kernel) (by decide +kernel), gt_at 41 (by decide +kernel) (by decide +kernel), by decide⟩
theorem sV_7_206 : StV 7 206 M_X7_addRow 3 := ⟨mok_X7_addRow, by decide +kernel, gt_at 936 (by decide +kernel) (by decide +kernel), gt_at 938 (by decide +kernel) (by decide +kernel), gt_at 40 (by decide +kernel) (by decide +kernel), by decide⟩
theorem sV_7_209 : StV 7 209 M_X7_addColumn 3 := ⟨mok_X7_addColumn, by decide +kernel, gt_at 946 (by decide +kernel) (by decide +kernel), gt_at 948 (by decide +kernel) (by decide +kernel), gt_at 42 (by decide +kernel) (by decide +kernel), by decide⟩
theorem sV_7_212 : StV 7 212 M_X7_takesLeast 1 := ⟨mok_X7_takesLeast, by decide +kernel, gt_at 928 (by decide +kernel) (by decide +kernel), gt_at 930 (by decide +kernel) (by decide +kernel), gt_at 38 (by decide +kernel) (by decide +kernel), by decide⟩
theorem sV_7_215 : StV 7 215 M_X7_clearsCross 1 := ⟨mok_X7_clearsCross, by decide +kernel, gt_at 932 (by decide +kernel) (by decide +kernel), gt_at 934 (by decide +kernel) (by decide +kernel), gt_at 39 (by decide +kernel) (by decide +kernel), by decide⟩
theorem sV_7_218 : StV 7 218 M_X7_oddRow 1 := ⟨mok_X7_oddRow, by decide +kernel, gt_at 950 (by decide +kernel) (by decide +kernel), gt_at 952 (by decide +kernel) (by decide +kernel), gt_at 43 (by decide +kernel) (by decide +kernel), by decide⟩
theorem sS_7_221 : StS 7 221 M_X7_common 2 := ⟨mok_X7_common, by decide +kernel, gt_at 954 (by decide +kernel) (by decide +kernel), gt_at 955 (by decide +kernel) (by decide +kernel)⟩
theorem sV_7_227 : StV 7 227 M_X7_minorOf 1 := ⟨mok_X7_minorOf, by decide +kernel, gt_at 913 (by decide +kernel) (by decide +kernel), gt_at 915 (by decide +kernel) (by decide +kernel), gt_at 35 (by decide +kernel) (by decide +kernel), by decide⟩
theorem sV_7_231 : StV 7 231 M_X7_factorAt 1 := ⟨mok_X7_factorAt, by decide +kernel, gt_at 924 (by decide +kernel) (by decide +kernel), gt_at 926 (by decide +kernel) (by decide +kernel), gt_at 37 (by decide +kernel) (by decide +kernel), by decide⟩
theorem sV_7_234 : StV 7 234 M_X7_layTorsion 1 := ⟨mok_X7_layTorsion, by decide +kernel, gt_at 909 (by decide +kernel) (by decide +kernel), gt_at 911 (by decide +kernel) (by decide +kernel), gt_at 34 (by decide +kernel) (by decide +kernel), by decide⟩
theorem sV_7_243 : StV 7 243 M_X7_layFilled 2 := ⟨mok_X7_layFilled, by decide +kernel, gt_at 972 (by decide +kernel) (by decide +kernel), gt_at 974 (by decide +kernel) (by decide +kernel), gt_at 45 (by decide +kernel) (by decide +kernel), by decide⟩
theorem sV_7_247 : StV 7 247 M_X7_vertexOf 2 := ⟨mok_X7_vertexOf, by decide +kernel, gt_at 976 (by decide +kernel) (by decide +kernel), gt_at 978 (by decide +kernel) (by decide +kernel), gt_at 46 (by decide +kernel) (by decide +kernel), by decide⟩
theorem sV_7_250 : StV 7 250 M_X7_hornsAt 2 := ⟨mok_X7_hornsAt, by decide +kernel, gt_at 968 (by decide +kernel) (by decide +kernel), gt_at 970 (by decide +kernel) (by decide +kernel), gt_at 44 (by decide +kernel) (by decide +kernel), by decide⟩
theorem sV_7_254 : StV 7 254 M_X7_cellBy 1 := ⟨mok_X7_cellBy, by decide +kernel, gt_at 992 (by decide +kernel) (by decide +kernel), gt_at 994 (by decide +kernel) (by decide +kernel), gt_at 48 (by decide +kernel) (by decide +kernel), by decide⟩
theorem sV_7_257 : StV 7 257 M_X7_addSubset 3 := ⟨mok_X7_addSubset, by decide +kernel, gt_at 988 (by decide +kernel) (by decide +kernel), gt_at 990 (by decide +kernel) (by decide +kernel), gt_at 47 (by decide +kernel) (by decide +kernel), by decide⟩
theorem sV_7_267 : StV 7 267 M_X7_addPair 5 := ⟨mok_X7_addPair, by decide +kernel, gt_at 1015 (by decide +kernel) (by decide +kernel), gt_at 1017 (by decide +kernel) (by decide +kernel), gt_at 50 (by decide +kernel) (by decide +kernel), by decide⟩
theorem sS_7_270 : StS 7 270 M_X7_squeezed 2 := ⟨mok_X7_squeezed, by decide +kernel, gt_at 1027 (by decide +kernel) (by decide +kernel), gt_at 1028 (by decide +kernel) (by decide +kernel)⟩
theorem sV_7_273 : StV 7 273 M_X7_pairBy 4 := ⟨mok_X7_pairBy, by decide +kernel, gt_at 1023 (by decide +kernel) (by decide +kernel), gt_at 1025 (by decide +kernel) (by decide +kernel), gt_at 52 (by decide +kernel) (by decide +kernel), by decide⟩
theorem sS_7_277 : StS 7 277 M_X7_greater 2 := ⟨mok_X7_greater, by decide +kernel, gt_at 1008 (by decide +kernel) (by decide +kernel), gt_at 1009 (by decide +kernel) (by decide +kernel)⟩
theorem sV_7_280 : StV 7 280 M_X7_layPairs 0 := ⟨mok_X7_layPairs, by decide +kernel, gt_at 1011 (by decide +kernel) (by decide +kernel), gt_at 1013 (by decide +kernel) (by decide +kernel), gt_at 49 (by decide +kernel) (by decide +kernel), by decide⟩
theorem sV_7_283 : StV 7 283 M_X7_layPairFaces 1 := ⟨mok_X7_layPairFaces, by decide +kernel, gt_at 1019 (by decide +kernel) (by decide +kernel), gt_at 1021 (by decide +kernel) (by decide +kernel), gt_at 51 (by decide +kernel) (by decide +kernel), by decide⟩
theorem sS_8_51 : StS 8 51 M_J6_numberOfLeadingZeros_0f7a4 1 := ⟨mok_J6_numberOfLeadingZeros_0f7a4, by decide +kernel, gt_at 594 (by decide +kernel) (by decide +kernel), gt_at 595 (by decide +kernel) (by decide +kernel)⟩
theorem sV_11_13 : StV 11 13 M_X6_addVertex 0 := ⟨mok_X6_addVertex, by decide +kernel, gt_at 229 (by decide +kernel) (by decide +kernel), gt_at 230 (by decide +kernel) (by decide +kernel), gt_at 231 (by decide +kernel) (by decide +kernel), by decide⟩
theorem sV_11_17 : StV 11 17 M_X7_addVertex 0 := ⟨mok_X7_addVertex, by decide +kernel, gt_at 762 (by decide +kernel) (by decide +kernel), gt_at 763 (by decide +kernel) (by decide +kernel), gt_at 764 (by decide +kernel) (by decide +kernel), by decide⟩
theorem sV_11_18 : StV 11 18 M_X6_beginCell 1 := ⟨mok_X6_beginCell, by decide +kernel, gt_at 240 (by decide +kernel) (by decide +kernel), gt_at 241 (by decide +kernel) (by decide +kernel), gt_at 242 (by decide +kernel) (by decide +kernel), by decide⟩
theorem sV_11_22 : StV 11 22 M_X7_beginCell 1 := ⟨mok_X7_beginCell, by decide +kernel, gt_at 770 (by decide +kernel) (by decide +kernel), gt_at 771 (by decide +kernel) (by decide +kernel), gt_at 772 (by decide +kernel) (by decide +kernel), by decide⟩
theorem sV_11_23 : StV 11 23 M_X6_setFace 3 := ⟨mok_X6_setFace, by decide +kernel, gt_at 251 (by decide +kernel) (by decide +kernel), gt_at 252 (by decide +kernel) (by decide +kernel), gt_at 253 (by decide +kernel) (by decide +kernel), by decide⟩
theorem sV_11_27 : StV 11 27 M_X7_setFace 3 := ⟨mok_X7_setFace, by decide +kernel, gt_at 777 (by decide +kernel) (by decide +kernel), gt_at 778 (by decide +kernel) (by decide +kernel), gt_at 779 (by decide +kernel) (by decide +kernel), by decide⟩
theorem sV_11_28 : StV 11 28 M_X6_endCell 0 := ⟨mok_X6_endCell, by decide +kernel, gt_at 279 (by decide +kernel) (by decide +kernel), gt_at 280 (by decide +kernel) (by decide +kernel), gt_at 281 (by decide +kernel) (by decide +kernel), by decide⟩
theorem sV_11_31 : StV 11 31 M_X7_endCell 0 := ⟨mok_X7_endCell, by decide +kernel, gt_at 795 (by decide +kernel) (by decide +kernel), gt_at 796 (by decide +kernel) (by decide +kernel), gt_at 797 (by decide +kernel) (by decide +kernel), by decide⟩
theorem sV_11_32 : StV 11 32 M_X6_clear 0 := ⟨mok_X6_clear, by decide +kernel, gt_at 326 (by decide +kernel) (by decide +kernel), gt_at 327 (by decide +kernel) (by decide +kernel), gt_at 328 (by decide +kernel) (by decide +kernel), by decide⟩
theorem sV_11_35 : StV 11 35 M_X7_clear 0 := ⟨mok_X7_clear, by decide +kernel, gt_at 817 (by decide +kernel) (by decide +kernel), gt_at 818 (by decide +kernel) (by decide +kernel), gt_at 819 (by decide +kernel) (by decide +kernel), by decide⟩
theorem sV_11_36 : StV 11 36 M_X6_cellCount 1 := ⟨mok_X6_cellCount, by decide +kernel, gt_at 334 (by decide +kernel) (by decide +kernel), gt_at 335 (by decide +kernel) (by decide +kernel), gt_at 336 (by decide +kernel) (by decide +kernel), by decide⟩
theorem sV_11_39 : StV 11 39 M_X7_cellCount 1 := ⟨mok_X7_cellCount, by decide +kernel, gt_at 821 (by decide +kernel) (by decide +kernel), gt_at 822 (by decide +kernel) (by decide +kernel), gt_at 823 (by decide +kernel) (by decide +kernel), by decide⟩
theorem sV_11_40 : StV 11 40 M_X6_dimension 1 := ⟨mok_X6_dimension, by decide +kernel, gt_at 342 (by decide +kernel) (by decide +kernel), gt_at 343 (by decide +kernel) (by decide +kernel), gt_at 344 (by decide +kernel) (by decide +kernel), by decide⟩
theorem sV_11_43 : StV 11 43 M_X7_dimension 1 := ⟨mok_X7_dimension, by decide +kernel, gt_at 829 (by decide +kernel) (by decide +kernel), gt_at 830 (by decide +kernel) (by decide +kernel), gt_at 831 (by decide +kernel) (by decide +kernel), by decide⟩
theorem sV_11_44 : StV 11 44 M_X6_faceCell 4 := ⟨mok_X6_faceCell, by decide +kernel, gt_at 346 (by decide +kernel) (by decide +kernel), gt_at 347 (by decide +kernel) (by decide +kernel), gt_at 348 (by decide +kernel) (by decide +kernel), by decide⟩
theorem sV_11_48 : StV 11 48 M_X7_faceCell 4 := ⟨mok_X7_faceCell, by decide +kernel, gt_at 833 (by decide +kernel) (by decide +kernel), gt_at 834 (by decide +kernel) (by decide +kernel), gt_at 835 (by decide +kernel) (by decide +kernel), by decide⟩
theorem sV_11_49 : StV 11 49 M_X6_faceMask 4 := ⟨mok_X6_faceMask, by decide +kernel, gt_at 356 (by decide +kernel) (by decide +kernel), gt_at 357 (by decide +kernel) (by decide +kernel), gt_at 358 (by decide +kernel) (by decide +kernel), by decide⟩
theorem sV_11_52 : StV 11 52 M_X7_faceMask 4 := ⟨mok_X7_faceMask, by decide +kernel, gt_at 841 (by decide +kernel) (by decide +kernel), gt_at 842 (by decide +kernel) (by decide +kernel), gt_at 843 (by decide +kernel) (by decide +kernel), by decide⟩
theorem sV_11_53 : StV 11 53 M_X6_degeneracyMask 4 := ⟨mok_X6_degeneracyMask, by decide +kernel, gt_at 361 (by decide +kernel) (by decide +kernel), gt_at 362 (by decide +kernel) (by decide +kernel), gt_at 363 (by decide +kernel) (by decide +kernel), by decide⟩
theorem sV_11_56 : StV 11 56 M_X7_degeneracyMask 4 := ⟨mok_X7_degeneracyMask, by decide +kernel, gt_at 845 (by decide +kernel) (by decide +kernel), gt_at 846 (by decide +kernel) (by decide +kernel), gt_at 847 (by decide +kernel) (by decide +kernel), by decide⟩
theorem sV_11_57 : StV 11 57 M_X6_vertex 4 := ⟨mok_X6_vertex, by decide +kernel, gt_at 368 (by decide +kernel) (by decide +kernel), gt_at 369 (by decide +kernel) (by decide +kernel), gt_at 370 (by decide +kernel) (by decide +kernel), by decide⟩
theorem sV_11_60 : StV 11 60 M_X7_vertex 4 := ⟨mok_X7_vertex, by decide +kernel, gt_at 849 (by decide +kernel) (by decide +kernel), gt_at 850 (by decide +kernel) (by decide +kernel), gt_at 851 (by decide +kernel) (by decide +kernel), by decide⟩
theorem sV_11_61 : StV 11 61 M_X6_simplexCount 1 := ⟨mok_X6_simplexCount, by decide +kernel, gt_at 376 (by decide +kernel) (by decide +kernel), gt_at 377 (by decide +kernel) (by decide +kernel), gt_at 378 (by decide +kernel) (by decide +kernel), by decide⟩
theorem sV_11_64 : StV 11 64 M_X7_simplexCount 1 := ⟨mok_X7_simplexCount, by decide +kernel, gt_at 853 (by decide +kernel) (by decide +kernel), gt_at 854 (by decide +kernel) (by decide +kernel), gt_at 855 (by decide +kernel) (by decide +kernel), by decide⟩
theorem sV_11_65 : StV 11 65 M_X6_eulerCharacteristic 0 := ⟨mok_X6_eulerCharacteristic, by decide +kernel, gt_at 383 (by decide +kernel) (by decide +kernel), gt_at 384 (by decide +kernel) (by decide +kernel), gt_at 385 (by decide +kernel) (by decide +kernel), by decide⟩
theorem sV_11_68 : StV 11 68 M_X7_eulerCharacteristic 0 := ⟨mok_X7_eulerCharacteristic, by decide +kernel, gt_at 860 (by decide +kernel) (by decide +kernel), gt_at 861 (by decide +kernel) (by decide +kernel), gt_at 862 (by decide +kernel) (by decide +kernel), by decide⟩
theorem sV_11_69 : StV 11 69 M_X6_partCount 0 := ⟨mok_X6_partCount, by decide +kernel, gt_at 390 (by decide +kernel) (by decide +kernel), gt_at 391 (by decide +kernel) (by decide +kernel), gt_at 392 (by decide +kernel) (by decide +kernel), by decide⟩
theorem sV_11_72 : StV 11 72 M_X7_partCount 0 := ⟨mok_X7_partCount, by decide +kernel, gt_at 864 (by decide +kernel) (by decide +kernel), gt_at 865 (by decide +kernel) (by decide +kernel), gt_at 866 (by decide +kernel) (by decide +kernel), by decide⟩
theorem sV_11_73 : StV 11 73 M_X6_incidence 2 := ⟨mok_X6_incidence, by decide +kernel, gt_at 399 (by decide +kernel) (by decide +kernel), gt_at 400 (by decide +kernel) (by decide +kernel), gt_at 401 (by decide +kernel) (by decide +kernel), by decide⟩
theorem sV_11_77 : StV 11 77 M_X7_incidence 2 := ⟨mok_X7_incidence, by decide +kernel, gt_at 868 (by decide +kernel) (by decide +kernel), gt_at 869 (by decide +kernel) (by decide +kernel), gt_at 870 (by decide +kernel) (by decide +kernel), by decide⟩
theorem sV_11_78 : StV 11 78 M_X6_betti 1 := ⟨mok_X6_betti, by decide +kernel, gt_at 403 (by decide +kernel) (by decide +kernel), gt_at 404 (by decide +kernel) (by decide +kernel), gt_at 405 (by decide +kernel) (by decide +kernel), by decide⟩
theorem sV_11_81 : StV 11 81 M_X7_betti 1 := ⟨mok_X7_betti, by decide +kernel, gt_at 876 (by decide +kernel) (by decide +kernel), gt_at 877 (by decide +kernel) (by decide +kernel), gt_at 878 (by decide +kernel) (by decide +kernel), by decide⟩
theorem sV_11_82 : StV 11 82 M_X6_torsionCount 1 := ⟨mok_X6_torsionCount, by decide +kernel, gt_at 484 (by decide +kernel) (by decide +kernel), gt_at 485 (by decide +kernel) (by decide +kernel), gt_at 486 (by decide +kernel) (by decide +kernel), by decide⟩
theorem sV_11_85 : StV 11 85 M_X7_torsionCount 1 := ⟨mok_X7_torsionCount, by decide +kernel, gt_at 905 (by decide +kernel) (by decide +kernel), gt_at 906 (by decide +kernel) (by decide +kernel), gt_at 907 (by decide +kernel) (by decide +kernel), by decide⟩
theorem sV_11_86 : StV 11 86 M_X6_torsion 2 := ⟨mok_X6_torsion, by decide +kernel, gt_at 535 (by decide +kernel) (by decide +kernel), gt_at 536 (by decide +kernel) (by decide +kernel), gt_at 537 (by decide +kernel) (by decide +kernel), by decide⟩
theorem sV_11_90 : StV 11 90 M_X7_torsion 2 := ⟨mok_X7_torsion, by decide +kernel, gt_at 957 (by decide +kernel) (by decide +kernel), gt_at 958 (by decide +kernel) (by decide +kernel), gt_at 959 (by decide +kernel) (by decide +kernel), by decide⟩
theorem sV_11_91 : StV 11 91 M_X6_hornCount 1 := ⟨mok_X6_hornCount, by decide +kernel, gt_at 542 (by decide +kernel) (by decide +kernel), gt_at 543 (by decide +kernel) (by decide +kernel), gt_at 544 (by decide +kernel) (by decide +kernel), by decide⟩
theorem sV_11_94 : StV 11 94 M_X7_hornCount 1 := ⟨mok_X7_hornCount, by decide +kernel, gt_at 964 (by decide +kernel) (by decide +kernel), gt_at 965 (by decide +kernel) (by decide +kernel), gt_at 966 (by decide +kernel) (by decide +kernel), by decide⟩
theorem sV_11_95 : StV 11 95 M_X6_unfilledCount 1 := ⟨mok_X6_unfilledCount, by decide +kernel, gt_at 569 (by decide +kernel) (by decide +kernel), gt_at 570 (by decide +kernel) (by decide +kernel), gt_at 571 (by decide +kernel) (by decide +kernel), by decide⟩
theorem sV_11_98 : StV 11 98 M_X7_unfilledCount 1 := ⟨mok_X7_unfilledCount, by decide +kernel, gt_at 980 (by decide +kernel) (by decide +kernel), gt_at 981 (by decide +kernel) (by decide +kernel), gt_at 982 (by decide +kernel) (by decide +kernel), by decide⟩
theorem sV_11_99 : StV 11 99 M_X6_loadSimplex 1 := ⟨mok_X6_loadSimplex, by decide +kernel, gt_at 578 (by decide +kernel) (by decide +kernel), gt_at 579 (by decide +kernel) (by decide +kernel), gt_at 580 (by decide +kernel) (by decide +kernel), by decide⟩
theorem sV_11_102 : StV 11 102 M_X7_loadSimplex 1 := ⟨mok_X7_loadSimplex, by decide +kernel, gt_at 984 (by decide +kernel) (by decide +kernel), gt_at 985 (by decide +kernel) (by decide +kernel), gt_at 986 (by decide +kernel) (by decide +kernel), by decide⟩
theorem sV_11_103 : StV 11 103 M_X6_loadSphere 1 := ⟨mok_X6_loadSphere, by decide +kernel, gt_at 598 (by decide +kernel) (by decide +kernel), gt_at 599 (by decide +kernel) (by decide +kernel), gt_at 600 (by decide +kernel) (by decide +kernel), by decide⟩
theorem sV_11_106 : StV 11 106 M_X7_loadSphere 1 := ⟨mok_X7_loadSphere, by decide +kernel, gt_at 996 (by decide +kernel) (by decide +kernel), gt_at 997 (by decide +kernel) (by decide +kernel), gt_at 998 (by decide +kernel) (by decide +kernel), by decide⟩
theorem sV_11_107 : StV 11 107 M_X6_save 0 := ⟨mok_X6_save, by decide +kernel, gt_at 603 (by decide +kernel) (by decide +kernel), gt_at 604 (by decide +kernel) (by decide +kernel), gt_at 605 (by decide +kernel) (by decide +kernel), by decide⟩
theorem sV_11_110 : StV 11 110 M_X7_save 0 := ⟨mok_X7_save, by decide +kernel, gt_at 1000 (by decide +kernel) (by decide +kernel), gt_at 1001 (by decide +kernel) (by decide +kernel), gt_at 1002 (by decide +kernel) (by decide +kernel), by decide⟩
theorem sV_11_111 : StV 11 111 M_X6_product 0 := ⟨mok_X6_product, by decide +kernel, gt_at 611 (by decide +kernel) (by decide +kernel), gt_at 612 (by decide +kernel) (by decide +kernel), gt_at 613 (by decide +kernel) (by decide +kernel), by decide⟩
theorem sV_11_114 : StV 11 114 M_X7_product 0 := ⟨mok_X7_product, by decide +kernel, gt_at 1004 (by decide +kernel) (by decide +kernel), gt_at 1005 (by decide +kernel) (by decide +kernel), gt_at 1006 (by decide +kernel) (by decide +kernel), by decide⟩
theorem gt_nat : Jvm.Cond.native arraycopyName ∈ gt := gt_at 239 (by decide +kernel) (by decide +kernel)
theorem gt_stat : Jvm.Cond.static arraycopyName ∈ gt := gt_at 238 (by decide +kernel) (by decide +kernel)
theorem gt_ini : Jvm.Cond.initialized "java/lang/System" ∈ gt := gt_at 62 (by decide +kernel) (by decide +kernel)
def wk : List Value → List Value → Prop
  | [], [] => True
  | v :: vs, w :: ws => (v = .null ∨ v = w) ∧ wk vs ws
  | _, _ => False
theorem wk_at : ∀ (A B : List Value) (i : Nat) (v : Value), wk A B → A[i]? = some v → nul v = false → B[i]? = some v
  | [], [], _, _, _, h, _ => by simp at h
  | a :: A, b :: B, 0, v, hw, h, hn => by
    simp at h
    subst h
    rcases hw.1 with rfl | rfl
    · exact absurd hn (by decide)
    · rfl
  | a :: A, b :: B, i + 1, v, hw, h, hn => wk_at A B i v hw.2 h hn
theorem wk_len : ∀ A B : List Value, wk A B → A.length = B.length
  | [], [], _ => rfl
  | _ :: A, _ :: B, h => congrArg (· + 1) (wk_len A B h.2)
theorem gd_weak {l : Launch} {ω : Wd} {M : MD} {pc : Nat} {L L' st : List Value} {μ : Mm} {Q : Option Value → Mm → Prop} (hw : wk L' L) (k : Good l ω M pc L' st μ Q) : Good l ω M pc L st μ Q := by
  intro p e s m args below meth c C H locs ls hP hS hl hL
  refine k p e s m args below meth c C H locs ls hP hS (la_sub hl (fun q hq => ?_)) (by rw [wk_len _ _ hw]; exact hL)
  obtain ⟨j, w⟩ := q
  obtain ⟨v, h1, h2, rfl⟩ := la_mem.mp hq
  exact la_mem.mpr ⟨v, wk_at _ _ j v hw h1 h2, h2, rfl⟩
end
section
section GDM
variable {l : Launch} {ω : Wd} {M : MD} {pc : Nat} {L st : List Value} {μ : Mm} {Q : Option Value → Mm → Prop}
theorem gd_mmax {idx : Nat} {x y : Int32} (hlink : Jvm.Cond.methodLink (RR M.2.2.2.2.1) idx M_J9_max_7cf53.1 ∈ gt) (hd : decode M.2.1 pc = .ok (.invokestatic idx, 3)) (hfr : 1 ≤ (rmM M).frames) (hlo : (st.map fun v => v.category).sum + 13 ≤ (rmM M).locals) (k : Good l ω M (pc + 3) L (.int (if x < y then y else x) :: st) μ Q) : Good l ω M pc L (.int y :: .int x :: st) μ Q := by
  intro p e s m args below meth c C H locs ls hP hS hl hL
  obtain ⟨hx, hb, hml, hr, hown, hts, hnw, hK, hlk, hap⟩ := id C
  exact va_mmax hx hb (by rw [hml]; exact hl.1.symm) hown (hts _ hlink) (hts _ (sS_0_37).2.2.2) (hts _ (mok_J9_max_7cf53).2.1) (hts _ (mok_J9_max_7cf53).1) hfr (by rw [st_cat]; exact hlo) (Nat.le_refl 0) (Nat.le_refl 0) hd (k p e s m args below meth c C H locs ls hP hS hl hL)
theorem gd_mmin {idx : Nat} {x y : Int32} (hlink : Jvm.Cond.methodLink (RR M.2.2.2.2.1) idx M_J9_min_7cf53.1 ∈ gt) (hd : decode M.2.1 pc = .ok (.invokestatic idx, 3)) (hfr : 1 ≤ (rmM M).frames) (hlo : (st.map fun v => v.category).sum + 13 ≤ (rmM M).locals) (k : Good l ω M (pc + 3) L (.int (if y < x then y else x) :: st) μ Q) : Good l ω M pc L (.int y :: .int x :: st) μ Q := by
  intro p e s m args below meth c C H locs ls hP hS hl hL
  obtain ⟨hx, hb, hml, hr, hown, hts, hnw, hK, hlk, hap⟩ := id C
  exact va_mmin hx hb (by rw [hml]; exact hl.1.symm) hown (hts _ hlink) (hts _ (sS_2_45).2.2.2) (hts _ (mok_J9_min_7cf53).2.1) (hts _ (mok_J9_min_7cf53).1) hfr (by rw [st_cat]; exact hlo) (Nat.le_refl 0) (Nat.le_refl 0) hd (k p e s m args below meth c C H locs ls hP hS hl hL)
theorem gd_mmaxl {idx : Nat} {x y : Int64} (hlink : Jvm.Cond.methodLink (RR M.2.2.2.2.1) idx M_J9_max_f86c9.1 ∈ gt) (hd : decode M.2.1 pc = .ok (.invokestatic idx, 3)) (hfr : 1 ≤ (rmM M).frames) (hlo : (st.map fun v => v.category).sum + 15 ≤ (rmM M).locals) (k : Good l ω M (pc + 3) L (.long (if y < x then x else y) :: st) μ Q) : Good l ω M pc L (.long y :: .long x :: st) μ Q := by
  intro p e s m args below meth c C H locs ls hP hS hl hL
  obtain ⟨hx, hb, hml, hr, hown, hts, hnw, hK, hlk, hap⟩ := id C
  exact va_mmax_long hx hb (by rw [hml]; exact hl.1.symm) hown (hts _ hlink) (hts _ (sS_5_23).2.2.2) (hts _ (mok_J9_max_f86c9).2.1) (hts _ (mok_J9_max_f86c9).1) hfr (by rw [st_cat]; exact hlo) (Nat.le_refl 0) (Nat.le_refl 0) hd (k p e s m args below meth c C H locs ls hP hS hl hL)
theorem gd_mminl {idx : Nat} {x y : Int64} (hlink : Jvm.Cond.methodLink (RR M.2.2.2.2.1) idx M_J9_min_f86c9.1 ∈ gt) (hd : decode M.2.1 pc = .ok (.invokestatic idx, 3)) (hfr : 1 ≤ (rmM M).frames) (hlo : (st.map fun v => v.category).sum + 15 ≤ (rmM M).locals) (k : Good l ω M (pc + 3) L (.long (if y < x then y else x) :: st) μ Q) : Good l ω M pc L (.long y :: .long x :: st) μ Q := by
  intro p e s m args below meth c C H locs ls hP hS hl hL
  obtain ⟨hx, hb, hml, hr, hown, hts, hnw, hK, hlk, hap⟩ := id C
  exact va_mmin_long hx hb (by rw [hml]; exact hl.1.symm) hown (hts _ hlink) (hts _ (sS_2_79).2.2.2) (hts _ (mok_J9_min_f86c9).2.1) (hts _ (mok_J9_min_f86c9).1) hfr (by rw [st_cat]; exact hlo) (Nat.le_refl 0) (Nat.le_refl 0) hd (k p e s m args below meth c C H locs ls hP hS hl hL)
end GDM
end
section
theorem Tr_X6_pack_0 {l : Launch} {ω : Wd} {a0 a1 : Int32} {μ : Mm} {Q : Option Value → Mm → Prop} (h : Q (some (.int ((a0 <<< ((nI 6) &&& 31)) ||| a1))) μ) : Good l ω M_X6_pack 0 [.int a0, .int a1] [] μ Q := (gd_blk [(.iload_n 0, 1, 0, 0, 0, 0), (.bipush 6, 2, 0, 0, 0, 0), (.ishl, 1, 0, 0, 0, 0), (.iload_n 1, 1, 0, 0, 0, 0), (.ior, 1, 0, 0, 0, 0)] 6 (L' := [.int a0, .int a1]) (st' := [.int ((a0 <<< ((nI 6) &&& 31)) ||| a1)]) (μ' := μ) (f := true) (by decide +kernel) rfl rfl (gd_iret (ty := .int) (by decide +kernel) rfl rfl h))
theorem Ct_X6_pack {l : Launch} {ω : Wd} {a0 a1 : Int32} {μ : Mm} {Q : Option Value → Mm → Prop} (h : Q (some (.int ((a0 <<< ((nI 6) &&& 31)) ||| a1))) μ) : Ctr l ω M_X6_pack [.int a0, .int a1] μ Q := ctr_of (by decide +kernel) rfl (Nat.le_of_ble_eq_true rfl) (Tr_X6_pack_0 h)
theorem Tr_X6_cellOf_0 {l : Launch} {ω : Wd} {a0 : Int32} {μ : Mm} {Q : Option Value → Mm → Prop} (h : Q (some (.int (a0 >>> ((nI 6) &&& 31)))) μ) : Good l ω M_X6_cellOf 0 [.int a0] [] μ Q := (gd_blk [(.iload_n 0, 1, 0, 0, 0, 0), (.bipush 6, 2, 0, 0, 0, 0), (.ishr, 1, 0, 0, 0, 0)] 4 (L' := [.int a0]) (st' := [.int (a0 >>> ((nI 6) &&& 31))]) (μ' := μ) (f := true) (by decide +kernel) rfl rfl (gd_iret (ty := .int) (by decide +kernel) rfl rfl h))
theorem Ct_X6_cellOf {l : Launch} {ω : Wd} {a0 : Int32} {μ : Mm} {Q : Option Value → Mm → Prop} (h : Q (some (.int (a0 >>> ((nI 6) &&& 31)))) μ) : Ctr l ω M_X6_cellOf [.int a0] μ Q := ctr_of (by decide +kernel) rfl (Nat.le_of_ble_eq_true rfl) (Tr_X6_cellOf_0 h)
theorem Tr_X6_maskOf_0 {l : Launch} {ω : Wd} {a0 : Int32} {μ : Mm} {Q : Option Value → Mm → Prop} (h : ∃ Q1, Ctr l ω M_X6_lowBits [.int (nI 6)] μ Q1 ∧ ∀ v μ1, Q1 v μ1 → Good l ω M_X6_maskOf 6 [.null] (v.toList ++ [.int a0]) μ1 Q) : Good l ω M_X6_maskOf 0 [.int a0] [] μ Q := (gd_blk [(.iload_n 0, 1, 0, 0, 0, 0), (.bipush 6, 2, 0, 0, 0, 0)] 3 (L' := [.int a0]) (st' := [.int (nI 6), .int a0]) (μ' := μ) (f := true) (by decide +kernel) rfl rfl (Exists.elim h (fun Q1 hc => gd_callS (st := [.int a0]) [.int (nI 6)] sS_6_205 (by decide +kernel) rfl rfl rfl  hc.1 (fun v μ1 hq => gd_weak (L' := [.null]) ⟨Or.inl rfl, trivial⟩ (hc.2 v μ1 hq)))))
theorem Ct_X6_maskOf {l : Launch} {ω : Wd} {a0 : Int32} {μ : Mm} {Q : Option Value → Mm → Prop} (h : ∃ Q1, Ctr l ω M_X6_lowBits [.int (nI 6)] μ Q1 ∧ ∀ v μ1, Q1 v μ1 → Good l ω M_X6_maskOf 6 [.null] (v.toList ++ [.int a0]) μ1 Q) : Ctr l ω M_X6_maskOf [.int a0] μ Q := ctr_of (by decide +kernel) rfl (Nat.le_of_ble_eq_true rfl) (Tr_X6_maskOf_0 h)
theorem Tr_X6_maskOf_6 {l : Launch} {ω : Wd} {s0 s1 : Int32} {μ : Mm} {Q : Option Value → Mm → Prop} (h : Q (some (.int (s0 &&& s1))) μ) : Good l ω M_X6_maskOf 6 [.null] [.int s1, .int s0] μ Q := (gd_blk [(.iand, 1, 0, 0, 0, 0)] 7 (L' := [.null]) (st' := [.int (s0 &&& s1)]) (μ' := μ) (f := true) (by decide +kernel) rfl rfl (gd_iret (ty := .int) (by decide +kernel) rfl rfl h))
theorem Tr_X6_lowBits_0 {l : Launch} {ω : Wd} {a0 : Int32} {μ : Mm} {Q : Option Value → Mm → Prop} (h : Q (some (.int (((nI 1) <<< (a0 &&& 31)) - (nI 1)))) μ) : Good l ω M_X6_lowBits 0 [.int a0] [] μ Q := (gd_blk [(.iconst 1, 1, 0, 0, 0, 0), (.iload_n 0, 1, 0, 0, 0, 0), (.ishl, 1, 0, 0, 0, 0), (.iconst 1, 1, 0, 0, 0, 0), (.isub, 1, 0, 0, 0, 0)] 5 (L' := [.int a0]) (st' := [.int (((nI 1) <<< (a0 &&& 31)) - (nI 1))]) (μ' := μ) (f := true) (by decide +kernel) rfl rfl (gd_iret (ty := .int) (by decide +kernel) rfl rfl h))
theorem Ct_X6_lowBits {l : Launch} {ω : Wd} {a0 : Int32} {μ : Mm} {Q : Option Value → Mm → Prop} (h : Q (some (.int (((nI 1) <<< (a0 &&& 31)) - (nI 1)))) μ) : Ctr l ω M_X6_lowBits [.int a0] μ Q := ctr_of (by decide +kernel) rfl (Nat.le_of_ble_eq_true rfl) (Tr_X6_lowBits_0 h)
theorem Tr_X6_numberAt_0 {l : Launch} {ω : Wd} {a0 a1 : Int32} {μ : Mm} {Q : Option Value → Mm → Prop} (h : ∃ Q1, Ctr l ω M_X6_lowBits [.int a1] μ Q1 ∧ ∀ v μ1, Q1 v μ1 → Good l ω M_X6_numberAt 5 [.null, .null] (v.toList ++ [.int a0]) μ1 Q) : Good l ω M_X6_numberAt 0 [.int a0, .int a1] [] μ Q := (gd_blk [(.iload_n 0, 1, 0, 0, 0, 0), (.iload_n 1, 1, 0, 0, 0, 0)] 2 (L' := [.int a0, .int a1]) (st' := [.int a1, .int a0]) (μ' := μ) (f := true) (by decide +kernel) rfl rfl (Exists.elim h (fun Q1 hc => gd_callS (st := [.int a0]) [.int a1] sS_6_205 (by decide +kernel) rfl rfl rfl  hc.1 (fun v μ1 hq => gd_weak (L' := [.null, .null]) ⟨Or.inl rfl, ⟨Or.inl rfl, trivial⟩⟩ (hc.2 v μ1 hq)))))
theorem Ct_X6_numberAt {l : Launch} {ω : Wd} {a0 a1 : Int32} {μ : Mm} {Q : Option Value → Mm → Prop} (h : ∃ Q1, Ctr l ω M_X6_lowBits [.int a1] μ Q1 ∧ ∀ v μ1, Q1 v μ1 → Good l ω M_X6_numberAt 5 [.null, .null] (v.toList ++ [.int a0]) μ1 Q) : Ctr l ω M_X6_numberAt [.int a0, .int a1] μ Q := ctr_of (by decide +kernel) rfl (Nat.le_of_ble_eq_true rfl) (Tr_X6_numberAt_0 h)
theorem Tr_X6_numberAt_5 {l : Launch} {ω : Wd} {s0 s1 : Int32} {μ : Mm} {Q : Option Value → Mm → Prop} (h : ∃ Q1, Ctr l ω M_J6_bitCount_0f7a4 [.int (s0 &&& s1)] μ Q1 ∧ ∀ v μ1, Q1 v μ1 → Good l ω M_X6_numberAt 9 [.null, .null] (v.toList ++ []) μ1 Q) : Good l ω M_X6_numberAt 5 [.null, .null] [.int s1, .int s0] μ Q := (gd_blk [(.iand, 1, 0, 0, 0, 0)] 6 (L' := [.null, .null]) (st' := [.int (s0 &&& s1)]) (μ' := μ) (f := true) (by decide +kernel) rfl rfl (Exists.elim h (fun Q1 hc => gd_callS (st := []) [.int (s0 &&& s1)] sS_6_208 (by decide +kernel) rfl rfl rfl  hc.1 (fun v μ1 hq => gd_weak (L' := [.null, .null]) ⟨Or.inl rfl, ⟨Or.inl rfl, trivial⟩⟩ (hc.2 v μ1 hq)))))
theorem Tr_X6_numberAt_9 {l : Launch} {ω : Wd} {s0 : Int32} {μ : Mm} {Q : Option Value → Mm → Prop} (h : Q (some (.int s0)) μ) : Good l ω M_X6_numberAt 9 [.null, .null] [.int s0] μ Q := (gd_iret (ty := .int) (by decide +kernel) rfl rfl h)
theorem Tr_X6_hasBit_0 {l : Launch} {ω : Wd} {a0 a1 : Int32} {μ : Mm} {Q : Option Value → Mm → Prop} (h : ((¬ ((a0 >>> (a1 &&& 31)) &&& (nI 1)) = (nI 1) → (Q (some (.int (nI 0))) μ)) ∧ (¬ (¬ ((a0 >>> (a1 &&& 31)) &&& (nI 1)) = (nI 1)) → (Q (some (.int (nI 1))) μ)))) : Good l ω M_X6_hasBit 0 [.int a0, .int a1] [] μ Q := (gd_blk [(.iload_n 0, 1, 0, 0, 0, 0), (.iload_n 1, 1, 0, 0, 0, 0), (.ishr, 1, 0, 0, 0, 0), (.iconst 1, 1, 0, 0, 0, 0), (.iand, 1, 0, 0, 0, 0)] 5 (L' := [.int a0, .int a1]) (st' := [.int ((a0 >>> (a1 &&& 31)) &&& (nI 1))]) (μ' := μ) (f := true) (by decide +kernel) rfl rfl (gd_blk [(.iconst 1, 1, 0, 0, 0, 0)] 6 (L' := [.int a0, .int a1]) (st' := [.int (nI 1), .int ((a0 >>> (a1 &&& 31)) &&& (nI 1))]) (μ' := μ) (f := true) (by decide +kernel) rfl rfl (gd_icmp (cd := .ne) (off := 7) (tgt := 13) (by decide +kernel) (by decide) (fun g1 => (gd_blk [(.iconst 0, 1, 0, 0, 0, 0)] 14 (L' := [.int a0, .int a1]) (st' := [.int (nI 0)]) (μ' := μ) (f := true) (by decide +kernel) rfl rfl (gd_iret (ty := .boolean) (by decide +kernel) rfl (by decide) (h.1 g1)))) (fun g1 => (gd_blk [(.iconst 1, 1, 0, 0, 0, 0)] 10 (L' := [.int a0, .int a1]) (st' := [.int (nI 1)]) (μ' := μ) (f := true) (by decide +kernel) rfl rfl (gd_goto (off := 4) (tgt := 14) (by decide +kernel) (by decide) (gd_iret (ty := .boolean) (by decide +kernel) rfl (by decide) (h.2 g1))))))))
theorem Ct_X6_hasBit {l : Launch} {ω : Wd} {a0 a1 : Int32} {μ : Mm} {Q : Option Value → Mm → Prop} (h : ((¬ ((a0 >>> (a1 &&& 31)) &&& (nI 1)) = (nI 1) → (Q (some (.int (nI 0))) μ)) ∧ (¬ (¬ ((a0 >>> (a1 &&& 31)) &&& (nI 1)) = (nI 1)) → (Q (some (.int (nI 1))) μ)))) : Ctr l ω M_X6_hasBit [.int a0, .int a1] μ Q := ctr_of (by decide +kernel) rfl (Nat.le_of_ble_eq_true rfl) (Tr_X6_hasBit_0 h)
theorem Tr_X6_withoutBit_0 {l : Launch} {ω : Wd} {a0 a1 : Int32} {μ : Mm} {Q : Option Value → Mm → Prop} (h : ∃ Q1, Ctr l ω M_X6_lowBits [.int a1] μ Q1 ∧ ∀ v μ1, Q1 v μ1 → Good l ω M_X6_withoutBit 5 [.int a0, .int a1] (v.toList ++ [.int a0]) μ1 Q) : Good l ω M_X6_withoutBit 0 [.int a0, .int a1] [] μ Q := (gd_blk [(.iload_n 0, 1, 0, 0, 0, 0), (.iload_n 1, 1, 0, 0, 0, 0)] 2 (L' := [.int a0, .int a1]) (st' := [.int a1, .int a0]) (μ' := μ) (f := true) (by decide +kernel) rfl rfl (Exists.elim h (fun Q1 hc => gd_callS (st := [.int a0]) [.int a1] sS_6_205 (by decide +kernel) rfl rfl rfl  hc.1 (fun v μ1 hq => gd_weak (L' := [.int a0, .int a1]) ⟨Or.inr rfl, ⟨Or.inr rfl, trivial⟩⟩ (hc.2 v μ1 hq)))))
theorem Ct_X6_withoutBit {l : Launch} {ω : Wd} {a0 a1 : Int32} {μ : Mm} {Q : Option Value → Mm → Prop} (h : ∃ Q1, Ctr l ω M_X6_lowBits [.int a1] μ Q1 ∧ ∀ v μ1, Q1 v μ1 → Good l ω M_X6_withoutBit 5 [.int a0, .int a1] (v.toList ++ [.int a0]) μ1 Q) : Ctr l ω M_X6_withoutBit [.int a0, .int a1] μ Q := ctr_of (by decide +kernel) rfl (Nat.le_of_ble_eq_true rfl) (Tr_X6_withoutBit_0 h)
theorem Tr_X6_withoutBit_5 {l : Launch} {ω : Wd} {a0 a1 s0 s1 : Int32} {μ : Mm} {Q : Option Value → Mm → Prop} (h : Q (some (.int ((s0 &&& s1) ||| ((a0 >>> ((a1 + (nI 1)) &&& 31)) <<< (a1 &&& 31))))) μ) : Good l ω M_X6_withoutBit 5 [.int a0, .int a1] [.int s1, .int s0] μ Q := (gd_blk [(.iand, 1, 0, 0, 0, 0), (.iload_n 0, 1, 0, 0, 0, 0), (.iload_n 1, 1, 0, 0, 0, 0), (.iconst 1, 1, 0, 0, 0, 0), (.iadd, 1, 0, 0, 0, 0)] 10 (L' := [.int a0, .int a1]) (st' := [.int (a1 + (nI 1)), .int a0, .int (s0 &&& s1)]) (μ' := μ) (f := true) (by decide +kernel) rfl rfl (gd_blk [(.ishr, 1, 0, 0, 0, 0), (.iload_n 1, 1, 0, 0, 0, 0), (.ishl, 1, 0, 0, 0, 0), (.ior, 1, 0, 0, 0, 0)] 14 (L' := [.int a0, .int a1]) (st' := [.int ((s0 &&& s1) ||| ((a0 >>> ((a1 + (nI 1)) &&& 31)) <<< (a1 &&& 31)))]) (μ' := μ) (f := true) (by decide +kernel) rfl rfl (gd_iret (ty := .int) (by decide +kernel) rfl rfl h)))
theorem Tr_X6_withClearBit_0 {l : Launch} {ω : Wd} {a0 a1 : Int32} {μ : Mm} {Q : Option Value → Mm → Prop} (h : ∃ Q1, Ctr l ω M_X6_lowBits [.int a1] μ Q1 ∧ ∀ v μ1, Q1 v μ1 → Good l ω M_X6_withClearBit 5 [.int a0, .int a1] (v.toList ++ [.int a0]) μ1 Q) : Good l ω M_X6_withClearBit 0 [.int a0, .int a1] [] μ Q := (gd_blk [(.iload_n 0, 1, 0, 0, 0, 0), (.iload_n 1, 1, 0, 0, 0, 0)] 2 (L' := [.int a0, .int a1]) (st' := [.int a1, .int a0]) (μ' := μ) (f := true) (by decide +kernel) rfl rfl (Exists.elim h (fun Q1 hc => gd_callS (st := [.int a0]) [.int a1] sS_6_205 (by decide +kernel) rfl rfl rfl  hc.1 (fun v μ1 hq => gd_weak (L' := [.int a0, .int a1]) ⟨Or.inr rfl, ⟨Or.inr rfl, trivial⟩⟩ (hc.2 v μ1 hq)))))
theorem Ct_X6_withClearBit {l : Launch} {ω : Wd} {a0 a1 : Int32} {μ : Mm} {Q : Option Value → Mm → Prop} (h : ∃ Q1, Ctr l ω M_X6_lowBits [.int a1] μ Q1 ∧ ∀ v μ1, Q1 v μ1 → Good l ω M_X6_withClearBit 5 [.int a0, .int a1] (v.toList ++ [.int a0]) μ1 Q) : Ctr l ω M_X6_withClearBit [.int a0, .int a1] μ Q := ctr_of (by decide +kernel) rfl (Nat.le_of_ble_eq_true rfl) (Tr_X6_withClearBit_0 h)
theorem Tr_X6_withClearBit_5 {l : Launch} {ω : Wd} {a0 a1 s0 s1 : Int32} {μ : Mm} {Q : Option Value → Mm → Prop} (h : Q (some (.int ((s0 &&& s1) ||| ((a0 >>> (a1 &&& 31)) <<< ((a1 + (nI 1)) &&& 31))))) μ) : Good l ω M_X6_withClearBit 5 [.int a0, .int a1] [.int s1, .int s0] μ Q := (gd_blk [(.iand, 1, 0, 0, 0, 0), (.iload_n 0, 1, 0, 0, 0, 0), (.iload_n 1, 1, 0, 0, 0, 0), (.ishr, 1, 0, 0, 0, 0), (.iload_n 1, 1, 0, 0, 0, 0)] 10 (L' := [.int a0, .int a1]) (st' := [.int a1, .int (a0 >>> (a1 &&& 31)), .int (s0 &&& s1)]) (μ' := μ) (f := true) (by decide +kernel) rfl rfl (gd_blk [(.iconst 1, 1, 0, 0, 0, 0), (.iadd, 1, 0, 0, 0, 0), (.ishl, 1, 0, 0, 0, 0), (.ior, 1, 0, 0, 0, 0)] 14 (L' := [.int a0, .int a1]) (st' := [.int ((s0 &&& s1) ||| ((a0 >>> (a1 &&& 31)) <<< ((a1 + (nI 1)) &&& 31)))]) (μ' := μ) (f := true) (by decide +kernel) rfl rfl (gd_iret (ty := .int) (by decide +kernel) rfl rfl h)))
theorem Tr_X6_gatherBits_0 {l : Launch} {ω : Wd} {a0 a1 : Int32} {μ : Mm} {Q : Option Value → Mm → Prop} (h : Good l ω M_X6_gatherBits 4 [.int a0, .int a1, .int (nI 0), .int (nI 0)] [] μ Q) : Good l ω M_X6_gatherBits 0 [.int a0, .int a1, .null, .null] [] μ Q := (gd_blk [(.iconst 0, 1, 0, 0, 0, 0), (.istore_n 2, 1, 0, 0, 0, 0), (.iconst 0, 1, 0, 0, 0, 0), (.istore_n 3, 1, 0, 0, 0, 0)] 4 (L' := [.int a0, .int a1, .int (nI 0), .int (nI 0)]) (st' := []) (μ' := μ) (f := true) (by decide +kernel) rfl rfl (gd_weak (L' := [.int a0, .int a1, .int (nI 0), .int (nI 0)]) ⟨Or.inr rfl, ⟨Or.inr rfl, ⟨Or.inr rfl, ⟨Or.inr rfl, trivial⟩⟩⟩⟩ h))
theorem Ct_X6_gatherBits {l : Launch} {ω : Wd} {a0 a1 : Int32} {μ : Mm} {Q : Option Value → Mm → Prop} (h : Good l ω M_X6_gatherBits 4 [.int a0, .int a1, .int (nI 0), .int (nI 0)] [] μ Q) : Ctr l ω M_X6_gatherBits [.int a0, .int a1] μ Q := ctr_of (by decide +kernel) rfl (Nat.le_of_ble_eq_true rfl) (Tr_X6_gatherBits_0 h)
theorem Tr_X6_gatherBits_4 {l : Launch} {ω : Wd} {a0 a1 a2 a3 : Int32} {μ : Mm} {Q : Option Value → Mm → Prop} (h : (((nI 6) ≤ a3 → (Q (some (.int a2)) μ)) ∧ (¬ ((nI 6) ≤ a3) → (∃ Q1, Ctr l ω M_X6_hasBit [.int a1, .int a3] μ Q1 ∧ ∀ v μ1, Q1 v μ1 → Good l ω M_X6_gatherBits 15 [.int a0, .int a1, .int a2, .int a3] (v.toList ++ []) μ1 Q)))) : Good l ω M_X6_gatherBits 4 [.int a0, .int a1, .int a2, .int a3] [] μ Q := (gd_blk [(.iload_n 3, 1, 0, 0, 0, 0), (.bipush 6, 2, 0, 0, 0, 0)] 7 (L' := [.int a0, .int a1, .int a2, .int a3]) (st' := [.int (nI 6), .int a3]) (μ' := μ) (f := true) (by decide +kernel) rfl rfl (gd_icmp (cd := .ge) (off := 35) (tgt := 42) (by decide +kernel) (by decide) (fun g1 => (gd_blk [(.iload_n 2, 1, 0, 0, 0, 0)] 43 (L' := [.int a0, .int a1, .int a2, .int a3]) (st' := [.int a2]) (μ' := μ) (f := true) (by decide +kernel) rfl rfl (gd_iret (ty := .int) (by decide +kernel) rfl rfl (h.1 g1)))) (fun g1 => (gd_blk [(.iload_n 1, 1, 0, 0, 0, 0), (.iload_n 3, 1, 0, 0, 0, 0)] 12 (L' := [.int a0, .int a1, .int a2, .int a3]) (st' := [.int a3, .int a1]) (μ' := μ) (f := true) (by decide +kernel) rfl rfl (Exists.elim (h.2 g1) (fun Q1 hc => gd_callS (st := []) [.int a1, .int a3] sS_6_219 (by decide +kernel) rfl rfl rfl  hc.1 (fun v μ1 hq => gd_weak (L' := [.int a0, .int a1, .int a2, .int a3]) ⟨Or.inr rfl, ⟨Or.inr rfl, ⟨Or.inr rfl, ⟨Or.inr rfl, trivial⟩⟩⟩⟩ (hc.2 v μ1 hq))))))))
theorem Tr_X6_gatherBits_15 {l : Launch} {ω : Wd} {a0 a1 a2 a3 s0 : Int32} {μ : Mm} {Q : Option Value → Mm → Prop} (h : ((s0 = 0 → (Good l ω M_X6_gatherBits 4 [.int a0, .int a1, .int a2, .int (a3 + (nI 1))] [] μ Q)) ∧ (¬ (s0 = 0) → (∃ Q1, Ctr l ω M_X6_hasBit [.int a0, .int a3] μ Q1 ∧ ∀ v μ1, Q1 v μ1 → Good l ω M_X6_gatherBits 23 [.int a0, .int a1, .int a2, .int a3] (v.toList ++ []) μ1 Q)))) : Good l ω M_X6_gatherBits 15 [.int a0, .int a1, .int a2, .int a3] [.int s0] μ Q := (gd_if (cd := .eq) (off := 21) (tgt := 36) (by decide +kernel) (by decide) (fun g2 => (gd_blk [(.iinc 3 1, 3, 0, 0, 0, 0)] 39 (L' := [.int a0, .int a1, .int a2, .int (a3 + (nI 1))]) (st' := []) (μ' := μ) (f := true) (by decide +kernel) rfl rfl (gd_goto (off := (-35)) (tgt := 4) (by decide +kernel) (by decide) (gd_weak (L' := [.int a0, .int a1, .int a2, .int (a3 + (nI 1))]) ⟨Or.inr rfl, ⟨Or.inr rfl, ⟨Or.inr rfl, ⟨Or.inr rfl, trivial⟩⟩⟩⟩ (h.1 g2))))) (fun g2 => (gd_blk [(.iload_n 0, 1, 0, 0, 0, 0), (.iload_n 3, 1, 0, 0, 0, 0)] 20 (L' := [.int a0, .int a1, .int a2, .int a3]) (st' := [.int a3, .int a0]) (μ' := μ) (f := true) (by decide +kernel) rfl rfl (Exists.elim (h.2 g2) (fun Q1 hc => gd_callS (st := []) [.int a0, .int a3] sS_6_219 (by decide +kernel) rfl rfl rfl  hc.1 (fun v μ1 hq => gd_weak (L' := [.int a0, .int a1, .int a2, .int a3]) ⟨Or.inr rfl, ⟨Or.inr rfl, ⟨Or.inr rfl, ⟨Or.inr rfl, trivial⟩⟩⟩⟩ (hc.2 v μ1 hq)))))))
theorem Tr_X6_gatherBits_23 {l : Launch} {ω : Wd} {a0 a1 a2 a3 s0 : Int32} {μ : Mm} {Q : Option Value → Mm → Prop} (h : ((s0 = 0 → (Good l ω M_X6_gatherBits 4 [.int a0, .int a1, .int a2, .int (a3 + (nI 1))] [] μ Q)) ∧ (¬ (s0 = 0) → (∃ Q1, Ctr l ω M_X6_numberAt [.int a1, .int a3] μ Q1 ∧ ∀ v μ1, Q1 v μ1 → Good l ω M_X6_gatherBits 33 [.int a0, .int a1, .null, .int a3] (v.toList ++ [.int (nI 1), .int a2]) μ1 Q)))) : Good l ω M_X6_gatherBits 23 [.int a0, .int a1, .int a2, .int a3] [.int s0] μ Q := (gd_if (cd := .eq) (off := 13) (tgt := 36) (by decide +kernel) (by decide) (fun g3 => (gd_blk [(.iinc 3 1, 3, 0, 0, 0, 0)] 39 (L' := [.int a0, .int a1, .int a2, .int (a3 + (nI 1))]) (st' := []) (μ' := μ) (f := true) (by decide +kernel) rfl rfl (gd_goto (off := (-35)) (tgt := 4) (by decide +kernel) (by decide) (gd_weak (L' := [.int a0, .int a1, .int a2, .int (a3 + (nI 1))]) ⟨Or.inr rfl, ⟨Or.inr rfl, ⟨Or.inr rfl, ⟨Or.inr rfl, trivial⟩⟩⟩⟩ (h.1 g3))))) (fun g3 => (gd_blk [(.iload_n 2, 1, 0, 0, 0, 0), (.iconst 1, 1, 0, 0, 0, 0), (.iload_n 1, 1, 0, 0, 0, 0), (.iload_n 3, 1, 0, 0, 0, 0)] 30 (L' := [.int a0, .int a1, .int a2, .int a3]) (st' := [.int a3, .int a1, .int (nI 1), .int a2]) (μ' := μ) (f := true) (by decide +kernel) rfl rfl (Exists.elim (h.2 g3) (fun Q1 hc => gd_callS (st := [.int (nI 1), .int a2]) [.int a1, .int a3] sS_6_223 (by decide +kernel) rfl rfl rfl  hc.1 (fun v μ1 hq => gd_weak (L' := [.int a0, .int a1, .null, .int a3]) ⟨Or.inr rfl, ⟨Or.inr rfl, ⟨Or.inl rfl, ⟨Or.inr rfl, trivial⟩⟩⟩⟩ (hc.2 v μ1 hq)))))))
theorem Tr_X6_gatherBits_33 {l : Launch} {ω : Wd} {a0 a1 a3 s0 s1 s2 : Int32} {μ : Mm} {Q : Option Value → Mm → Prop} (h : Good l ω M_X6_gatherBits 4 [.int a0, .int a1, .int (s0 ||| (s1 <<< (s2 &&& 31))), .int (a3 + (nI 1))] [] μ Q) : Good l ω M_X6_gatherBits 33 [.int a0, .int a1, .null, .int a3] [.int s2, .int s1, .int s0] μ Q := (gd_blk [(.ishl, 1, 0, 0, 0, 0), (.ior, 1, 0, 0, 0, 0), (.istore_n 2, 1, 0, 0, 0, 0), (.iinc 3 1, 3, 0, 0, 0, 0)] 39 (L' := [.int a0, .int a1, .int (s0 ||| (s1 <<< (s2 &&& 31))), .int (a3 + (nI 1))]) (st' := []) (μ' := μ) (f := true) (by decide +kernel) rfl rfl (gd_goto (off := (-35)) (tgt := 4) (by decide +kernel) (by decide) (gd_weak (L' := [.int a0, .int a1, .int (s0 ||| (s1 <<< (s2 &&& 31))), .int (a3 + (nI 1))]) ⟨Or.inr rfl, ⟨Or.inr rfl, ⟨Or.inr rfl, ⟨Or.inr rfl, trivial⟩⟩⟩⟩ h)))
theorem Tr_X6_spreadBits_0 {l : Launch} {ω : Wd} {a0 a1 : Int32} {μ : Mm} {Q : Option Value → Mm → Prop} (h : Good l ω M_X6_spreadBits 4 [.int a0, .int a1, .int (nI 0), .int (nI 0)] [] μ Q) : Good l ω M_X6_spreadBits 0 [.int a0, .int a1, .null, .null] [] μ Q := (gd_blk [(.iconst 0, 1, 0, 0, 0, 0), (.istore_n 2, 1, 0, 0, 0, 0), (.iconst 0, 1, 0, 0, 0, 0), (.istore_n 3, 1, 0, 0, 0, 0)] 4 (L' := [.int a0, .int a1, .int (nI 0), .int (nI 0)]) (st' := []) (μ' := μ) (f := true) (by decide +kernel) rfl rfl (gd_weak (L' := [.int a0, .int a1, .int (nI 0), .int (nI 0)]) ⟨Or.inr rfl, ⟨Or.inr rfl, ⟨Or.inr rfl, ⟨Or.inr rfl, trivial⟩⟩⟩⟩ h))
theorem Ct_X6_spreadBits {l : Launch} {ω : Wd} {a0 a1 : Int32} {μ : Mm} {Q : Option Value → Mm → Prop} (h : Good l ω M_X6_spreadBits 4 [.int a0, .int a1, .int (nI 0), .int (nI 0)] [] μ Q) : Ctr l ω M_X6_spreadBits [.int a0, .int a1] μ Q := ctr_of (by decide +kernel) rfl (Nat.le_of_ble_eq_true rfl) (Tr_X6_spreadBits_0 h)
theorem Tr_X6_spreadBits_4 {l : Launch} {ω : Wd} {a0 a1 a2 a3 : Int32} {μ : Mm} {Q : Option Value → Mm → Prop} (h : (((nI 6) ≤ a3 → (Q (some (.int a2)) μ)) ∧ (¬ ((nI 6) ≤ a3) → (∃ Q1, Ctr l ω M_X6_hasBit [.int a1, .int a3] μ Q1 ∧ ∀ v μ1, Q1 v μ1 → Good l ω M_X6_spreadBits 15 [.int a0, .int a1, .int a2, .int a3] (v.toList ++ []) μ1 Q)))) : Good l ω M_X6_spreadBits 4 [.int a0, .int a1, .int a2, .int a3] [] μ Q := (gd_blk [(.iload_n 3, 1, 0, 0, 0, 0), (.bipush 6, 2, 0, 0, 0, 0)] 7 (L' := [.int a0, .int a1, .int a2, .int a3]) (st' := [.int (nI 6), .int a3]) (μ' := μ) (f := true) (by decide +kernel) rfl rfl (gd_icmp (cd := .ge) (off := 35) (tgt := 42) (by decide +kernel) (by decide) (fun g1 => (gd_blk [(.iload_n 2, 1, 0, 0, 0, 0)] 43 (L' := [.int a0, .int a1, .int a2, .int a3]) (st' := [.int a2]) (μ' := μ) (f := true) (by decide +kernel) rfl rfl (gd_iret (ty := .int) (by decide +kernel) rfl rfl (h.1 g1)))) (fun g1 => (gd_blk [(.iload_n 1, 1, 0, 0, 0, 0), (.iload_n 3, 1, 0, 0, 0, 0)] 12 (L' := [.int a0, .int a1, .int a2, .int a3]) (st' := [.int a3, .int a1]) (μ' := μ) (f := true) (by decide +kernel) rfl rfl (Exists.elim (h.2 g1) (fun Q1 hc => gd_callS (st := []) [.int a1, .int a3] sS_6_219 (by decide +kernel) rfl rfl rfl  hc.1 (fun v μ1 hq => gd_weak (L' := [.int a0, .int a1, .int a2, .int a3]) ⟨Or.inr rfl, ⟨Or.inr rfl, ⟨Or.inr rfl, ⟨Or.inr rfl, trivial⟩⟩⟩⟩ (hc.2 v μ1 hq))))))))
theorem Tr_X6_spreadBits_15 {l : Launch} {ω : Wd} {a0 a1 a2 a3 s0 : Int32} {μ : Mm} {Q : Option Value → Mm → Prop} (h : ((s0 = 0 → (Good l ω M_X6_spreadBits 4 [.int a0, .int a1, .int a2, .int (a3 + (nI 1))] [] μ Q)) ∧ (¬ (s0 = 0) → (∃ Q1, Ctr l ω M_X6_numberAt [.int a1, .int a3] μ Q1 ∧ ∀ v μ1, Q1 v μ1 → Good l ω M_X6_spreadBits 24 [.int a0, .int a1, .int a2, .int a3] (v.toList ++ [.int a0]) μ1 Q)))) : Good l ω M_X6_spreadBits 15 [.int a0, .int a1, .int a2, .int a3] [.int s0] μ Q := (gd_if (cd := .eq) (off := 21) (tgt := 36) (by decide +kernel) (by decide) (fun g2 => (gd_blk [(.iinc 3 1, 3, 0, 0, 0, 0)] 39 (L' := [.int a0, .int a1, .int a2, .int (a3 + (nI 1))]) (st' := []) (μ' := μ) (f := true) (by decide +kernel) rfl rfl (gd_goto (off := (-35)) (tgt := 4) (by decide +kernel) (by decide) (gd_weak (L' := [.int a0, .int a1, .int a2, .int (a3 + (nI 1))]) ⟨Or.inr rfl, ⟨Or.inr rfl, ⟨Or.inr rfl, ⟨Or.inr rfl, trivial⟩⟩⟩⟩ (h.1 g2))))) (fun g2 => (gd_blk [(.iload_n 0, 1, 0, 0, 0, 0), (.iload_n 1, 1, 0, 0, 0, 0), (.iload_n 3, 1, 0, 0, 0, 0)] 21 (L' := [.int a0, .int a1, .int a2, .int a3]) (st' := [.int a3, .int a1, .int a0]) (μ' := μ) (f := true) (by decide +kernel) rfl rfl (Exists.elim (h.2 g2) (fun Q1 hc => gd_callS (st := [.int a0]) [.int a1, .int a3] sS_6_223 (by decide +kernel) rfl rfl rfl  hc.1 (fun v μ1 hq => gd_weak (L' := [.int a0, .int a1, .int a2, .int a3]) ⟨Or.inr rfl, ⟨Or.inr rfl, ⟨Or.inr rfl, ⟨Or.inr rfl, trivial⟩⟩⟩⟩ (hc.2 v μ1 hq)))))))
theorem Tr_X6_spreadBits_24 {l : Launch} {ω : Wd} {a0 a1 a2 a3 s0 s1 : Int32} {μ : Mm} {Q : Option Value → Mm → Prop} (h : ∃ Q1, Ctr l ω M_X6_hasBit [.int s0, .int s1] μ Q1 ∧ ∀ v μ1, Q1 v μ1 → Good l ω M_X6_spreadBits 27 [.int a0, .int a1, .int a2, .int a3] (v.toList ++ []) μ1 Q) : Good l ω M_X6_spreadBits 24 [.int a0, .int a1, .int a2, .int a3] [.int s1, .int s0] μ Q := (Exists.elim h (fun Q1 hc => gd_callS (st := []) [.int s0, .int s1] sS_6_219 (by decide +kernel) rfl rfl rfl  hc.1 (fun v μ1 hq => gd_weak (L' := [.int a0, .int a1, .int a2, .int a3]) ⟨Or.inr rfl, ⟨Or.inr rfl, ⟨Or.inr rfl, ⟨Or.inr rfl, trivial⟩⟩⟩⟩ (hc.2 v μ1 hq))))
theorem Tr_X6_spreadBits_27 {l : Launch} {ω : Wd} {a0 a1 a2 a3 s0 : Int32} {μ : Mm} {Q : Option Value → Mm → Prop} (h : ((s0 = 0 → (Good l ω M_X6_spreadBits 4 [.int a0, .int a1, .int a2, .int (a3 + (nI 1))] [] μ Q)) ∧ (¬ (s0 = 0) → (Good l ω M_X6_spreadBits 4 [.int a0, .int a1, .int (a2 ||| ((nI 1) <<< (a3 &&& 31))), .int (a3 + (nI 1))] [] μ Q)))) : Good l ω M_X6_spreadBits 27 [.int a0, .int a1, .int a2, .int a3] [.int s0] μ Q := (gd_if (cd := .eq) (off := 9) (tgt := 36) (by decide +kernel) (by decide) (fun g3 => (gd_blk [(.iinc 3 1, 3, 0, 0, 0, 0)] 39 (L' := [.int a0, .int a1, .int a2, .int (a3 + (nI 1))]) (st' := []) (μ' := μ) (f := true) (by decide +kernel) rfl rfl (gd_goto (off := (-35)) (tgt := 4) (by decide +kernel) (by decide) (gd_weak (L' := [.int a0, .int a1, .int a2, .int (a3 + (nI 1))]) ⟨Or.inr rfl, ⟨Or.inr rfl, ⟨Or.inr rfl, ⟨Or.inr rfl, trivial⟩⟩⟩⟩ (h.1 g3))))) (fun g3 => (gd_blk [(.iload_n 2, 1, 0, 0, 0, 0), (.iconst 1, 1, 0, 0, 0, 0), (.iload_n 3, 1, 0, 0, 0, 0), (.ishl, 1, 0, 0, 0, 0), (.ior, 1, 0, 0, 0, 0)] 35 (L' := [.int a0, .int a1, .int a2, .int a3]) (st' := [.int (a2 ||| ((nI 1) <<< (a3 &&& 31)))]) (μ' := μ) (f := true) (by decide +kernel) rfl rfl (gd_blk [(.istore_n 2, 1, 0, 0, 0, 0), (.iinc 3 1, 3, 0, 0, 0, 0)] 39 (L' := [.int a0, .int a1, .int (a2 ||| ((nI 1) <<< (a3 &&& 31))), .int (a3 + (nI 1))]) (st' := []) (μ' := μ) (f := true) (by decide +kernel) rfl rfl (gd_goto (off := (-35)) (tgt := 4) (by decide +kernel) (by decide) (gd_weak (L' := [.int a0, .int a1, .int (a2 ||| ((nI 1) <<< (a3 &&& 31))), .int (a3 + (nI 1))]) ⟨Or.inr rfl, ⟨Or.inr rfl, ⟨Or.inr rfl, ⟨Or.inr rfl, trivial⟩⟩⟩⟩ (h.2 g3)))))))
theorem Tr_X6_sign_0 {l : Launch} {ω : Wd} {a0 : Int32} {μ : Mm} {Q : Option Value → Mm → Prop} (h : ((¬ (a0 - a0 / (nI 2) * (nI 2)) = 0 → (Q (some (.int (-1))) μ)) ∧ (¬ (¬ (a0 - a0 / (nI 2) * (nI 2)) = 0) → (Q (some (.int (nI 1))) μ)))) : Good l ω M_X6_sign 0 [.int a0] [] μ Q := (gd_blk [(.iload_n 0, 1, 0, 0, 0, 0), (.iconst 2, 1, 0, 0, 0, 0), (.irem, 1, 0, 0, 0, 0)] 3 (L' := [.int a0]) (st' := [.int (a0 - a0 / (nI 2) * (nI 2))]) (μ' := μ) (f := true) (by decide +kernel) rfl rfl (gd_if (cd := .ne) (off := 7) (tgt := 10) (by decide +kernel) (by decide) (fun g1 => (gd_blk [(.iconst (-1), 1, 0, 0, 0, 0)] 11 (L' := [.int a0]) (st' := [.int (-1)]) (μ' := μ) (f := true) (by decide +kernel) rfl rfl (gd_iret (ty := .int) (by decide +kernel) rfl rfl (h.1 g1)))) (fun g1 => (gd_blk [(.iconst 1, 1, 0, 0, 0, 0)] 7 (L' := [.int a0]) (st' := [.int (nI 1)]) (μ' := μ) (f := true) (by decide +kernel) rfl rfl (gd_goto (off := 4) (tgt := 11) (by decide +kernel) (by decide) (gd_iret (ty := .int) (by decide +kernel) rfl rfl (h.2 g1)))))))
theorem Ct_X6_sign {l : Launch} {ω : Wd} {a0 : Int32} {μ : Mm} {Q : Option Value → Mm → Prop} (h : ((¬ (a0 - a0 / (nI 2) * (nI 2)) = 0 → (Q (some (.int (-1))) μ)) ∧ (¬ (¬ (a0 - a0 / (nI 2) * (nI 2)) = 0) → (Q (some (.int (nI 1))) μ)))) : Ctr l ω M_X6_sign [.int a0] μ Q := ctr_of (by decide +kernel) rfl (Nat.le_of_ble_eq_true rfl) (Tr_X6_sign_0 h)
theorem Tr_X6_gcd_0 {l : Launch} {ω : Wd} {a0 a2 : Int64} {μ : Mm} {Q : Option Value → Mm → Prop} (h : Good l ω M_X6_gcd 9 [.null, .null, .null, .null, .long a0, .null, .long a2, .null, .int (nI 0), .null, .null] [] μ Q) : Good l ω M_X6_gcd 0 [.long a0, .null, .long a2, .null, .null, .null, .null, .null, .null, .null, .null] [] μ Q := (gd_blk [(.lload_n 0, 1, 0, 0, 0, 0), (.lstore 4, 2, 0, 0, 0, 0), (.lload_n 2, 1, 0, 0, 0, 0), (.lstore 6, 2, 0, 0, 0, 0), (.iconst 0, 1, 0, 0, 0, 0)] 7 (L' := [.long a0, .null, .long a2, .null, .long a0, .null, .long a2, .null, .null, .null, .null]) (st' := [.int (nI 0)]) (μ' := μ) (f := true) (by decide +kernel) rfl rfl (gd_blk [(.istore 8, 2, 0, 0, 0, 0)] 9 (L' := [.long a0, .null, .long a2, .null, .long a0, .null, .long a2, .null, .int (nI 0), .null, .null]) (st' := []) (μ' := μ) (f := true) (by decide +kernel) rfl rfl (gd_weak (L' := [.null, .null, .null, .null, .long a0, .null, .long a2, .null, .int (nI 0), .null, .null]) ⟨Or.inl rfl, ⟨Or.inl rfl, ⟨Or.inl rfl, ⟨Or.inl rfl, ⟨Or.inr rfl, ⟨Or.inl rfl, ⟨Or.inr rfl, ⟨Or.inl rfl, ⟨Or.inr rfl, ⟨Or.inl rfl, ⟨Or.inl rfl, trivial⟩⟩⟩⟩⟩⟩⟩⟩⟩⟩⟩ h)))
theorem Ct_X6_gcd {l : Launch} {ω : Wd} {a0 a2 : Int64} {μ : Mm} {Q : Option Value → Mm → Prop} (h : Good l ω M_X6_gcd 9 [.null, .null, .null, .null, .long a0, .null, .long a2, .null, .int (nI 0), .null, .null] [] μ Q) : Ctr l ω M_X6_gcd [.long a0, .long a2] μ Q := ctr_of (by decide +kernel) rfl (Nat.le_of_ble_eq_true rfl) (Tr_X6_gcd_0 h)
theorem Tr_X6_gcd_9 {l : Launch} {ω : Wd} {a8 : Int32} {a4 a6 : Int64} {μ : Mm} {Q : Option Value → Mm → Prop} (h : (((nI 200) ≤ a8 → (Q (some (.long a4)) μ)) ∧ (¬ ((nI 200) ≤ a8) → ((((lg_cmp a6 (lN 0)) = 0 → (Q (some (.long a4)) μ)) ∧ (¬ ((lg_cmp a6 (lN 0)) = 0) → ((decide (¬ a6 = 0)) = true ∧ (Good l ω M_X6_gcd 9 [.null, .null, .null, .null, .long a6, .null, .long (a4 - a4 / a6 * a6), .null, .int (a8 + (nI 1)), .null, .null] [] μ Q)))))))) : Good l ω M_X6_gcd 9 [.null, .null, .null, .null, .long a4, .null, .long a6, .null, .int a8, .null, .null] [] μ Q := (gd_blk [(.iload 8, 2, 0, 0, 0, 0), (.sipush 200, 3, 0, 0, 0, 0)] 14 (L' := [.null, .null, .null, .null, .long a4, .null, .long a6, .null, .int a8, .null, .null]) (st' := [.int (nI 200), .int a8]) (μ' := μ) (f := true) (by decide +kernel) rfl rfl (gd_icmp (cd := .ge) (off := 31) (tgt := 45) (by decide +kernel) (by decide) (fun g2 => (gd_blk [(.lload 4, 2, 0, 0, 0, 0)] 47 (L' := [.null, .null, .null, .null, .long a4, .null, .long a6, .null, .int a8, .null, .null]) (st' := [.long a4]) (μ' := μ) (f := true) (by decide +kernel) rfl rfl (gd_lret (by decide +kernel) rfl (h.1 g2)))) (fun g2 => (gd_blk [(.lload 6, 2, 0, 0, 0, 0), (.lconst 0, 1, 0, 0, 0, 0), (.lcmp, 1, 0, 0, 0, 0)] 21 (L' := [.null, .null, .null, .null, .long a4, .null, .long a6, .null, .int a8, .null, .null]) (st' := [.int (lg_cmp a6 (lN 0))]) (μ' := μ) (f := true) (by decide +kernel) rfl rfl (gd_if (cd := .eq) (off := 24) (tgt := 45) (by decide +kernel) (by decide) (fun g1 => (gd_blk [(.lload 4, 2, 0, 0, 0, 0)] 47 (L' := [.null, .null, .null, .null, .long a4, .null, .long a6, .null, .int a8, .null, .null]) (st' := [.long a4]) (μ' := μ) (f := true) (by decide +kernel) rfl rfl (gd_lret (by decide +kernel) rfl ((h.2 g2).1 g1)))) (fun g1 => (gd_blk [(.lload 4, 2, 0, 0, 0, 0), (.lload 6, 2, 0, 0, 0, 0), (.lrem, 1, 0, 0, 0, 0), (.lstore 9, 2, 0, 0, 0, 0), (.lload 6, 2, 0, 0, 0, 0)] 33 (L' := [.null, .null, .null, .null, .long a4, .null, .long a6, .null, .int a8, .long (a4 - a4 / a6 * a6), .null]) (st' := [.long a6]) (μ' := μ) (f := ((decide (¬ a6 = 0)) && true)) (by decide +kernel) rfl (fa ((h.2 g2).2 g1).1 rfl) (gd_blk [(.lstore 4, 2, 0, 0, 0, 0), (.lload 9, 2, 0, 0, 0, 0), (.lstore 6, 2, 0, 0, 0, 0), (.iinc 8 1, 3, 0, 0, 0, 0)] 42 (L' := [.null, .null, .null, .null, .long a6, .null, .long (a4 - a4 / a6 * a6), .null, .int (a8 + (nI 1)), .long (a4 - a4 / a6 * a6), .null]) (st' := []) (μ' := μ) (f := true) (by decide +kernel) rfl rfl (gd_goto (off := (-33)) (tgt := 9) (by decide +kernel) (by decide) (gd_weak (L' := [.null, .null, .null, .null, .long a6, .null, .long (a4 - a4 / a6 * a6), .null, .int (a8 + (nI 1)), .null, .null]) ⟨Or.inl rfl, ⟨Or.inl rfl, ⟨Or.inl rfl, ⟨Or.inl rfl, ⟨Or.inr rfl, ⟨Or.inl rfl, ⟨Or.inr rfl, ⟨Or.inl rfl, ⟨Or.inr rfl, ⟨Or.inl rfl, ⟨Or.inl rfl, trivial⟩⟩⟩⟩⟩⟩⟩⟩⟩⟩⟩ ((h.2 g2).2 g1).2))))))))))
theorem Tr_X6_binomial_0 {l : Launch} {ω : Wd} {a0 a1 : Int32} {μ : Mm} {Q : Option Value → Mm → Prop} (h : Good l ω M_X6_binomial 4 [.int a0, .int a1, .int (nI 1), .int (nI 1)] [] μ Q) : Good l ω M_X6_binomial 0 [.int a0, .int a1, .null, .null] [] μ Q := (gd_blk [(.iconst 1, 1, 0, 0, 0, 0), (.istore_n 2, 1, 0, 0, 0, 0), (.iconst 1, 1, 0, 0, 0, 0), (.istore_n 3, 1, 0, 0, 0, 0)] 4 (L' := [.int a0, .int a1, .int (nI 1), .int (nI 1)]) (st' := []) (μ' := μ) (f := true) (by decide +kernel) rfl rfl (gd_weak (L' := [.int a0, .int a1, .int (nI 1), .int (nI 1)]) ⟨Or.inr rfl, ⟨Or.inr rfl, ⟨Or.inr rfl, ⟨Or.inr rfl, trivial⟩⟩⟩⟩ h))
theorem Ct_X6_binomial {l : Launch} {ω : Wd} {a0 a1 : Int32} {μ : Mm} {Q : Option Value → Mm → Prop} (h : Good l ω M_X6_binomial 4 [.int a0, .int a1, .int (nI 1), .int (nI 1)] [] μ Q) : Ctr l ω M_X6_binomial [.int a0, .int a1] μ Q := ctr_of (by decide +kernel) rfl (Nat.le_of_ble_eq_true rfl) (Tr_X6_binomial_0 h)
theorem Tr_X6_binomial_4 {l : Launch} {ω : Wd} {a0 a1 a2 a3 : Int32} {μ : Mm} {Q : Option Value → Mm → Prop} (h : ((a1 < a3 → (Q (some (.int a2)) μ)) ∧ (¬ (a1 < a3) → ((decide (¬ a3 = 0)) = true ∧ (Good l ω M_X6_binomial 4 [.int a0, .int a1, .int ((a2 * ((a0 - a3) + (nI 1))) / a3), .int (a3 + (nI 1))] [] μ Q))))) : Good l ω M_X6_binomial 4 [.int a0, .int a1, .int a2, .int a3] [] μ Q := (gd_blk [(.iload_n 3, 1, 0, 0, 0, 0), (.iload_n 1, 1, 0, 0, 0, 0)] 6 (L' := [.int a0, .int a1, .int a2, .int a3]) (st' := [.int a1, .int a3]) (μ' := μ) (f := true) (by decide +kernel) rfl rfl (gd_icmp (cd := .gt) (off := 19) (tgt := 25) (by decide +kernel) (by decide) (fun g1 => (gd_blk [(.iload_n 2, 1, 0, 0, 0, 0)] 26 (L' := [.int a0, .int a1, .int a2, .int a3]) (st' := [.int a2]) (μ' := μ) (f := true) (by decide +kernel) rfl rfl (gd_iret (ty := .int) (by decide +kernel) rfl rfl (h.1 g1)))) (fun g1 => (gd_blk [(.iload_n 2, 1, 0, 0, 0, 0), (.iload_n 0, 1, 0, 0, 0, 0), (.iload_n 3, 1, 0, 0, 0, 0), (.isub, 1, 0, 0, 0, 0), (.iconst 1, 1, 0, 0, 0, 0)] 14 (L' := [.int a0, .int a1, .int a2, .int a3]) (st' := [.int (nI 1), .int (a0 - a3), .int a2]) (μ' := μ) (f := true) (by decide +kernel) rfl rfl (gd_blk [(.iadd, 1, 0, 0, 0, 0), (.imul, 1, 0, 0, 0, 0), (.iload_n 3, 1, 0, 0, 0, 0), (.idiv, 1, 0, 0, 0, 0), (.istore_n 2, 1, 0, 0, 0, 0)] 19 (L' := [.int a0, .int a1, .int ((a2 * ((a0 - a3) + (nI 1))) / a3), .int a3]) (st' := []) (μ' := μ) (f := ((decide (¬ a3 = 0)) && true)) (by decide +kernel) rfl (fa (h.2 g1).1 rfl) (gd_blk [(.iinc 3 1, 3, 0, 0, 0, 0)] 22 (L' := [.int a0, .int a1, .int ((a2 * ((a0 - a3) + (nI 1))) / a3), .int (a3 + (nI 1))]) (st' := []) (μ' := μ) (f := true) (by decide +kernel) rfl rfl (gd_goto (off := (-18)) (tgt := 4) (by decide +kernel) (by decide) (gd_weak (L' := [.int a0, .int a1, .int ((a2 * ((a0 - a3) + (nI 1))) / a3), .int (a3 + (nI 1))]) ⟨Or.inr rfl, ⟨Or.inr rfl, ⟨Or.inr rfl, ⟨Or.inr rfl, trivial⟩⟩⟩⟩ (h.2 g1).2))))))))
theorem Tr_X7_bits_0 {l : Launch} {ω : Wd} {a0 : Int32} {μ : Mm} {Q : Option Value → Mm → Prop} (h : Good l ω M_X7_bits 4 [.null, .int (nI 0), .int a0] [] μ Q) : Good l ω M_X7_bits 0 [.int a0, .null, .null] [] μ Q := (gd_blk [(.iconst 0, 1, 0, 0, 0, 0), (.istore_n 1, 1, 0, 0, 0, 0), (.iload_n 0, 1, 0, 0, 0, 0), (.istore_n 2, 1, 0, 0, 0, 0)] 4 (L' := [.int a0, .int (nI 0), .int a0]) (st' := []) (μ' := μ) (f := true) (by decide +kernel) rfl rfl (gd_weak (L' := [.null, .int (nI 0), .int a0]) ⟨Or.inl rfl, ⟨Or.inr rfl, ⟨Or.inr rfl, trivial⟩⟩⟩ h))
theorem Ct_X7_bits {l : Launch} {ω : Wd} {a0 : Int32} {μ : Mm} {Q : Option Value → Mm → Prop} (h : Good l ω M_X7_bits 4 [.null, .int (nI 0), .int a0] [] μ Q) : Ctr l ω M_X7_bits [.int a0] μ Q := ctr_of (by decide +kernel) rfl (Nat.le_of_ble_eq_true rfl) (Tr_X7_bits_0 h)
theorem Tr_X7_bits_4 {l : Launch} {ω : Wd} {a1 a2 : Int32} {μ : Mm} {Q : Option Value → Mm → Prop} (h : ((a2 ≤ 0 → (Q (some (.int a1)) μ)) ∧ (¬ (a2 ≤ 0) → (Good l ω M_X7_bits 4 [.null, .int (a1 + (a2 &&& (nI 1))), .int (a2 >>> ((nI 1) &&& 31))] [] μ Q)))) : Good l ω M_X7_bits 4 [.null, .int a1, .int a2] [] μ Q := (gd_blk [(.iload_n 2, 1, 0, 0, 0, 0)] 5 (L' := [.null, .int a1, .int a2]) (st' := [.int a2]) (μ' := μ) (f := true) (by decide +kernel) rfl rfl (gd_if (cd := .le) (off := 16) (tgt := 21) (by decide +kernel) (by decide) (fun g1 => (gd_blk [(.iload_n 1, 1, 0, 0, 0, 0)] 22 (L' := [.null, .int a1, .int a2]) (st' := [.int a1]) (μ' := μ) (f := true) (by decide +kernel) rfl rfl (gd_iret (ty := .int) (by decide +kernel) rfl rfl (h.1 g1)))) (fun g1 => (gd_blk [(.iload_n 1, 1, 0, 0, 0, 0), (.iload_n 2, 1, 0, 0, 0, 0), (.iconst 1, 1, 0, 0, 0, 0), (.iand, 1, 0, 0, 0, 0), (.iadd, 1, 0, 0, 0, 0)] 13 (L' := [.null, .int a1, .int a2]) (st' := [.int (a1 + (a2 &&& (nI 1)))]) (μ' := μ) (f := true) (by decide +kernel) rfl rfl (gd_blk [(.istore_n 1, 1, 0, 0, 0, 0), (.iload_n 2, 1, 0, 0, 0, 0), (.iconst 1, 1, 0, 0, 0, 0), (.ishr, 1, 0, 0, 0, 0), (.istore_n 2, 1, 0, 0, 0, 0)] 18 (L' := [.null, .int (a1 + (a2 &&& (nI 1))), .int (a2 >>> ((nI 1) &&& 31))]) (st' := []) (μ' := μ) (f := true) (by decide +kernel) rfl rfl (gd_goto (off := (-14)) (tgt := 4) (by decide +kernel) (by decide) (gd_weak (L' := [.null, .int (a1 + (a2 &&& (nI 1))), .int (a2 >>> ((nI 1) &&& 31))]) ⟨Or.inl rfl, ⟨Or.inr rfl, ⟨Or.inr rfl, trivial⟩⟩⟩ (h.2 g1))))))))
theorem Tr_X7_in_0 {l : Launch} {ω : Wd} {a0 a1 a2 : Int32} {μ : Mm} {Q : Option Value → Mm → Prop} (h : ((a0 < a1 → (Q (some (.int (nI 0))) μ)) ∧ (¬ (a0 < a1) → (((a2 < a0 → (Q (some (.int (nI 0))) μ)) ∧ (¬ (a2 < a0) → (Q (some (.int (nI 1))) μ))))))) : Good l ω M_X7_in 0 [.int a0, .int a1, .int a2] [] μ Q := (gd_blk [(.iload_n 0, 1, 0, 0, 0, 0), (.iload_n 1, 1, 0, 0, 0, 0)] 2 (L' := [.int a0, .int a1, .int a2]) (st' := [.int a1, .int a0]) (μ' := μ) (f := true) (by decide +kernel) rfl rfl (gd_icmp (cd := .lt) (off := 12) (tgt := 14) (by decide +kernel) (by decide) (fun g2 => (gd_blk [(.iconst 0, 1, 0, 0, 0, 0)] 15 (L' := [.int a0, .int a1, .int a2]) (st' := [.int (nI 0)]) (μ' := μ) (f := true) (by decide +kernel) rfl rfl (gd_iret (ty := .boolean) (by decide +kernel) rfl (by decide) (h.1 g2)))) (fun g2 => (gd_blk [(.iload_n 0, 1, 0, 0, 0, 0), (.iload_n 2, 1, 0, 0, 0, 0)] 7 (L' := [.int a0, .int a1, .int a2]) (st' := [.int a2, .int a0]) (μ' := μ) (f := true) (by decide +kernel) rfl rfl (gd_icmp (cd := .gt) (off := 7) (tgt := 14) (by decide +kernel) (by decide) (fun g1 => (gd_blk [(.iconst 0, 1, 0, 0, 0, 0)] 15 (L' := [.int a0, .int a1, .int a2]) (st' := [.int (nI 0)]) (μ' := μ) (f := true) (by decide +kernel) rfl rfl (gd_iret (ty := .boolean) (by decide +kernel) rfl (by decide) ((h.2 g2).1 g1)))) (fun g1 => (gd_blk [(.iconst 1, 1, 0, 0, 0, 0)] 11 (L' := [.int a0, .int a1, .int a2]) (st' := [.int (nI 1)]) (μ' := μ) (f := true) (by decide +kernel) rfl rfl (gd_goto (off := 4) (tgt := 15) (by decide +kernel) (by decide) (gd_iret (ty := .boolean) (by decide +kernel) rfl (by decide) ((h.2 g2).2 g1))))))))))
theorem Ct_X7_in {l : Launch} {ω : Wd} {a0 a1 a2 : Int32} {μ : Mm} {Q : Option Value → Mm → Prop} (h : ((a0 < a1 → (Q (some (.int (nI 0))) μ)) ∧ (¬ (a0 < a1) → (((a2 < a0 → (Q (some (.int (nI 0))) μ)) ∧ (¬ (a2 < a0) → (Q (some (.int (nI 1))) μ))))))) : Ctr l ω M_X7_in [.int a0, .int a1, .int a2] μ Q := ctr_of (by decide +kernel) rfl (Nat.le_of_ble_eq_true rfl) (Tr_X7_in_0 h)
theorem Tr_X7_full_0 {l : Launch} {ω : Wd} {a0 : Int32} {μ : Mm} {Q : Option Value → Mm → Prop} (h : Q (some (.int (((nI 1) <<< (a0 &&& 31)) - (nI 1)))) μ) : Good l ω M_X7_full 0 [.int a0] [] μ Q := (gd_blk [(.iconst 1, 1, 0, 0, 0, 0), (.iload_n 0, 1, 0, 0, 0, 0), (.ishl, 1, 0, 0, 0, 0), (.iconst 1, 1, 0, 0, 0, 0), (.isub, 1, 0, 0, 0, 0)] 5 (L' := [.int a0]) (st' := [.int (((nI 1) <<< (a0 &&& 31)) - (nI 1))]) (μ' := μ) (f := true) (by decide +kernel) rfl rfl (gd_iret (ty := .int) (by decide +kernel) rfl rfl h))
theorem Ct_X7_full {l : Launch} {ω : Wd} {a0 : Int32} {μ : Mm} {Q : Option Value → Mm → Prop} (h : Q (some (.int (((nI 1) <<< (a0 &&& 31)) - (nI 1)))) μ) : Ctr l ω M_X7_full [.int a0] μ Q := ctr_of (by decide +kernel) rfl (Nat.le_of_ble_eq_true rfl) (Tr_X7_full_0 h)
theorem Tr_X7_noCell_0 {l : Launch} {ω : Wd} {a1 : Int32} {μ : Mm} {Q : Option Value → Mm → Prop} (h : ∃ Q1, Ctr l ω M_X7_in [.int a1, .int (nI 0), .int ((ss_i μ 29 0) - (nI 1))] μ Q1 ∧ ∀ v μ1, Q1 v μ1 → Good l ω M_X7_noCell 11 [.null, .null] (v.toList ++ []) μ1 Q) : Good l ω M_X7_noCell 0 [.ref 29, .int a1] [] μ Q := (gd_blk [(.iload_n 1, 1, 0, 0, 0, 0), (.iconst 0, 1, 0, 0, 0, 0), (.aload_n 0, 1, 0, 0, 0, 0), (.getfield 75, 3, 7, 0, 0, 0), (.iconst 1, 1, 0, 0, 0, 0)] 7 (L' := [.ref 29, .int a1]) (st' := [.int (nI 1), .int (ss_i μ 29 0), .int (nI 0), .int a1]) (μ' := μ) (f := true) (by decide +kernel) rfl rfl (gd_blk [(.isub, 1, 0, 0, 0, 0)] 8 (L' := [.ref 29, .int a1]) (st' := [.int ((ss_i μ 29 0) - (nI 1)), .int (nI 0), .int a1]) (μ' := μ) (f := true) (by decide +kernel) rfl rfl (Exists.elim h (fun Q1 hc => gd_callS (st := []) [.int a1, .int (nI 0), .int ((ss_i μ 29 0) - (nI 1))] sS_7_79 (by decide +kernel) rfl rfl rfl  hc.1 (fun v μ1 hq => gd_weak (L' := [.null, .null]) ⟨Or.inl rfl, ⟨Or.inl rfl, trivial⟩⟩ (hc.2 v μ1 hq))))))
theorem Ct_X7_noCell {l : Launch} {ω : Wd} {a1 : Int32} {μ : Mm} {Q : Option Value → Mm → Prop} (h : ∃ Q1, Ctr l ω M_X7_in [.int a1, .int (nI 0), .int ((ss_i μ 29 0) - (nI 1))] μ Q1 ∧ ∀ v μ1, Q1 v μ1 → Good l ω M_X7_noCell 11 [.null, .null] (v.toList ++ []) μ1 Q) : Ctr l ω M_X7_noCell [.ref 29, .int a1] μ Q := ctr_of (by decide +kernel) rfl (Nat.le_of_ble_eq_true rfl) (Tr_X7_noCell_0 h)
theorem Tr_X7_noCell_11 {l : Launch} {ω : Wd} {s0 : Int32} {μ : Mm} {Q : Option Value → Mm → Prop} (h : ((¬ s0 = 0 → (Q (some (.int (nI 0))) μ)) ∧ (¬ (¬ s0 = 0) → (Q (some (.int (nI 1))) μ)))) : Good l ω M_X7_noCell 11 [.null, .null] [.int s0] μ Q := (gd_if (cd := .ne) (off := 7) (tgt := 18) (by decide +kernel) (by decide) (fun g1 => (gd_blk [(.iconst 0, 1, 0, 0, 0, 0)] 19 (L' := [.null, .null]) (st' := [.int (nI 0)]) (μ' := μ) (f := true) (by decide +kernel) rfl rfl (gd_iret (ty := .boolean) (by decide +kernel) rfl (by decide) (h.1 g1)))) (fun g1 => (gd_blk [(.iconst 1, 1, 0, 0, 0, 0)] 15 (L' := [.null, .null]) (st' := [.int (nI 1)]) (μ' := μ) (f := true) (by decide +kernel) rfl rfl (gd_goto (off := 4) (tgt := 19) (by decide +kernel) (by decide) (gd_iret (ty := .boolean) (by decide +kernel) rfl (by decide) (h.2 g1))))))
theorem Tr_X7_isMask_0 {l : Launch} {ω : Wd} {a1 a2 a3 : Int32} {μ : Mm} {Q : Option Value → Mm → Prop} (h : ∃ Q1, Ctr l ω M_X7_full [.int a2] μ Q1 ∧ ∀ v μ1, Q1 v μ1 → Good l ω M_X7_isMask 6 [.ref 29, .int a1, .null, .int a3] (v.toList ++ [.int (nI 0), .int a3]) μ1 Q) : Good l ω M_X7_isMask 0 [.ref 29, .int a1, .int a2, .int a3] [] μ Q := (gd_blk [(.iload_n 3, 1, 0, 0, 0, 0), (.iconst 0, 1, 0, 0, 0, 0), (.iload_n 2, 1, 0, 0, 0, 0)] 3 (L' := [.ref 29, .int a1, .int a2, .int a3]) (st' := [.int a2, .int (nI 0), .int a3]) (μ' := μ) (f := true) (by decide +kernel) rfl rfl (Exists.elim h (fun Q1 hc => gd_callS (st := [.int (nI 0), .int a3]) [.int a2] sS_7_83 (by decide +kernel) rfl rfl rfl  hc.1 (fun v μ1 hq => gd_weak (L' := [.ref 29, .int a1, .null, .int a3]) ⟨Or.inr rfl, ⟨Or.inr rfl, ⟨Or.inl rfl, ⟨Or.inr rfl, trivial⟩⟩⟩⟩ (hc.2 v μ1 hq)))))
theorem Ct_X7_isMask {l : Launch} {ω : Wd} {a1 a2 a3 : Int32} {μ : Mm} {Q : Option Value → Mm → Prop} (h : ∃ Q1, Ctr l ω M_X7_full [.int a2] μ Q1 ∧ ∀ v μ1, Q1 v μ1 → Good l ω M_X7_isMask 6 [.ref 29, .int a1, .null, .int a3] (v.toList ++ [.int (nI 0), .int a3]) μ1 Q) : Ctr l ω M_X7_isMask [.ref 29, .int a1, .int a2, .int a3] μ Q := ctr_of (by decide +kernel) rfl (Nat.le_of_ble_eq_true rfl) (Tr_X7_isMask_0 h)
theorem Tr_X7_isMask_6 {l : Launch} {ω : Wd} {a1 a3 s0 s1 s2 : Int32} {μ : Mm} {Q : Option Value → Mm → Prop} (h : ∃ Q1, Ctr l ω M_X7_in [.int s0, .int s1, .int s2] μ Q1 ∧ ∀ v μ1, Q1 v μ1 → Good l ω M_X7_isMask 9 [.ref 29, .int a1, .null, .int a3] (v.toList ++ []) μ1 Q) : Good l ω M_X7_isMask 6 [.ref 29, .int a1, .null, .int a3] [.int s2, .int s1, .int s0] μ Q := (Exists.elim h (fun Q1 hc => gd_callS (st := []) [.int s0, .int s1, .int s2] sS_7_79 (by decide +kernel) rfl rfl rfl  hc.1 (fun v μ1 hq => gd_weak (L' := [.ref 29, .int a1, .null, .int a3]) ⟨Or.inr rfl, ⟨Or.inr rfl, ⟨Or.inl rfl, ⟨Or.inr rfl, trivial⟩⟩⟩⟩ (hc.2 v μ1 hq))))
theorem Tr_X7_isMask_9 {l : Launch} {ω : Wd} {a1 a3 s0 : Int32} {μ : Mm} {Q : Option Value → Mm → Prop} (h : ((s0 = 0 → (Q (some (.int (nI 0))) μ)) ∧ (¬ (s0 = 0) → (∃ Q1, Ctr l ω M_X7_bits [.int a3] μ Q1 ∧ ∀ v μ1, Q1 v μ1 → Good l ω M_X7_isMask 16 [.ref 29, .int a1, .null, .null] (v.toList ++ []) μ1 Q)))) : Good l ω M_X7_isMask 9 [.ref 29, .int a1, .null, .int a3] [.int s0] μ Q := (gd_if (cd := .eq) (off := 20) (tgt := 29) (by decide +kernel) (by decide) (fun g1 => (gd_blk [(.iconst 0, 1, 0, 0, 0, 0)] 30 (L' := [.ref 29, .int a1, .null, .int a3]) (st' := [.int (nI 0)]) (μ' := μ) (f := true) (by decide +kernel) rfl rfl (gd_iret (ty := .boolean) (by decide +kernel) rfl (by decide) (h.1 g1)))) (fun g1 => (gd_blk [(.iload_n 3, 1, 0, 0, 0, 0)] 13 (L' := [.ref 29, .int a1, .null, .int a3]) (st' := [.int a3]) (μ' := μ) (f := true) (by decide +kernel) rfl rfl (Exists.elim (h.2 g1) (fun Q1 hc => gd_callS (st := []) [.int a3] sS_7_87 (by decide +kernel) rfl rfl rfl  hc.1 (fun v μ1 hq => gd_weak (L' := [.ref 29, .int a1, .null, .null]) ⟨Or.inr rfl, ⟨Or.inr rfl, ⟨Or.inl rfl, ⟨Or.inl rfl, trivial⟩⟩⟩⟩ (hc.2 v μ1 hq)))))))
theorem Tr_X7_isMask_16 {l : Launch} {ω : Wd} {a1 s0 : Int32} {μ : Mm} {Q : Option Value → Mm → Prop} (h : inb 30 1 a1 = true ∧ (((¬ s0 = (ss_i μ 30 (Int32.toNatClampNeg a1)) → (Q (some (.int (nI 0))) μ)) ∧ (¬ (¬ s0 = (ss_i μ 30 (Int32.toNatClampNeg a1))) → (Q (some (.int (nI 1))) μ))))) : Good l ω M_X7_isMask 16 [.ref 29, .int a1, .null, .null] [.int s0] μ Q := (gd_blk [(.aload_n 0, 1, 0, 0, 0, 0), (.getfield 7, 3, 7, 2, 2, 0), (.iload_n 1, 1, 0, 0, 0, 0), (.iaload, 1, 0, 0, 0, 0)] 22 (L' := [.ref 29, .int a1, .null, .null]) (st' := [.int (ss_i μ 30 (Int32.toNatClampNeg a1)), .int s0]) (μ' := μ) (f := (inb 30 1 a1 && true)) (by decide +kernel) rfl (fa h.1 rfl) (gd_icmp (cd := .ne) (off := 7) (tgt := 29) (by decide +kernel) (by decide) (fun g2 => (gd_blk [(.iconst 0, 1, 0, 0, 0, 0)] 30 (L' := [.ref 29, .int a1, .null, .null]) (st' := [.int (nI 0)]) (μ' := μ) (f := true) (by decide +kernel) rfl rfl (gd_iret (ty := .boolean) (by decide +kernel) rfl (by decide) (h.2.1 g2)))) (fun g2 => (gd_blk [(.iconst 1, 1, 0, 0, 0, 0)] 26 (L' := [.ref 29, .int a1, .null, .null]) (st' := [.int (nI 1)]) (μ' := μ) (f := true) (by decide +kernel) rfl rfl (gd_goto (off := 4) (tgt := 30) (by decide +kernel) (by decide) (gd_iret (ty := .boolean) (by decide +kernel) rfl (by decide) (h.2.2 g2)))))))
theorem Tr_X7_numberAt_0 {l : Launch} {ω : Wd} {a0 a1 : Int32} {μ : Mm} {Q : Option Value → Mm → Prop} (h : ∃ Q1, Ctr l ω M_X7_full [.int a1] μ Q1 ∧ ∀ v μ1, Q1 v μ1 → Good l ω M_X7_numberAt 5 [.null, .null] (v.toList ++ [.int a0]) μ1 Q) : Good l ω M_X7_numberAt 0 [.int a0, .int a1] [] μ Q := (gd_blk [(.iload_n 0, 1, 0, 0, 0, 0), (.iload_n 1, 1, 0, 0, 0, 0)] 2 (L' := [.int a0, .int a1]) (st' := [.int a1, .int a0]) (μ' := μ) (f := true) (by decide +kernel) rfl rfl (Exists.elim h (fun Q1 hc => gd_callS (st := [.int a0]) [.int a1] sS_7_83 (by decide +kernel) rfl rfl rfl  hc.1 (fun v μ1 hq => gd_weak (L' := [.null, .null]) ⟨Or.inl rfl, ⟨Or.inl rfl, trivial⟩⟩ (hc.2 v μ1 hq)))))
theorem Ct_X7_numberAt {l : Launch} {ω : Wd} {a0 a1 : Int32} {μ : Mm} {Q : Option Value → Mm → Prop} (h : ∃ Q1, Ctr l ω M_X7_full [.int a1] μ Q1 ∧ ∀ v μ1, Q1 v μ1 → Good l ω M_X7_numberAt 5 [.null, .null] (v.toList ++ [.int a0]) μ1 Q) : Ctr l ω M_X7_numberAt [.int a0, .int a1] μ Q := ctr_of (by decide +kernel) rfl (Nat.le_of_ble_eq_true rfl) (Tr_X7_numberAt_0 h)
theorem Tr_X7_numberAt_5 {l : Launch} {ω : Wd} {s0 s1 : Int32} {μ : Mm} {Q : Option Value → Mm → Prop} (h : ∃ Q1, Ctr l ω M_X7_bits [.int (s0 &&& s1)] μ Q1 ∧ ∀ v μ1, Q1 v μ1 → Good l ω M_X7_numberAt 9 [.null, .null] (v.toList ++ []) μ1 Q) : Good l ω M_X7_numberAt 5 [.null, .null] [.int s1, .int s0] μ Q := (gd_blk [(.iand, 1, 0, 0, 0, 0)] 6 (L' := [.null, .null]) (st' := [.int (s0 &&& s1)]) (μ' := μ) (f := true) (by decide +kernel) rfl rfl (Exists.elim h (fun Q1 hc => gd_callS (st := []) [.int (s0 &&& s1)] sS_7_87 (by decide +kernel) rfl rfl rfl  hc.1 (fun v μ1 hq => gd_weak (L' := [.null, .null]) ⟨Or.inl rfl, ⟨Or.inl rfl, trivial⟩⟩ (hc.2 v μ1 hq)))))
theorem Tr_X7_numberAt_9 {l : Launch} {ω : Wd} {s0 : Int32} {μ : Mm} {Q : Option Value → Mm → Prop} (h : Q (some (.int s0)) μ) : Good l ω M_X7_numberAt 9 [.null, .null] [.int s0] μ Q := (gd_iret (ty := .int) (by decide +kernel) rfl rfl h)
end
section
theorem Tr_X7_dropped_0 {l : Launch} {ω : Wd} {a0 a1 a2 : Int32} {μ : Mm} {Q : Option Value → Mm → Prop} (h : ((¬ a2 = 0 → (((¬ a2 = a0 → (∃ Q1, Ctr l ω M_X7_full [.int (a2 - (nI 1))] μ Q1 ∧ ∀ v μ1, Q1 v μ1 → Good l ω M_X7_dropped 43 [.null, .int a1, .int a2, .int (((a1 >>> ((a2 - (nI 1)) &&& 31)) &&& (nI 1)) ||| ((a1 >>> (a2 &&& 31)) &&& (nI 1)))] (v.toList ++ [.int a1]) μ1 Q)) ∧ (¬ (¬ a2 = a0) → (∃ Q1, Ctr l ω M_X7_full [.int (a0 - (nI 1))] μ Q1 ∧ ∀ v μ1, Q1 v μ1 → Good l ω M_X7_dropped 20 [.null, .null, .null, .null] (v.toList ++ [.int a1]) μ1 Q))))) ∧ (¬ (¬ a2 = 0) → (Q (some (.int (a1 >>> ((nI 1) &&& 31)))) μ)))) : Good l ω M_X7_dropped 0 [.int a0, .int a1, .int a2, .null] [] μ Q := (gd_blk [(.iload_n 2, 1, 0, 0, 0, 0)] 1 (L' := [.int a0, .int a1, .int a2, .null]) (st' := [.int a2]) (μ' := μ) (f := true) (by decide +kernel) rfl rfl (gd_if (cd := .ne) (off := 7) (tgt := 8) (by decide +kernel) (by decide) (fun g2 => (gd_blk [(.iload_n 2, 1, 0, 0, 0, 0), (.iload_n 0, 1, 0, 0, 0, 0)] 10 (L' := [.int a0, .int a1, .int a2, .null]) (st' := [.int a0, .int a2]) (μ' := μ) (f := true) (by decide +kernel) rfl rfl (gd_icmp (cd := .ne) (off := 12) (tgt := 22) (by decide +kernel) (by decide) (fun g1 => (gd_blk [(.iload_n 1, 1, 0, 0, 0, 0), (.iload_n 2, 1, 0, 0, 0, 0), (.iconst 1, 1, 0, 0, 0, 0), (.isub, 1, 0, 0, 0, 0), (.ishr, 1, 0, 0, 0, 0)] 27 (L' := [.int a0, .int a1, .int a2, .null]) (st' := [.int (a1 >>> ((a2 - (nI 1)) &&& 31))]) (μ' := μ) (f := true) (by decide +kernel) rfl rfl (gd_blk [(.iconst 1, 1, 0, 0, 0, 0), (.iand, 1, 0, 0, 0, 0), (.iload_n 1, 1, 0, 0, 0, 0), (.iload_n 2, 1, 0, 0, 0, 0), (.ishr, 1, 0, 0, 0, 0)] 32 (L' := [.int a0, .int a1, .int a2, .null]) (st' := [.int (a1 >>> (a2 &&& 31)), .int ((a1 >>> ((a2 - (nI 1)) &&& 31)) &&& (nI 1))]) (μ' := μ) (f := true) (by decide +kernel) rfl rfl (gd_blk [(.iconst 1, 1, 0, 0, 0, 0), (.iand, 1, 0, 0, 0, 0), (.ior, 1, 0, 0, 0, 0), (.istore_n 3, 1, 0, 0, 0, 0), (.iload_n 1, 1, 0, 0, 0, 0)] 37 (L' := [.int a0, .int a1, .int a2, .int (((a1 >>> ((a2 - (nI 1)) &&& 31)) &&& (nI 1)) ||| ((a1 >>> (a2 &&& 31)) &&& (nI 1)))]) (st' := [.int a1]) (μ' := μ) (f := true) (by decide +kernel) rfl rfl (gd_blk [(.iload_n 2, 1, 0, 0, 0, 0), (.iconst 1, 1, 0, 0, 0, 0), (.isub, 1, 0, 0, 0, 0)] 40 (L' := [.int a0, .int a1, .int a2, .int (((a1 >>> ((a2 - (nI 1)) &&& 31)) &&& (nI 1)) ||| ((a1 >>> (a2 &&& 31)) &&& (nI 1)))]) (st' := [.int (a2 - (nI 1)), .int a1]) (μ' := μ) (f := true) (by decide +kernel) rfl rfl (Exists.elim ((h.1 g2).1 g1) (fun Q1 hc => gd_callS (st := [.int a1]) [.int (a2 - (nI 1))] sS_7_83 (by decide +kernel) rfl rfl rfl  hc.1 (fun v μ1 hq => gd_weak (L' := [.null, .int a1, .int a2, .int (((a1 >>> ((a2 - (nI 1)) &&& 31)) &&& (nI 1)) ||| ((a1 >>> (a2 &&& 31)) &&& (nI 1)))]) ⟨Or.inl rfl, ⟨Or.inr rfl, ⟨Or.inr rfl, ⟨Or.inr rfl, trivial⟩⟩⟩⟩ (hc.2 v μ1 hq))))))))) (fun g1 => (gd_blk [(.iload_n 1, 1, 0, 0, 0, 0), (.iload_n 0, 1, 0, 0, 0, 0), (.iconst 1, 1, 0, 0, 0, 0), (.isub, 1, 0, 0, 0, 0)] 17 (L' := [.int a0, .int a1, .int a2, .null]) (st' := [.int (a0 - (nI 1)), .int a1]) (μ' := μ) (f := true) (by decide +kernel) rfl rfl (Exists.elim ((h.1 g2).2 g1) (fun Q1 hc => gd_callS (st := [.int a1]) [.int (a0 - (nI 1))] sS_7_83 (by decide +kernel) rfl rfl rfl  hc.1 (fun v μ1 hq => gd_weak (L' := [.null, .null, .null, .null]) ⟨Or.inl rfl, ⟨Or.inl rfl, ⟨Or.inl rfl, ⟨Or.inl rfl, trivial⟩⟩⟩⟩ (hc.2 v μ1 hq))))))))) (fun g2 => (gd_blk [(.iload_n 1, 1, 0, 0, 0, 0), (.iconst 1, 1, 0, 0, 0, 0), (.ishr, 1, 0, 0, 0, 0)] 7 (L' := [.int a0, .int a1, .int a2, .null]) (st' := [.int (a1 >>> ((nI 1) &&& 31))]) (μ' := μ) (f := true) (by decide +kernel) rfl rfl (gd_iret (ty := .int) (by decide +kernel) rfl rfl (h.2 g2))))))
theorem Ct_X7_dropped {l : Launch} {ω : Wd} {a0 a1 a2 : Int32} {μ : Mm} {Q : Option Value → Mm → Prop} (h : ((¬ a2 = 0 → (((¬ a2 = a0 → (∃ Q1, Ctr l ω M_X7_full [.int (a2 - (nI 1))] μ Q1 ∧ ∀ v μ1, Q1 v μ1 → Good l ω M_X7_dropped 43 [.null, .int a1, .int a2, .int (((a1 >>> ((a2 - (nI 1)) &&& 31)) &&& (nI 1)) ||| ((a1 >>> (a2 &&& 31)) &&& (nI 1)))] (v.toList ++ [.int a1]) μ1 Q)) ∧ (¬ (¬ a2 = a0) → (∃ Q1, Ctr l ω M_X7_full [.int (a0 - (nI 1))] μ Q1 ∧ ∀ v μ1, Q1 v μ1 → Good l ω M_X7_dropped 20 [.null, .null, .null, .null] (v.toList ++ [.int a1]) μ1 Q))))) ∧ (¬ (¬ a2 = 0) → (Q (some (.int (a1 >>> ((nI 1) &&& 31)))) μ)))) : Ctr l ω M_X7_dropped [.int a0, .int a1, .int a2] μ Q := ctr_of (by decide +kernel) rfl (Nat.le_of_ble_eq_true rfl) (Tr_X7_dropped_0 h)
theorem Tr_X7_dropped_20 {l : Launch} {ω : Wd} {s0 s1 : Int32} {μ : Mm} {Q : Option Value → Mm → Prop} (h : Q (some (.int (s0 &&& s1))) μ) : Good l ω M_X7_dropped 20 [.null, .null, .null, .null] [.int s1, .int s0] μ Q := (gd_blk [(.iand, 1, 0, 0, 0, 0)] 21 (L' := [.null, .null, .null, .null]) (st' := [.int (s0 &&& s1)]) (μ' := μ) (f := true) (by decide +kernel) rfl rfl (gd_iret (ty := .int) (by decide +kernel) rfl rfl h))
theorem Tr_X7_dropped_43 {l : Launch} {ω : Wd} {a1 a2 a3 s0 s1 : Int32} {μ : Mm} {Q : Option Value → Mm → Prop} (h : Q (some (.int (((s0 &&& s1) ||| (a3 <<< ((a2 - (nI 1)) &&& 31))) ||| ((a1 >>> ((a2 + (nI 1)) &&& 31)) <<< (a2 &&& 31))))) μ) : Good l ω M_X7_dropped 43 [.null, .int a1, .int a2, .int a3] [.int s1, .int s0] μ Q := (gd_blk [(.iand, 1, 0, 0, 0, 0), (.iload_n 3, 1, 0, 0, 0, 0), (.iload_n 2, 1, 0, 0, 0, 0), (.iconst 1, 1, 0, 0, 0, 0), (.isub, 1, 0, 0, 0, 0)] 48 (L' := [.null, .int a1, .int a2, .int a3]) (st' := [.int (a2 - (nI 1)), .int a3, .int (s0 &&& s1)]) (μ' := μ) (f := true) (by decide +kernel) rfl rfl (gd_blk [(.ishl, 1, 0, 0, 0, 0), (.ior, 1, 0, 0, 0, 0), (.iload_n 1, 1, 0, 0, 0, 0), (.iload_n 2, 1, 0, 0, 0, 0), (.iconst 1, 1, 0, 0, 0, 0)] 53 (L' := [.null, .int a1, .int a2, .int a3]) (st' := [.int (nI 1), .int a2, .int a1, .int ((s0 &&& s1) ||| (a3 <<< ((a2 - (nI 1)) &&& 31)))]) (μ' := μ) (f := true) (by decide +kernel) rfl rfl (gd_blk [(.iadd, 1, 0, 0, 0, 0), (.ishr, 1, 0, 0, 0, 0), (.iload_n 2, 1, 0, 0, 0, 0), (.ishl, 1, 0, 0, 0, 0), (.ior, 1, 0, 0, 0, 0)] 58 (L' := [.null, .int a1, .int a2, .int a3]) (st' := [.int (((s0 &&& s1) ||| (a3 <<< ((a2 - (nI 1)) &&& 31))) ||| ((a1 >>> ((a2 + (nI 1)) &&& 31)) <<< (a2 &&& 31)))]) (μ' := μ) (f := true) (by decide +kernel) rfl rfl (gd_iret (ty := .int) (by decide +kernel) rfl rfl h))))
theorem Tr_X7_choose_0 {l : Launch} {ω : Wd} {a0 a1 : Int32} {μ : Mm} {Q : Option Value → Mm → Prop} (h : ((a1 ≤ a0 → (Good l ω M_X7_choose 13 [.int a0, .int a1, .int (nI 1), .int (nI 0)] [] μ Q)) ∧ (¬ (a1 ≤ a0) → (Good l ω M_X7_choose 13 [.int a0, .int a1, .int (nI 0), .int (nI 0)] [] μ Q)))) : Good l ω M_X7_choose 0 [.int a0, .int a1, .null, .null] [] μ Q := (gd_blk [(.iload_n 1, 1, 0, 0, 0, 0), (.iload_n 0, 1, 0, 0, 0, 0)] 2 (L' := [.int a0, .int a1, .null, .null]) (st' := [.int a0, .int a1]) (μ' := μ) (f := true) (by decide +kernel) rfl rfl (gd_icmp (cd := .le) (off := 7) (tgt := 9) (by decide +kernel) (by decide) (fun g1 => (gd_blk [(.iconst 1, 1, 0, 0, 0, 0), (.istore_n 2, 1, 0, 0, 0, 0), (.iconst 0, 1, 0, 0, 0, 0), (.istore_n 3, 1, 0, 0, 0, 0)] 13 (L' := [.int a0, .int a1, .int (nI 1), .int (nI 0)]) (st' := []) (μ' := μ) (f := true) (by decide +kernel) rfl rfl (gd_weak (L' := [.int a0, .int a1, .int (nI 1), .int (nI 0)]) ⟨Or.inr rfl, ⟨Or.inr rfl, ⟨Or.inr rfl, ⟨Or.inr rfl, trivial⟩⟩⟩⟩ (h.1 g1)))) (fun g1 => (gd_blk [(.iconst 0, 1, 0, 0, 0, 0)] 6 (L' := [.int a0, .int a1, .null, .null]) (st' := [.int (nI 0)]) (μ' := μ) (f := true) (by decide +kernel) rfl rfl (gd_goto (off := 4) (tgt := 10) (by decide +kernel) (by decide) (gd_blk [(.istore_n 2, 1, 0, 0, 0, 0), (.iconst 0, 1, 0, 0, 0, 0), (.istore_n 3, 1, 0, 0, 0, 0)] 13 (L' := [.int a0, .int a1, .int (nI 0), .int (nI 0)]) (st' := []) (μ' := μ) (f := true) (by decide +kernel) rfl rfl (gd_weak (L' := [.int a0, .int a1, .int (nI 0), .int (nI 0)]) ⟨Or.inr rfl, ⟨Or.inr rfl, ⟨Or.inr rfl, ⟨Or.inr rfl, trivial⟩⟩⟩⟩ (h.2 g1))))))))
theorem Ct_X7_choose {l : Launch} {ω : Wd} {a0 a1 : Int32} {μ : Mm} {Q : Option Value → Mm → Prop} (h : ((a1 ≤ a0 → (Good l ω M_X7_choose 13 [.int a0, .int a1, .int (nI 1), .int (nI 0)] [] μ Q)) ∧ (¬ (a1 ≤ a0) → (Good l ω M_X7_choose 13 [.int a0, .int a1, .int (nI 0), .int (nI 0)] [] μ Q)))) : Ctr l ω M_X7_choose [.int a0, .int a1] μ Q := ctr_of (by decide +kernel) rfl (Nat.le_of_ble_eq_true rfl) (Tr_X7_choose_0 h)
theorem Tr_X7_choose_13 {l : Launch} {ω : Wd} {a0 a1 a2 a3 : Int32} {μ : Mm} {Q : Option Value → Mm → Prop} (h : ((a1 ≤ a3 → (Q (some (.int a2)) μ)) ∧ (¬ (a1 ≤ a3) → (((a0 ≤ a3 → (Q (some (.int a2)) μ)) ∧ (¬ (a0 ≤ a3) → ((decide (¬ (a3 + (nI 1)) = 0)) = true ∧ (Good l ω M_X7_choose 13 [.int a0, .int a1, .int ((a2 * (a0 - a3)) / (a3 + (nI 1))), .int (a3 + (nI 1))] [] μ Q)))))))) : Good l ω M_X7_choose 13 [.int a0, .int a1, .int a2, .int a3] [] μ Q := (gd_blk [(.iload_n 3, 1, 0, 0, 0, 0), (.iload_n 1, 1, 0, 0, 0, 0)] 15 (L' := [.int a0, .int a1, .int a2, .int a3]) (st' := [.int a1, .int a3]) (μ' := μ) (f := true) (by decide +kernel) rfl rfl (gd_icmp (cd := .ge) (off := 24) (tgt := 39) (by decide +kernel) (by decide) (fun g3 => (gd_blk [(.iload_n 2, 1, 0, 0, 0, 0)] 40 (L' := [.int a0, .int a1, .int a2, .int a3]) (st' := [.int a2]) (μ' := μ) (f := true) (by decide +kernel) rfl rfl (gd_iret (ty := .int) (by decide +kernel) rfl rfl (h.1 g3)))) (fun g3 => (gd_blk [(.iload_n 3, 1, 0, 0, 0, 0), (.iload_n 0, 1, 0, 0, 0, 0)] 20 (L' := [.int a0, .int a1, .int a2, .int a3]) (st' := [.int a0, .int a3]) (μ' := μ) (f := true) (by decide +kernel) rfl rfl (gd_icmp (cd := .ge) (off := 19) (tgt := 39) (by decide +kernel) (by decide) (fun g2 => (gd_blk [(.iload_n 2, 1, 0, 0, 0, 0)] 40 (L' := [.int a0, .int a1, .int a2, .int a3]) (st' := [.int a2]) (μ' := μ) (f := true) (by decide +kernel) rfl rfl (gd_iret (ty := .int) (by decide +kernel) rfl rfl ((h.2 g3).1 g2)))) (fun g2 => (gd_blk [(.iload_n 2, 1, 0, 0, 0, 0), (.iload_n 0, 1, 0, 0, 0, 0), (.iload_n 3, 1, 0, 0, 0, 0), (.isub, 1, 0, 0, 0, 0), (.imul, 1, 0, 0, 0, 0)] 28 (L' := [.int a0, .int a1, .int a2, .int a3]) (st' := [.int (a2 * (a0 - a3))]) (μ' := μ) (f := true) (by decide +kernel) rfl rfl (gd_blk [(.iload_n 3, 1, 0, 0, 0, 0), (.iconst 1, 1, 0, 0, 0, 0), (.iadd, 1, 0, 0, 0, 0), (.idiv, 1, 0, 0, 0, 0), (.istore_n 2, 1, 0, 0, 0, 0)] 33 (L' := [.int a0, .int a1, .int ((a2 * (a0 - a3)) / (a3 + (nI 1))), .int a3]) (st' := []) (μ' := μ) (f := ((decide (¬ (a3 + (nI 1)) = 0)) && true)) (by decide +kernel) rfl (fa ((h.2 g3).2 g2).1 rfl) (gd_blk [(.iinc 3 1, 3, 0, 0, 0, 0)] 36 (L' := [.int a0, .int a1, .int ((a2 * (a0 - a3)) / (a3 + (nI 1))), .int (a3 + (nI 1))]) (st' := []) (μ' := μ) (f := true) (by decide +kernel) rfl rfl (gd_goto (off := (-23)) (tgt := 13) (by decide +kernel) (by decide) (gd_weak (L' := [.int a0, .int a1, .int ((a2 * (a0 - a3)) / (a3 + (nI 1))), .int (a3 + (nI 1))]) ⟨Or.inr rfl, ⟨Or.inr rfl, ⟨Or.inr rfl, ⟨Or.inr rfl, trivial⟩⟩⟩⟩ ((h.2 g3).2 g2).2)))))))))))
theorem Tr_X7_rest_0 {l : Launch} {ω : Wd} {a0 a2 : Int64} {μ : Mm} {Q : Option Value → Mm → Prop} (h : (decide (¬ a2 = 0)) = true ∧ (((0 ≤ (lg_cmp (a0 - a0 / a2 * a2) (lN 0)) → (Q (some (.long (a0 - a0 / a2 * a2))) μ)) ∧ (¬ (0 ≤ (lg_cmp (a0 - a0 / a2 * a2) (lN 0))) → (Q (some (.long ((a0 - a0 / a2 * a2) + a2))) μ))))) : Good l ω M_X7_rest 0 [.long a0, .null, .long a2, .null, .null, .null] [] μ Q := (gd_blk [(.lload_n 0, 1, 0, 0, 0, 0), (.lload_n 2, 1, 0, 0, 0, 0), (.lrem, 1, 0, 0, 0, 0), (.lstore 4, 2, 0, 0, 0, 0), (.lload 4, 2, 0, 0, 0, 0)] 7 (L' := [.long a0, .null, .long a2, .null, .long (a0 - a0 / a2 * a2), .null]) (st' := [.long (a0 - a0 / a2 * a2)]) (μ' := μ) (f := ((decide (¬ a2 = 0)) && true)) (by decide +kernel) rfl (fa h.1 rfl) (gd_blk [(.lconst 0, 1, 0, 0, 0, 0), (.lcmp, 1, 0, 0, 0, 0)] 9 (L' := [.long a0, .null, .long a2, .null, .long (a0 - a0 / a2 * a2), .null]) (st' := [.int (lg_cmp (a0 - a0 / a2 * a2) (lN 0))]) (μ' := μ) (f := true) (by decide +kernel) rfl rfl (gd_if (cd := .ge) (off := 10) (tgt := 19) (by decide +kernel) (by decide) (fun g1 => (gd_blk [(.lload 4, 2, 0, 0, 0, 0)] 21 (L' := [.long a0, .null, .long a2, .null, .long (a0 - a0 / a2 * a2), .null]) (st' := [.long (a0 - a0 / a2 * a2)]) (μ' := μ) (f := true) (by decide +kernel) rfl rfl (gd_lret (by decide +kernel) rfl (h.2.1 g1)))) (fun g1 => (gd_blk [(.lload 4, 2, 0, 0, 0, 0), (.lload_n 2, 1, 0, 0, 0, 0), (.ladd, 1, 0, 0, 0, 0)] 16 (L' := [.long a0, .null, .long a2, .null, .long (a0 - a0 / a2 * a2), .null]) (st' := [.long ((a0 - a0 / a2 * a2) + a2)]) (μ' := μ) (f := true) (by decide +kernel) rfl rfl (gd_goto (off := 5) (tgt := 21) (by decide +kernel) (by decide) (gd_lret (by decide +kernel) rfl (h.2.2 g1))))))))
theorem Ct_X7_rest {l : Launch} {ω : Wd} {a0 a2 : Int64} {μ : Mm} {Q : Option Value → Mm → Prop} (h : (decide (¬ a2 = 0)) = true ∧ (((0 ≤ (lg_cmp (a0 - a0 / a2 * a2) (lN 0)) → (Q (some (.long (a0 - a0 / a2 * a2))) μ)) ∧ (¬ (0 ≤ (lg_cmp (a0 - a0 / a2 * a2) (lN 0))) → (Q (some (.long ((a0 - a0 / a2 * a2) + a2))) μ))))) : Ctr l ω M_X7_rest [.long a0, .long a2] μ Q := ctr_of (by decide +kernel) rfl (Nat.le_of_ble_eq_true rfl) (Tr_X7_rest_0 h)
theorem Tr_X7_inverse_0 {l : Launch} {ω : Wd} {a0 a2 : Int64} {μ : Mm} {Q : Option Value → Mm → Prop} (h : Good l ω M_X7_inverse 13 [.null, .null, .long a2, .null, .long (lN 1), .null, .long a0, .null, .long (a2 - (lN 2)), .null] [] μ Q) : Good l ω M_X7_inverse 0 [.long a0, .null, .long a2, .null, .null, .null, .null, .null, .null, .null] [] μ Q := (gd_blk [(.lconst 1, 1, 0, 0, 0, 0), (.lstore 4, 2, 0, 0, 0, 0), (.lload_n 0, 1, 0, 0, 0, 0), (.lstore 6, 2, 0, 0, 0, 0), (.lload_n 2, 1, 0, 0, 0, 0)] 7 (L' := [.long a0, .null, .long a2, .null, .long (lN 1), .null, .long a0, .null, .null, .null]) (st' := [.long a2]) (μ' := μ) (f := true) (by decide +kernel) rfl rfl (gd_blk [(.ldc2_w 151, 3, 0, 0, 0, 2), (.lsub, 1, 0, 0, 0, 0), (.lstore 8, 2, 0, 0, 0, 0)] 13 (L' := [.long a0, .null, .long a2, .null, .long (lN 1), .null, .long a0, .null, .long (a2 - (lN 2)), .null]) (st' := []) (μ' := μ) (f := true) (by decide +kernel) rfl rfl (gd_weak (L' := [.null, .null, .long a2, .null, .long (lN 1), .null, .long a0, .null, .long (a2 - (lN 2)), .null]) ⟨Or.inl rfl, ⟨Or.inl rfl, ⟨Or.inr rfl, ⟨Or.inl rfl, ⟨Or.inr rfl, ⟨Or.inl rfl, ⟨Or.inr rfl, ⟨Or.inl rfl, ⟨Or.inr rfl, ⟨Or.inl rfl, trivial⟩⟩⟩⟩⟩⟩⟩⟩⟩⟩ h)))
theorem Ct_X7_inverse {l : Launch} {ω : Wd} {a0 a2 : Int64} {μ : Mm} {Q : Option Value → Mm → Prop} (h : Good l ω M_X7_inverse 13 [.null, .null, .long a2, .null, .long (lN 1), .null, .long a0, .null, .long (a2 - (lN 2)), .null] [] μ Q) : Ctr l ω M_X7_inverse [.long a0, .long a2] μ Q := ctr_of (by decide +kernel) rfl (Nat.le_of_ble_eq_true rfl) (Tr_X7_inverse_0 h)
theorem Tr_X7_inverse_13 {l : Launch} {ω : Wd} {a2 a4 a6 a8 : Int64} {μ : Mm} {Q : Option Value → Mm → Prop} (h : (((lg_cmp a8 (lN 0)) ≤ 0 → (Q (some (.long a4)) μ)) ∧ (¬ ((lg_cmp a8 (lN 0)) ≤ 0) → (((¬ (lg_cmp (a8 &&& (lN 1)) (lN 1)) = 0 → ((decide (¬ a2 = 0)) = true ∧ (Good l ω M_X7_inverse 13 [.null, .null, .long a2, .null, .long a4, .null, .long ((a6 * a6) - (a6 * a6) / a2 * a2), .null, .long (a8 >>> (Int32.toInt64 (nI 1) &&& 63)), .null] [] μ Q))) ∧ (¬ (¬ (lg_cmp (a8 &&& (lN 1)) (lN 1)) = 0) → ((decide (¬ a2 = 0)) = true ∧ ((decide (¬ a2 = 0)) = true ∧ (Good l ω M_X7_inverse 13 [.null, .null, .long a2, .null, .long ((a4 * a6) - (a4 * a6) / a2 * a2), .null, .long ((a6 * a6) - (a6 * a6) / a2 * a2), .null, .long (a8 >>> (Int32.toInt64 (nI 1) &&& 63)), .null] [] μ Q))))))))) : Good l ω M_X7_inverse 13 [.null, .null, .long a2, .null, .long a4, .null, .long a6, .null, .long a8, .null] [] μ Q := (gd_blk [(.lload 8, 2, 0, 0, 0, 0), (.lconst 0, 1, 0, 0, 0, 0), (.lcmp, 1, 0, 0, 0, 0)] 17 (L' := [.null, .null, .long a2, .null, .long a4, .null, .long a6, .null, .long a8, .null]) (st' := [.int (lg_cmp a8 (lN 0))]) (μ' := μ) (f := true) (by decide +kernel) rfl rfl (gd_if (cd := .le) (off := 44) (tgt := 61) (by decide +kernel) (by decide) (fun g2 => (gd_blk [(.lload 4, 2, 0, 0, 0, 0)] 63 (L' := [.null, .null, .long a2, .null, .long a4, .null, .long a6, .null, .long a8, .null]) (st' := [.long a4]) (μ' := μ) (f := true) (by decide +kernel) rfl rfl (gd_lret (by decide +kernel) rfl (h.1 g2)))) (fun g2 => (gd_blk [(.lload 8, 2, 0, 0, 0, 0), (.lconst 1, 1, 0, 0, 0, 0), (.land, 1, 0, 0, 0, 0), (.lconst 1, 1, 0, 0, 0, 0), (.lcmp, 1, 0, 0, 0, 0)] 26 (L' := [.null, .null, .long a2, .null, .long a4, .null, .long a6, .null, .long a8, .null]) (st' := [.int (lg_cmp (a8 &&& (lN 1)) (lN 1))]) (μ' := μ) (f := true) (by decide +kernel) rfl rfl (gd_if (cd := .ne) (off := 13) (tgt := 39) (by decide +kernel) (by decide) (fun g1 => (gd_blk [(.lload 4, 2, 0, 0, 0, 0), (.lstore 4, 2, 0, 0, 0, 0), (.lload 6, 2, 0, 0, 0, 0), (.lload 6, 2, 0, 0, 0, 0), (.lmul, 1, 0, 0, 0, 0)] 48 (L' := [.null, .null, .long a2, .null, .long a4, .null, .long a6, .null, .long a8, .null]) (st' := [.long (a6 * a6)]) (μ' := μ) (f := true) (by decide +kernel) rfl rfl (gd_blk [(.lload_n 2, 1, 0, 0, 0, 0), (.lrem, 1, 0, 0, 0, 0), (.lstore 6, 2, 0, 0, 0, 0), (.lload 8, 2, 0, 0, 0, 0), (.iconst 1, 1, 0, 0, 0, 0)] 55 (L' := [.null, .null, .long a2, .null, .long a4, .null, .long ((a6 * a6) - (a6 * a6) / a2 * a2), .null, .long a8, .null]) (st' := [.int (nI 1), .long a8]) (μ' := μ) (f := ((decide (¬ a2 = 0)) && true)) (by decide +kernel) rfl (fa ((h.2 g2).1 g1).1 rfl) (gd_blk [(.lshr, 1, 0, 0, 0, 0), (.lstore 8, 2, 0, 0, 0, 0)] 58 (L' := [.null, .null, .long a2, .null, .long a4, .null, .long ((a6 * a6) - (a6 * a6) / a2 * a2), .null, .long (a8 >>> (Int32.toInt64 (nI 1) &&& 63)), .null]) (st' := []) (μ' := μ) (f := true) (by decide +kernel) rfl rfl (gd_goto (off := (-45)) (tgt := 13) (by decide +kernel) (by decide) (gd_weak (L' := [.null, .null, .long a2, .null, .long a4, .null, .long ((a6 * a6) - (a6 * a6) / a2 * a2), .null, .long (a8 >>> (Int32.toInt64 (nI 1) &&& 63)), .null]) ⟨Or.inl rfl, ⟨Or.inl rfl, ⟨Or.inr rfl, ⟨Or.inl rfl, ⟨Or.inr rfl, ⟨Or.inl rfl, ⟨Or.inr rfl, ⟨Or.inl rfl, ⟨Or.inr rfl, ⟨Or.inl rfl, trivial⟩⟩⟩⟩⟩⟩⟩⟩⟩⟩ ((h.2 g2).1 g1).2)))))) (fun g1 => (gd_blk [(.lload 4, 2, 0, 0, 0, 0), (.lload 6, 2, 0, 0, 0, 0), (.lmul, 1, 0, 0, 0, 0), (.lload_n 2, 1, 0, 0, 0, 0), (.lrem, 1, 0, 0, 0, 0)] 36 (L' := [.null, .null, .long a2, .null, .long a4, .null, .long a6, .null, .long a8, .null]) (st' := [.long ((a4 * a6) - (a4 * a6) / a2 * a2)]) (μ' := μ) (f := ((decide (¬ a2 = 0)) && true)) (by decide +kernel) rfl (fa ((h.2 g2).2 g1).1 rfl) (gd_goto (off := 5) (tgt := 41) (by decide +kernel) (by decide) (gd_blk [(.lstore 4, 2, 0, 0, 0, 0), (.lload 6, 2, 0, 0, 0, 0), (.lload 6, 2, 0, 0, 0, 0), (.lmul, 1, 0, 0, 0, 0), (.lload_n 2, 1, 0, 0, 0, 0)] 49 (L' := [.null, .null, .long a2, .null, .long ((a4 * a6) - (a4 * a6) / a2 * a2), .null, .long a6, .null, .long a8, .null]) (st' := [.long a2, .long (a6 * a6)]) (μ' := μ) (f := true) (by decide +kernel) rfl rfl (gd_blk [(.lrem, 1, 0, 0, 0, 0), (.lstore 6, 2, 0, 0, 0, 0), (.lload 8, 2, 0, 0, 0, 0), (.iconst 1, 1, 0, 0, 0, 0), (.lshr, 1, 0, 0, 0, 0)] 56 (L' := [.null, .null, .long a2, .null, .long ((a4 * a6) - (a4 * a6) / a2 * a2), .null, .long ((a6 * a6) - (a6 * a6) / a2 * a2), .null, .long a8, .null]) (st' := [.long (a8 >>> (Int32.toInt64 (nI 1) &&& 63))]) (μ' := μ) (f := ((decide (¬ a2 = 0)) && true)) (by decide +kernel) rfl (fa ((h.2 g2).2 g1).2.1 rfl) (gd_blk [(.lstore 8, 2, 0, 0, 0, 0)] 58 (L' := [.null, .null, .long a2, .null, .long ((a4 * a6) - (a4 * a6) / a2 * a2), .null, .long ((a6 * a6) - (a6 * a6) / a2 * a2), .null, .long (a8 >>> (Int32.toInt64 (nI 1) &&& 63)), .null]) (st' := []) (μ' := μ) (f := true) (by decide +kernel) rfl rfl (gd_goto (off := (-45)) (tgt := 13) (by decide +kernel) (by decide) (gd_weak (L' := [.null, .null, .long a2, .null, .long ((a4 * a6) - (a4 * a6) / a2 * a2), .null, .long ((a6 * a6) - (a6 * a6) / a2 * a2), .null, .long (a8 >>> (Int32.toInt64 (nI 1) &&& 63)), .null]) ⟨Or.inl rfl, ⟨Or.inl rfl, ⟨Or.inr rfl, ⟨Or.inl rfl, ⟨Or.inr rfl, ⟨Or.inl rfl, ⟨Or.inr rfl, ⟨Or.inl rfl, ⟨Or.inr rfl, ⟨Or.inl rfl, trivial⟩⟩⟩⟩⟩⟩⟩⟩⟩⟩ ((h.2 g2).2 g1).2.2)))))))))))))
theorem Tr_X7_product64_0 {l : Launch} {ω : Wd} {a1 a3 : Int64} {μ : Mm} {Q : Option Value → Mm → Prop} (h : Good l ω M_X7_product64 7 [.ref 29, .long a1, .null, .long a3, .null, .long (lN 0), .null, .int (nI 54)] [] μ Q) : Good l ω M_X7_product64 0 [.ref 29, .long a1, .null, .long a3, .null, .null, .null, .null] [] μ Q := (gd_blk [(.lconst 0, 1, 0, 0, 0, 0), (.lstore 5, 2, 0, 0, 0, 0), (.bipush 54, 2, 0, 0, 0, 0), (.istore 7, 2, 0, 0, 0, 0)] 7 (L' := [.ref 29, .long a1, .null, .long a3, .null, .long (lN 0), .null, .int (nI 54)]) (st' := []) (μ' := μ) (f := true) (by decide +kernel) rfl rfl (gd_weak (L' := [.ref 29, .long a1, .null, .long a3, .null, .long (lN 0), .null, .int (nI 54)]) ⟨Or.inr rfl, ⟨Or.inr rfl, ⟨Or.inl rfl, ⟨Or.inr rfl, ⟨Or.inl rfl, ⟨Or.inr rfl, ⟨Or.inl rfl, ⟨Or.inr rfl, trivial⟩⟩⟩⟩⟩⟩⟩⟩ h))
theorem Ct_X7_product64 {l : Launch} {ω : Wd} {a1 a3 : Int64} {μ : Mm} {Q : Option Value → Mm → Prop} (h : Good l ω M_X7_product64 7 [.ref 29, .long a1, .null, .long a3, .null, .long (lN 0), .null, .int (nI 54)] [] μ Q) : Ctr l ω M_X7_product64 [.ref 29, .long a1, .long a3] μ Q := ctr_of (by decide +kernel) rfl (Nat.le_of_ble_eq_true rfl) (Tr_X7_product64_0 h)
theorem Tr_X7_product64_7 {l : Launch} {ω : Wd} {a7 : Int32} {a1 a3 a5 : Int64} {μ : Mm} {Q : Option Value → Mm → Prop} (h : ((a7 < 0 → (Q (some (.long a5)) μ)) ∧ (¬ (a7 < 0) → ((decide (¬ (ss_l μ 29 19) = 0)) = true ∧ (Good l ω M_X7_product64 7 [.ref 29, .long a1, .null, .long a3, .null, .long (((a5 * (lN 64)) + (a1 * ((a3 >>> (Int32.toInt64 a7 &&& 63)) &&& (lN 63)))) - ((a5 * (lN 64)) + (a1 * ((a3 >>> (Int32.toInt64 a7 &&& 63)) &&& (lN 63)))) / (ss_l μ 29 19) * (ss_l μ 29 19)), .null, .int (a7 + (-6))] [] μ Q))))) : Good l ω M_X7_product64 7 [.ref 29, .long a1, .null, .long a3, .null, .long a5, .null, .int a7] [] μ Q := (gd_blk [(.iload 7, 2, 0, 0, 0, 0)] 9 (L' := [.ref 29, .long a1, .null, .long a3, .null, .long a5, .null, .int a7]) (st' := [.int a7]) (μ' := μ) (f := true) (by decide +kernel) rfl rfl (gd_if (cd := .lt) (off := 33) (tgt := 42) (by decide +kernel) (by decide) (fun g1 => (gd_blk [(.lload 5, 2, 0, 0, 0, 0)] 44 (L' := [.ref 29, .long a1, .null, .long a3, .null, .long a5, .null, .int a7]) (st' := [.long a5]) (μ' := μ) (f := true) (by decide +kernel) rfl rfl (gd_lret (by decide +kernel) rfl (h.1 g1)))) (fun g1 => (gd_blk [(.lload 5, 2, 0, 0, 0, 0), (.ldc2_w 189, 3, 0, 0, 0, 64), (.lmul, 1, 0, 0, 0, 0), (.lload_n 1, 1, 0, 0, 0, 0), (.lload_n 3, 1, 0, 0, 0, 0)] 20 (L' := [.ref 29, .long a1, .null, .long a3, .null, .long a5, .null, .int a7]) (st' := [.long a3, .long a1, .long (a5 * (lN 64))]) (μ' := μ) (f := true) (by decide +kernel) rfl rfl (gd_blk [(.iload 7, 2, 0, 0, 0, 0), (.lshr, 1, 0, 0, 0, 0), (.ldc2_w 191, 3, 0, 0, 0, 63), (.land, 1, 0, 0, 0, 0), (.lmul, 1, 0, 0, 0, 0)] 28 (L' := [.ref 29, .long a1, .null, .long a3, .null, .long a5, .null, .int a7]) (st' := [.long (a1 * ((a3 >>> (Int32.toInt64 a7 &&& 63)) &&& (lN 63))), .long (a5 * (lN 64))]) (μ' := μ) (f := true) (by decide +kernel) rfl rfl (gd_blk [(.ladd, 1, 0, 0, 0, 0), (.aload_n 0, 1, 0, 0, 0, 0), (.getfield 193, 3, 7, 19, 1, 0), (.lrem, 1, 0, 0, 0, 0), (.lstore 5, 2, 0, 0, 0, 0)] 36 (L' := [.ref 29, .long a1, .null, .long a3, .null, .long (((a5 * (lN 64)) + (a1 * ((a3 >>> (Int32.toInt64 a7 &&& 63)) &&& (lN 63)))) - ((a5 * (lN 64)) + (a1 * ((a3 >>> (Int32.toInt64 a7 &&& 63)) &&& (lN 63)))) / (ss_l μ 29 19) * (ss_l μ 29 19)), .null, .int a7]) (st' := []) (μ' := μ) (f := ((decide (¬ (ss_l μ 29 19) = 0)) && true)) (by decide +kernel) rfl (fa (h.2 g1).1 rfl) (gd_blk [(.iinc 7 (-6), 3, 0, 0, 0, 0)] 39 (L' := [.ref 29, .long a1, .null, .long a3, .null, .long (((a5 * (lN 64)) + (a1 * ((a3 >>> (Int32.toInt64 a7 &&& 63)) &&& (lN 63)))) - ((a5 * (lN 64)) + (a1 * ((a3 >>> (Int32.toInt64 a7 &&& 63)) &&& (lN 63)))) / (ss_l μ 29 19) * (ss_l μ 29 19)), .null, .int (a7 + (-6))]) (st' := []) (μ' := μ) (f := true) (by decide +kernel) rfl rfl (gd_goto (off := (-32)) (tgt := 7) (by decide +kernel) (by decide) (gd_weak (L' := [.ref 29, .long a1, .null, .long a3, .null, .long (((a5 * (lN 64)) + (a1 * ((a3 >>> (Int32.toInt64 a7 &&& 63)) &&& (lN 63)))) - ((a5 * (lN 64)) + (a1 * ((a3 >>> (Int32.toInt64 a7 &&& 63)) &&& (lN 63)))) / (ss_l μ 29 19) * (ss_l μ 29 19)), .null, .int (a7 + (-6))]) ⟨Or.inr rfl, ⟨Or.inr rfl, ⟨Or.inl rfl, ⟨Or.inr rfl, ⟨Or.inl rfl, ⟨Or.inr rfl, ⟨Or.inl rfl, ⟨Or.inr rfl, trivial⟩⟩⟩⟩⟩⟩⟩⟩ (h.2 g1).2)))))))))
theorem Tr_X7_common_0 {l : Launch} {ω : Wd} {a0 a2 : Int64} {μ : Mm} {Q : Option Value → Mm → Prop} (h : Good l ω M_X7_common 6 [.null, .null, .null, .null, .long a0, .null, .long a2, .null, .null, .null] [] μ Q) : Good l ω M_X7_common 0 [.long a0, .null, .long a2, .null, .null, .null, .null, .null, .null, .null] [] μ Q := (gd_blk [(.lload_n 0, 1, 0, 0, 0, 0), (.lstore 4, 2, 0, 0, 0, 0), (.lload_n 2, 1, 0, 0, 0, 0), (.lstore 6, 2, 0, 0, 0, 0)] 6 (L' := [.long a0, .null, .long a2, .null, .long a0, .null, .long a2, .null, .null, .null]) (st' := []) (μ' := μ) (f := true) (by decide +kernel) rfl rfl (gd_weak (L' := [.null, .null, .null, .null, .long a0, .null, .long a2, .null, .null, .null]) ⟨Or.inl rfl, ⟨Or.inl rfl, ⟨Or.inl rfl, ⟨Or.inl rfl, ⟨Or.inr rfl, ⟨Or.inl rfl, ⟨Or.inr rfl, ⟨Or.inl rfl, ⟨Or.inl rfl, ⟨Or.inl rfl, trivial⟩⟩⟩⟩⟩⟩⟩⟩⟩⟩ h))
theorem Ct_X7_common {l : Launch} {ω : Wd} {a0 a2 : Int64} {μ : Mm} {Q : Option Value → Mm → Prop} (h : Good l ω M_X7_common 6 [.null, .null, .null, .null, .long a0, .null, .long a2, .null, .null, .null] [] μ Q) : Ctr l ω M_X7_common [.long a0, .long a2] μ Q := ctr_of (by decide +kernel) rfl (Nat.le_of_ble_eq_true rfl) (Tr_X7_common_0 h)
theorem Tr_X7_common_6 {l : Launch} {ω : Wd} {a4 a6 : Int64} {μ : Mm} {Q : Option Value → Mm → Prop} (h : (((lg_cmp a6 (lN 0)) = 0 → (Q (some (.long a4)) μ)) ∧ (¬ ((lg_cmp a6 (lN 0)) = 0) → ((decide (¬ a6 = 0)) = true ∧ (Good l ω M_X7_common 6 [.null, .null, .null, .null, .long a6, .null, .long (a4 - a4 / a6 * a6), .null, .null, .null] [] μ Q))))) : Good l ω M_X7_common 6 [.null, .null, .null, .null, .long a4, .null, .long a6, .null, .null, .null] [] μ Q := (gd_blk [(.lload 6, 2, 0, 0, 0, 0), (.lconst 0, 1, 0, 0, 0, 0), (.lcmp, 1, 0, 0, 0, 0)] 10 (L' := [.null, .null, .null, .null, .long a4, .null, .long a6, .null, .null, .null]) (st' := [.int (lg_cmp a6 (lN 0))]) (μ' := μ) (f := true) (by decide +kernel) rfl rfl (gd_if (cd := .eq) (off := 21) (tgt := 31) (by decide +kernel) (by decide) (fun g1 => (gd_blk [(.lload 4, 2, 0, 0, 0, 0)] 33 (L' := [.null, .null, .null, .null, .long a4, .null, .long a6, .null, .null, .null]) (st' := [.long a4]) (μ' := μ) (f := true) (by decide +kernel) rfl rfl (gd_lret (by decide +kernel) rfl (h.1 g1)))) (fun g1 => (gd_blk [(.lload 4, 2, 0, 0, 0, 0), (.lload 6, 2, 0, 0, 0, 0), (.lrem, 1, 0, 0, 0, 0), (.lstore 8, 2, 0, 0, 0, 0), (.lload 6, 2, 0, 0, 0, 0)] 22 (L' := [.null, .null, .null, .null, .long a4, .null, .long a6, .null, .long (a4 - a4 / a6 * a6), .null]) (st' := [.long a6]) (μ' := μ) (f := ((decide (¬ a6 = 0)) && true)) (by decide +kernel) rfl (fa (h.2 g1).1 rfl) (gd_blk [(.lstore 4, 2, 0, 0, 0, 0), (.lload 8, 2, 0, 0, 0, 0), (.lstore 6, 2, 0, 0, 0, 0)] 28 (L' := [.null, .null, .null, .null, .long a6, .null, .long (a4 - a4 / a6 * a6), .null, .long (a4 - a4 / a6 * a6), .null]) (st' := []) (μ' := μ) (f := true) (by decide +kernel) rfl rfl (gd_goto (off := (-22)) (tgt := 6) (by decide +kernel) (by decide) (gd_weak (L' := [.null, .null, .null, .null, .long a6, .null, .long (a4 - a4 / a6 * a6), .null, .null, .null]) ⟨Or.inl rfl, ⟨Or.inl rfl, ⟨Or.inl rfl, ⟨Or.inl rfl, ⟨Or.inr rfl, ⟨Or.inl rfl, ⟨Or.inr rfl, ⟨Or.inl rfl, ⟨Or.inl rfl, ⟨Or.inl rfl, trivial⟩⟩⟩⟩⟩⟩⟩⟩⟩⟩ (h.2 g1).2)))))))
theorem Tr_X7_squeezed_0 {l : Launch} {ω : Wd} {a0 a1 : Int32} {μ : Mm} {Q : Option Value → Mm → Prop} (h : Good l ω M_X7_squeezed 7 [.int a0, .int a1, .int (nI 0), .int (nI 0), .int (nI 0)] [] μ Q) : Good l ω M_X7_squeezed 0 [.int a0, .int a1, .null, .null, .null] [] μ Q := (gd_blk [(.iconst 0, 1, 0, 0, 0, 0), (.istore_n 2, 1, 0, 0, 0, 0), (.iconst 0, 1, 0, 0, 0, 0), (.istore_n 3, 1, 0, 0, 0, 0), (.iconst 0, 1, 0, 0, 0, 0)] 5 (L' := [.int a0, .int a1, .int (nI 0), .int (nI 0), .null]) (st' := [.int (nI 0)]) (μ' := μ) (f := true) (by decide +kernel) rfl rfl (gd_blk [(.istore 4, 2, 0, 0, 0, 0)] 7 (L' := [.int a0, .int a1, .int (nI 0), .int (nI 0), .int (nI 0)]) (st' := []) (μ' := μ) (f := true) (by decide +kernel) rfl rfl (gd_weak (L' := [.int a0, .int a1, .int (nI 0), .int (nI 0), .int (nI 0)]) ⟨Or.inr rfl, ⟨Or.inr rfl, ⟨Or.inr rfl, ⟨Or.inr rfl, ⟨Or.inr rfl, trivial⟩⟩⟩⟩⟩ h)))
theorem Ct_X7_squeezed {l : Launch} {ω : Wd} {a0 a1 : Int32} {μ : Mm} {Q : Option Value → Mm → Prop} (h : Good l ω M_X7_squeezed 7 [.int a0, .int a1, .int (nI 0), .int (nI 0), .int (nI 0)] [] μ Q) : Ctr l ω M_X7_squeezed [.int a0, .int a1] μ Q := ctr_of (by decide +kernel) rfl (Nat.le_of_ble_eq_true rfl) (Tr_X7_squeezed_0 h)
theorem Tr_X7_squeezed_7 {l : Launch} {ω : Wd} {a0 a1 a2 a3 a4 : Int32} {μ : Mm} {Q : Option Value → Mm → Prop} (h : (((nI 6) ≤ a4 → (Q (some (.int a2)) μ)) ∧ (¬ ((nI 6) ≤ a4) → (((¬ ((a1 >>> (a4 &&& 31)) &&& (nI 1)) = (nI 1) → (Good l ω M_X7_squeezed 7 [.int a0, .int a1, .int a2, .int a3, .int (a4 + (nI 1))] [] μ Q)) ∧ (¬ (¬ ((a1 >>> (a4 &&& 31)) &&& (nI 1)) = (nI 1)) → (Good l ω M_X7_squeezed 7 [.int a0, .int a1, .int (a2 ||| (((a0 >>> (a4 &&& 31)) &&& (nI 1)) <<< (a3 &&& 31))), .int (a3 + (nI 1)), .int (a4 + (nI 1))] [] μ Q))))))) : Good l ω M_X7_squeezed 7 [.int a0, .int a1, .int a2, .int a3, .int a4] [] μ Q := (gd_blk [(.iload 4, 2, 0, 0, 0, 0), (.bipush 6, 2, 0, 0, 0, 0)] 11 (L' := [.int a0, .int a1, .int a2, .int a3, .int a4]) (st' := [.int (nI 6), .int a4]) (μ' := μ) (f := true) (by decide +kernel) rfl rfl (gd_icmp (cd := .ge) (off := 33) (tgt := 44) (by decide +kernel) (by decide) (fun g2 => (gd_blk [(.iload_n 2, 1, 0, 0, 0, 0)] 45 (L' := [.int a0, .int a1, .int a2, .int a3, .int a4]) (st' := [.int a2]) (μ' := μ) (f := true) (by decide +kernel) rfl rfl (gd_iret (ty := .int) (by decide +kernel) rfl rfl (h.1 g2)))) (fun g2 => (gd_blk [(.iload_n 1, 1, 0, 0, 0, 0), (.iload 4, 2, 0, 0, 0, 0), (.ishr, 1, 0, 0, 0, 0), (.iconst 1, 1, 0, 0, 0, 0), (.iand, 1, 0, 0, 0, 0)] 20 (L' := [.int a0, .int a1, .int a2, .int a3, .int a4]) (st' := [.int ((a1 >>> (a4 &&& 31)) &&& (nI 1))]) (μ' := μ) (f := true) (by decide +kernel) rfl rfl (gd_blk [(.iconst 1, 1, 0, 0, 0, 0)] 21 (L' := [.int a0, .int a1, .int a2, .int a3, .int a4]) (st' := [.int (nI 1), .int ((a1 >>> (a4 &&& 31)) &&& (nI 1))]) (μ' := μ) (f := true) (by decide +kernel) rfl rfl (gd_icmp (cd := .ne) (off := 17) (tgt := 38) (by decide +kernel) (by decide) (fun g1 => (gd_blk [(.iinc 4 1, 3, 0, 0, 0, 0)] 41 (L' := [.int a0, .int a1, .int a2, .int a3, .int (a4 + (nI 1))]) (st' := []) (μ' := μ) (f := true) (by decide +kernel) rfl rfl (gd_goto (off := (-34)) (tgt := 7) (by decide +kernel) (by decide) (gd_weak (L' := [.int a0, .int a1, .int a2, .int a3, .int (a4 + (nI 1))]) ⟨Or.inr rfl, ⟨Or.inr rfl, ⟨Or.inr rfl, ⟨Or.inr rfl, ⟨Or.inr rfl, trivial⟩⟩⟩⟩⟩ ((h.2 g2).1 g1))))) (fun g1 => (gd_blk [(.iload_n 2, 1, 0, 0, 0, 0), (.iload_n 0, 1, 0, 0, 0, 0), (.iload 4, 2, 0, 0, 0, 0), (.ishr, 1, 0, 0, 0, 0), (.iconst 1, 1, 0, 0, 0, 0)] 30 (L' := [.int a0, .int a1, .int a2, .int a3, .int a4]) (st' := [.int (nI 1), .int (a0 >>> (a4 &&& 31)), .int a2]) (μ' := μ) (f := true) (by decide +kernel) rfl rfl (gd_blk [(.iand, 1, 0, 0, 0, 0), (.iload_n 3, 1, 0, 0, 0, 0), (.ishl, 1, 0, 0, 0, 0), (.ior, 1, 0, 0, 0, 0), (.istore_n 2, 1, 0, 0, 0, 0)] 35 (L' := [.int a0, .int a1, .int (a2 ||| (((a0 >>> (a4 &&& 31)) &&& (nI 1)) <<< (a3 &&& 31))), .int a3, .int a4]) (st' := []) (μ' := μ) (f := true) (by decide +kernel) rfl rfl (gd_blk [(.iinc 3 1, 3, 0, 0, 0, 0), (.iinc 4 1, 3, 0, 0, 0, 0)] 41 (L' := [.int a0, .int a1, .int (a2 ||| (((a0 >>> (a4 &&& 31)) &&& (nI 1)) <<< (a3 &&& 31))), .int (a3 + (nI 1)), .int (a4 + (nI 1))]) (st' := []) (μ' := μ) (f := true) (by decide +kernel) rfl rfl (gd_goto (off := (-34)) (tgt := 7) (by decide +kernel) (by decide) (gd_weak (L' := [.int a0, .int a1, .int (a2 ||| (((a0 >>> (a4 &&& 31)) &&& (nI 1)) <<< (a3 &&& 31))), .int (a3 + (nI 1)), .int (a4 + (nI 1))]) ⟨Or.inr rfl, ⟨Or.inr rfl, ⟨Or.inr rfl, ⟨Or.inr rfl, ⟨Or.inr rfl, trivial⟩⟩⟩⟩⟩ ((h.2 g2).2 g1)))))))))))))
theorem Tr_X7_greater_0 {l : Launch} {ω : Wd} {a0 a1 : Int32} {μ : Mm} {Q : Option Value → Mm → Prop} (h : ((a0 ≤ a1 → (Q (some (.int a1)) μ)) ∧ (¬ (a0 ≤ a1) → (Q (some (.int a0)) μ)))) : Good l ω M_X7_greater 0 [.int a0, .int a1] [] μ Q := (gd_blk [(.iload_n 0, 1, 0, 0, 0, 0), (.iload_n 1, 1, 0, 0, 0, 0)] 2 (L' := [.int a0, .int a1]) (st' := [.int a1, .int a0]) (μ' := μ) (f := true) (by decide +kernel) rfl rfl (gd_icmp (cd := .le) (off := 7) (tgt := 9) (by decide +kernel) (by decide) (fun g1 => (gd_blk [(.iload_n 1, 1, 0, 0, 0, 0)] 10 (L' := [.int a0, .int a1]) (st' := [.int a1]) (μ' := μ) (f := true) (by decide +kernel) rfl rfl (gd_iret (ty := .int) (by decide +kernel) rfl rfl (h.1 g1)))) (fun g1 => (gd_blk [(.iload_n 0, 1, 0, 0, 0, 0)] 6 (L' := [.int a0, .int a1]) (st' := [.int a0]) (μ' := μ) (f := true) (by decide +kernel) rfl rfl (gd_goto (off := 4) (tgt := 10) (by decide +kernel) (by decide) (gd_iret (ty := .int) (by decide +kernel) rfl rfl (h.2 g1)))))))
theorem Ct_X7_greater {l : Launch} {ω : Wd} {a0 a1 : Int32} {μ : Mm} {Q : Option Value → Mm → Prop} (h : ((a0 ≤ a1 → (Q (some (.int a1)) μ)) ∧ (¬ (a0 ≤ a1) → (Q (some (.int a0)) μ)))) : Ctr l ω M_X7_greater [.int a0, .int a1] μ Q := ctr_of (by decide +kernel) rfl (Nat.le_of_ble_eq_true rfl) (Tr_X7_greater_0 h)
theorem Tr_X0_has_0 {l : Launch} {ω : Wd} {a1 : Int32} {a0 : Nat} {μ : Mm} {Q : Option Value → Mm → Prop} (h : ((a1 < 0 → (Q (some (.int (nI 0))) μ)) ∧ (¬ (a1 < 0) → (oCl a0 0 = true ∧ ((((ss_i μ a0 2) ≤ a1 → (Q (some (.int (nI 0))) μ)) ∧ (¬ ((ss_i μ a0 2) ≤ a1) → (Q (some (.int (nI 1))) μ)))))))) : Good l ω M_X0_has 0 [.ref a0, .int a1] [] μ Q := (gd_blk [(.iload_n 1, 1, 0, 0, 0, 0)] 1 (L' := [.ref a0, .int a1]) (st' := [.int a1]) (μ' := μ) (f := true) (by decide +kernel) rfl rfl (gd_if (cd := .lt) (off := 15) (tgt := 16) (by decide +kernel) (by decide) (fun g2 => (gd_blk [(.iconst 0, 1, 0, 0, 0, 0)] 17 (L' := [.ref a0, .int a1]) (st' := [.int (nI 0)]) (μ' := μ) (f := true) (by decide +kernel) rfl rfl (gd_iret (ty := .boolean) (by decide +kernel) rfl (by decide) (h.1 g2)))) (fun g2 => (gd_blk [(.iload_n 1, 1, 0, 0, 0, 0), (.aload_n 0, 1, 0, 0, 0, 0), (.getfield 18, 3, 0, 2, 0, 0)] 9 (L' := [.ref a0, .int a1]) (st' := [.int (ss_i μ a0 2), .int a1]) (μ' := μ) (f := (oCl a0 0 && true)) (by decide +kernel) rfl (fa (h.2 g2).1 rfl) (gd_icmp (cd := .ge) (off := 7) (tgt := 16) (by decide +kernel) (by decide) (fun g1 => (gd_blk [(.iconst 0, 1, 0, 0, 0, 0)] 17 (L' := [.ref a0, .int a1]) (st' := [.int (nI 0)]) (μ' := μ) (f := true) (by decide +kernel) rfl rfl (gd_iret (ty := .boolean) (by decide +kernel) rfl (by decide) ((h.2 g2).2.1 g1)))) (fun g1 => (gd_blk [(.iconst 1, 1, 0, 0, 0, 0)] 13 (L' := [.ref a0, .int a1]) (st' := [.int (nI 1)]) (μ' := μ) (f := true) (by decide +kernel) rfl rfl (gd_goto (off := 4) (tgt := 17) (by decide +kernel) (by decide) (gd_iret (ty := .boolean) (by decide +kernel) rfl (by decide) ((h.2 g2).2.2 g1))))))))))
theorem Ct_X0_has {l : Launch} {ω : Wd} {a1 : Int32} {a0 : Nat} {μ : Mm} {Q : Option Value → Mm → Prop} (h : ((a1 < 0 → (Q (some (.int (nI 0))) μ)) ∧ (¬ (a1 < 0) → (oCl a0 0 = true ∧ ((((ss_i μ a0 2) ≤ a1 → (Q (some (.int (nI 0))) μ)) ∧ (¬ ((ss_i μ a0 2) ≤ a1) → (Q (some (.int (nI 1))) μ)))))))) : Ctr l ω M_X0_has [.ref a0, .int a1] μ Q := ctr_of (by decide +kernel) rfl (Nat.le_of_ble_eq_true rfl) (Tr_X0_has_0 h)
theorem Tr_X0_isMask_0 {l : Launch} {ω : Wd} {a1 a2 a3 : Int32} {a0 : Nat} {μ : Mm} {Q : Option Value → Mm → Prop} (h : ((a3 < 0 → (Q (some (.int (nI 0))) μ)) ∧ (¬ (a3 < 0) → (∃ Q1, Ctr l ω M_X6_lowBits [.int a2] μ Q1 ∧ ∀ v μ1, Q1 v μ1 → Good l ω M_X0_isMask 9 [.ref a0, .int a1, .null, .int a3] (v.toList ++ [.int a3]) μ1 Q)))) : Good l ω M_X0_isMask 0 [.ref a0, .int a1, .int a2, .int a3] [] μ Q := (gd_blk [(.iload_n 3, 1, 0, 0, 0, 0)] 1 (L' := [.ref a0, .int a1, .int a2, .int a3]) (st' := [.int a3]) (μ' := μ) (f := true) (by decide +kernel) rfl rfl (gd_if (cd := .lt) (off := 28) (tgt := 29) (by decide +kernel) (by decide) (fun g1 => (gd_blk [(.iconst 0, 1, 0, 0, 0, 0)] 30 (L' := [.ref a0, .int a1, .int a2, .int a3]) (st' := [.int (nI 0)]) (μ' := μ) (f := true) (by decide +kernel) rfl rfl (gd_iret (ty := .boolean) (by decide +kernel) rfl (by decide) (h.1 g1)))) (fun g1 => (gd_blk [(.iload_n 3, 1, 0, 0, 0, 0), (.iload_n 2, 1, 0, 0, 0, 0)] 6 (L' := [.ref a0, .int a1, .int a2, .int a3]) (st' := [.int a2, .int a3]) (μ' := μ) (f := true) (by decide +kernel) rfl rfl (Exists.elim (h.2 g1) (fun Q1 hc => gd_callN (st := [.int a3]) [.int a2] sN_0_22 (by decide +kernel) rfl rfl rfl  hc.1 (fun v μ1 hq => gd_weak (L' := [.ref a0, .int a1, .null, .int a3]) ⟨Or.inr rfl, ⟨Or.inr rfl, ⟨Or.inl rfl, ⟨Or.inr rfl, trivial⟩⟩⟩⟩ (hc.2 v μ1 hq))))))))
theorem Ct_X0_isMask {l : Launch} {ω : Wd} {a1 a2 a3 : Int32} {a0 : Nat} {μ : Mm} {Q : Option Value → Mm → Prop} (h : ((a3 < 0 → (Q (some (.int (nI 0))) μ)) ∧ (¬ (a3 < 0) → (∃ Q1, Ctr l ω M_X6_lowBits [.int a2] μ Q1 ∧ ∀ v μ1, Q1 v μ1 → Good l ω M_X0_isMask 9 [.ref a0, .int a1, .null, .int a3] (v.toList ++ [.int a3]) μ1 Q)))) : Ctr l ω M_X0_isMask [.ref a0, .int a1, .int a2, .int a3] μ Q := ctr_of (by decide +kernel) rfl (Nat.le_of_ble_eq_true rfl) (Tr_X0_isMask_0 h)
theorem Tr_X0_isMask_9 {l : Launch} {ω : Wd} {a1 a3 s0 s1 : Int32} {a0 : Nat} {μ : Mm} {Q : Option Value → Mm → Prop} (h : ((s1 < s0 → (Q (some (.int (nI 0))) μ)) ∧ (¬ (s1 < s0) → (∃ Q1, Ctr l ω M_J6_bitCount_0f7a4 [.int a3] μ Q1 ∧ ∀ v μ1, Q1 v μ1 → Good l ω M_X0_isMask 16 [.ref a0, .int a1, .null, .null] (v.toList ++ []) μ1 Q)))) : Good l ω M_X0_isMask 9 [.ref a0, .int a1, .null, .int a3] [.int s1, .int s0] μ Q := (gd_icmp (cd := .gt) (off := 20) (tgt := 29) (by decide +kernel) (by decide) (fun g2 => (gd_blk [(.iconst 0, 1, 0, 0, 0, 0)] 30 (L' := [.ref a0, .int a1, .null, .int a3]) (st' := [.int (nI 0)]) (μ' := μ) (f := true) (by decide +kernel) rfl rfl (gd_iret (ty := .boolean) (by decide +kernel) rfl (by decide) (h.1 g2)))) (fun g2 => (gd_blk [(.iload_n 3, 1, 0, 0, 0, 0)] 13 (L' := [.ref a0, .int a1, .null, .int a3]) (st' := [.int a3]) (μ' := μ) (f := true) (by decide +kernel) rfl rfl (Exists.elim (h.2 g2) (fun Q1 hc => gd_callS (st := []) [.int a3] sS_0_26 (by decide +kernel) rfl rfl rfl  hc.1 (fun v μ1 hq => gd_weak (L' := [.ref a0, .int a1, .null, .null]) ⟨Or.inr rfl, ⟨Or.inr rfl, ⟨Or.inl rfl, ⟨Or.inl rfl, trivial⟩⟩⟩⟩ (hc.2 v μ1 hq)))))))
theorem Tr_X0_isMask_16 {l : Launch} {ω : Wd} {a1 s0 : Int32} {a0 : Nat} {μ : Mm} {Q : Option Value → Mm → Prop} (h : oCl a0 0 = true ∧ inb (ss_r μ a0 0) 1 a1 = true ∧ (((¬ s0 = (ss_i μ (ss_r μ a0 0) (Int32.toNatClampNeg a1)) → (Q (some (.int (nI 0))) μ)) ∧ (¬ (¬ s0 = (ss_i μ (ss_r μ a0 0) (Int32.toNatClampNeg a1))) → (Q (some (.int (nI 1))) μ))))) : Good l ω M_X0_isMask 16 [.ref a0, .int a1, .null, .null] [.int s0] μ Q := (gd_blk [(.aload_n 0, 1, 0, 0, 0, 0), (.getfield 9, 3, 0, 0, 2, 0), (.iload_n 1, 1, 0, 0, 0, 0), (.iaload, 1, 0, 0, 0, 0)] 22 (L' := [.ref a0, .int a1, .null, .null]) (st' := [.int (ss_i μ (ss_r μ a0 0) (Int32.toNatClampNeg a1)), .int s0]) (μ' := μ) (f := (inb (ss_r μ a0 0) 1 a1 && (oCl a0 0 && true))) (by decide +kernel) rfl (fa h.2.1 (fa h.1 rfl)) (gd_icmp (cd := .ne) (off := 7) (tgt := 29) (by decide +kernel) (by decide) (fun g3 => (gd_blk [(.iconst 0, 1, 0, 0, 0, 0)] 30 (L' := [.ref a0, .int a1, .null, .null]) (st' := [.int (nI 0)]) (μ' := μ) (f := true) (by decide +kernel) rfl rfl (gd_iret (ty := .boolean) (by decide +kernel) rfl (by decide) (h.2.2.1 g3)))) (fun g3 => (gd_blk [(.iconst 1, 1, 0, 0, 0, 0)] 26 (L' := [.ref a0, .int a1, .null, .null]) (st' := [.int (nI 1)]) (μ' := μ) (f := true) (by decide +kernel) rfl rfl (gd_goto (off := 4) (tgt := 30) (by decide +kernel) (by decide) (gd_iret (ty := .boolean) (by decide +kernel) rfl (by decide) (h.2.2.2 g3)))))))
theorem Tr_X0_faceAt_0 {l : Launch} {ω : Wd} {a1 a2 : Int32} {a0 : Nat} {μ : Mm} {Q : Option Value → Mm → Prop} (h : oCl a0 0 = true ∧ (inb (ss_r μ a0 1) 1 ((a1 * (nI 5)) + a2) = true ∧ (Q (some (.int (ss_i μ (ss_r μ a0 1) (Int32.toNatClampNeg ((a1 * (nI 5)) + a2))))) μ))) : Good l ω M_X0_faceAt 0 [.ref a0, .int a1, .int a2] [] μ Q := (gd_blk [(.aload_n 0, 1, 0, 0, 0, 0), (.getfield 15, 3, 0, 1, 2, 0), (.iload_n 1, 1, 0, 0, 0, 0), (.iconst 5, 1, 0, 0, 0, 0), (.imul, 1, 0, 0, 0, 0)] 7 (L' := [.ref a0, .int a1, .int a2]) (st' := [.int (a1 * (nI 5)), .ref (ss_r μ a0 1)]) (μ' := μ) (f := (oCl a0 0 && true)) (by decide +kernel) rfl (fa h.1 rfl) (gd_blk [(.iload_n 2, 1, 0, 0, 0, 0), (.iadd, 1, 0, 0, 0, 0), (.iaload, 1, 0, 0, 0, 0)] 10 (L' := [.ref a0, .int a1, .int a2]) (st' := [.int (ss_i μ (ss_r μ a0 1) (Int32.toNatClampNeg ((a1 * (nI 5)) + a2)))]) (μ' := μ) (f := (inb (ss_r μ a0 1) 1 ((a1 * (nI 5)) + a2) && true)) (by decide +kernel) rfl (fa h.2.1 rfl) (gd_iret (ty := .int) (by decide +kernel) rfl rfl h.2.2)))
theorem Ct_X0_faceAt {l : Launch} {ω : Wd} {a1 a2 : Int32} {a0 : Nat} {μ : Mm} {Q : Option Value → Mm → Prop} (h : oCl a0 0 = true ∧ (inb (ss_r μ a0 1) 1 ((a1 * (nI 5)) + a2) = true ∧ (Q (some (.int (ss_i μ (ss_r μ a0 1) (Int32.toNatClampNeg ((a1 * (nI 5)) + a2))))) μ))) : Ctr l ω M_X0_faceAt [.ref a0, .int a1, .int a2] μ Q := ctr_of (by decide +kernel) rfl (Nat.le_of_ble_eq_true rfl) (Tr_X0_faceAt_0 h)
theorem Tr_X1_exists_0 {l : Launch} {ω : Wd} {μ : Mm} {Q : Option Value → Mm → Prop} (h : (((ss_i μ 10 1) ≤ 0 → (Q (some (.int (nI 0))) μ)) ∧ (¬ ((ss_i μ 10 1) ≤ 0) → (Q (some (.int (nI 1))) μ)))) : Good l ω M_X1_exists 0 [.ref 10] [] μ Q := (gd_blk [(.aload_n 0, 1, 0, 0, 0, 0), (.getfield 15, 3, 1, 1, 0, 0)] 4 (L' := [.ref 10]) (st' := [.int (ss_i μ 10 1)]) (μ' := μ) (f := true) (by decide +kernel) rfl rfl (gd_if (cd := .le) (off := 7) (tgt := 11) (by decide +kernel) (by decide) (fun g1 => (gd_blk [(.iconst 0, 1, 0, 0, 0, 0)] 12 (L' := [.ref 10]) (st' := [.int (nI 0)]) (μ' := μ) (f := true) (by decide +kernel) rfl rfl (gd_iret (ty := .boolean) (by decide +kernel) rfl (by decide) (h.1 g1)))) (fun g1 => (gd_blk [(.iconst 1, 1, 0, 0, 0, 0)] 8 (L' := [.ref 10]) (st' := [.int (nI 1)]) (μ' := μ) (f := true) (by decide +kernel) rfl rfl (gd_goto (off := 4) (tgt := 12) (by decide +kernel) (by decide) (gd_iret (ty := .boolean) (by decide +kernel) rfl (by decide) (h.2 g1)))))))
theorem Ct_X1_exists {l : Launch} {ω : Wd} {μ : Mm} {Q : Option Value → Mm → Prop} (h : (((ss_i μ 10 1) ≤ 0 → (Q (some (.int (nI 0))) μ)) ∧ (¬ ((ss_i μ 10 1) ≤ 0) → (Q (some (.int (nI 1))) μ)))) : Ctr l ω M_X1_exists [.ref 10] μ Q := ctr_of (by decide +kernel) rfl (Nat.le_of_ble_eq_true rfl) (Tr_X1_exists_0 h)
theorem Tr_X3_lower_0 {l : Launch} {ω : Wd} {a0 : Int32} {μ : Mm} {Q : Option Value → Mm → Prop} (h : ((¬ a0 = 0 → (Q (some (.int (nI 0))) μ)) ∧ (¬ (¬ a0 = 0) → (Q (some (.int (nI 1))) μ)))) : Good l ω M_X3_lower 0 [.int a0] [] μ Q := (gd_blk [(.iload_n 0, 1, 0, 0, 0, 0)] 1 (L' := [.int a0]) (st' := [.int a0]) (μ' := μ) (f := true) (by decide +kernel) rfl rfl (gd_if (cd := .ne) (off := 7) (tgt := 8) (by decide +kernel) (by decide) (fun g1 => (gd_blk [(.iconst 0, 1, 0, 0, 0, 0)] 9 (L' := [.int a0]) (st' := [.int (nI 0)]) (μ' := μ) (f := true) (by decide +kernel) rfl rfl (gd_iret (ty := .int) (by decide +kernel) rfl rfl (h.1 g1)))) (fun g1 => (gd_blk [(.iconst 1, 1, 0, 0, 0, 0)] 5 (L' := [.int a0]) (st' := [.int (nI 1)]) (μ' := μ) (f := true) (by decide +kernel) rfl rfl (gd_goto (off := 4) (tgt := 9) (by decide +kernel) (by decide) (gd_iret (ty := .int) (by decide +kernel) rfl rfl (h.2 g1)))))))
theorem Ct_X3_lower {l : Launch} {ω : Wd} {a0 : Int32} {μ : Mm} {Q : Option Value → Mm → Prop} (h : ((¬ a0 = 0 → (Q (some (.int (nI 0))) μ)) ∧ (¬ (¬ a0 = 0) → (Q (some (.int (nI 1))) μ)))) : Ctr l ω M_X3_lower [.int a0] μ Q := ctr_of (by decide +kernel) rfl (Nat.le_of_ble_eq_true rfl) (Tr_X3_lower_0 h)
theorem Tr_X3_upper_0 {l : Launch} {ω : Wd} {a0 : Int32} {μ : Mm} {Q : Option Value → Mm → Prop} (h : ((¬ a0 = (nI 2) → (Q (some (.int (nI 2))) μ)) ∧ (¬ (¬ a0 = (nI 2)) → (Q (some (.int (nI 1))) μ)))) : Good l ω M_X3_upper 0 [.int a0] [] μ Q := (gd_blk [(.iload_n 0, 1, 0, 0, 0, 0), (.iconst 2, 1, 0, 0, 0, 0)] 2 (L' := [.int a0]) (st' := [.int (nI 2), .int a0]) (μ' := μ) (f := true) (by decide +kernel) rfl rfl (gd_icmp (cd := .ne) (off := 7) (tgt := 9) (by decide +kernel) (by decide) (fun g1 => (gd_blk [(.iconst 2, 1, 0, 0, 0, 0)] 10 (L' := [.int a0]) (st' := [.int (nI 2)]) (μ' := μ) (f := true) (by decide +kernel) rfl rfl (gd_iret (ty := .int) (by decide +kernel) rfl rfl (h.1 g1)))) (fun g1 => (gd_blk [(.iconst 1, 1, 0, 0, 0, 0)] 6 (L' := [.int a0]) (st' := [.int (nI 1)]) (μ' := μ) (f := true) (by decide +kernel) rfl rfl (gd_goto (off := 4) (tgt := 10) (by decide +kernel) (by decide) (gd_iret (ty := .int) (by decide +kernel) rfl rfl (h.2 g1)))))))
theorem Ct_X3_upper {l : Launch} {ω : Wd} {a0 : Int32} {μ : Mm} {Q : Option Value → Mm → Prop} (h : ((¬ a0 = (nI 2) → (Q (some (.int (nI 2))) μ)) ∧ (¬ (¬ a0 = (nI 2)) → (Q (some (.int (nI 1))) μ)))) : Ctr l ω M_X3_upper [.int a0] μ Q := ctr_of (by decide +kernel) rfl (Nat.le_of_ble_eq_true rfl) (Tr_X3_upper_0 h)
theorem Tr_X5_residue_0 {l : Launch} {ω : Wd} {a1 : Int64} {μ : Mm} {Q : Option Value → Mm → Prop} (h : (decide (¬ (ss_l μ 22 4) = 0)) = true ∧ (((0 ≤ (lg_cmp (a1 - a1 / (ss_l μ 22 4) * (ss_l μ 22 4)) (lN 0)) → (Q (some (.long (a1 - a1 / (ss_l μ 22 4) * (ss_l μ 22 4)))) μ)) ∧ (¬ (0 ≤ (lg_cmp (a1 - a1 / (ss_l μ 22 4) * (ss_l μ 22 4)) (lN 0))) → (Q (some (.long ((a1 - a1 / (ss_l μ 22 4) * (ss_l μ 22 4)) + (ss_l μ 22 4)))) μ))))) : Good l ω M_X5_residue 0 [.ref 22, .long a1, .null, .null, .null] [] μ Q := (gd_blk [(.lload_n 1, 1, 0, 0, 0, 0), (.aload_n 0, 1, 0, 0, 0, 0), (.getfield 19, 3, 5, 4, 1, 0), (.lrem, 1, 0, 0, 0, 0), (.lstore_n 3, 1, 0, 0, 0, 0)] 7 (L' := [.ref 22, .long a1, .null, .long (a1 - a1 / (ss_l μ 22 4) * (ss_l μ 22 4)), .null]) (st' := []) (μ' := μ) (f := ((decide (¬ (ss_l μ 22 4) = 0)) && true)) (by decide +kernel) rfl (fa h.1 rfl) (gd_blk [(.lload_n 3, 1, 0, 0, 0, 0), (.lconst 0, 1, 0, 0, 0, 0), (.lcmp, 1, 0, 0, 0, 0)] 10 (L' := [.ref 22, .long a1, .null, .long (a1 - a1 / (ss_l μ 22 4) * (ss_l μ 22 4)), .null]) (st' := [.int (lg_cmp (a1 - a1 / (ss_l μ 22 4) * (ss_l μ 22 4)) (lN 0))]) (μ' := μ) (f := true) (by decide +kernel) rfl rfl (gd_if (cd := .ge) (off := 12) (tgt := 22) (by decide +kernel) (by decide) (fun g1 => (gd_blk [(.lload_n 3, 1, 0, 0, 0, 0)] 23 (L' := [.ref 22, .long a1, .null, .long (a1 - a1 / (ss_l μ 22 4) * (ss_l μ 22 4)), .null]) (st' := [.long (a1 - a1 / (ss_l μ 22 4) * (ss_l μ 22 4))]) (μ' := μ) (f := true) (by decide +kernel) rfl rfl (gd_lret (by decide +kernel) rfl (h.2.1 g1)))) (fun g1 => (gd_blk [(.lload_n 3, 1, 0, 0, 0, 0), (.aload_n 0, 1, 0, 0, 0, 0), (.getfield 19, 3, 5, 4, 1, 0), (.ladd, 1, 0, 0, 0, 0)] 19 (L' := [.ref 22, .long a1, .null, .long (a1 - a1 / (ss_l μ 22 4) * (ss_l μ 22 4)), .null]) (st' := [.long ((a1 - a1 / (ss_l μ 22 4) * (ss_l μ 22 4)) + (ss_l μ 22 4))]) (μ' := μ) (f := true) (by decide +kernel) rfl rfl (gd_goto (off := 4) (tgt := 23) (by decide +kernel) (by decide) (gd_lret (by decide +kernel) rfl (h.2.2 g1))))))))
theorem Ct_X5_residue {l : Launch} {ω : Wd} {a1 : Int64} {μ : Mm} {Q : Option Value → Mm → Prop} (h : (decide (¬ (ss_l μ 22 4) = 0)) = true ∧ (((0 ≤ (lg_cmp (a1 - a1 / (ss_l μ 22 4) * (ss_l μ 22 4)) (lN 0)) → (Q (some (.long (a1 - a1 / (ss_l μ 22 4) * (ss_l μ 22 4)))) μ)) ∧ (¬ (0 ≤ (lg_cmp (a1 - a1 / (ss_l μ 22 4) * (ss_l μ 22 4)) (lN 0))) → (Q (some (.long ((a1 - a1 / (ss_l μ 22 4) * (ss_l μ 22 4)) + (ss_l μ 22 4)))) μ))))) : Ctr l ω M_X5_residue [.ref 22, .long a1] μ Q := ctr_of (by decide +kernel) rfl (Nat.le_of_ble_eq_true rfl) (Tr_X5_residue_0 h)
theorem Tr_X5_times_0 {l : Launch} {ω : Wd} {a1 a3 : Int64} {μ : Mm} {Q : Option Value → Mm → Prop} (h : Good l ω M_X5_times 7 [.ref 22, .long a1, .null, .long a3, .null, .long (lN 0), .null, .int (nI 32)] [] μ Q) : Good l ω M_X5_times 0 [.ref 22, .long a1, .null, .long a3, .null, .null, .null, .null] [] μ Q := (gd_blk [(.lconst 0, 1, 0, 0, 0, 0), (.lstore 5, 2, 0, 0, 0, 0), (.bipush 32, 2, 0, 0, 0, 0), (.istore 7, 2, 0, 0, 0, 0)] 7 (L' := [.ref 22, .long a1, .null, .long a3, .null, .long (lN 0), .null, .int (nI 32)]) (st' := []) (μ' := μ) (f := true) (by decide +kernel) rfl rfl (gd_weak (L' := [.ref 22, .long a1, .null, .long a3, .null, .long (lN 0), .null, .int (nI 32)]) ⟨Or.inr rfl, ⟨Or.inr rfl, ⟨Or.inl rfl, ⟨Or.inr rfl, ⟨Or.inl rfl, ⟨Or.inr rfl, ⟨Or.inl rfl, ⟨Or.inr rfl, trivial⟩⟩⟩⟩⟩⟩⟩⟩ h))
theorem Ct_X5_times {l : Launch} {ω : Wd} {a1 a3 : Int64} {μ : Mm} {Q : Option Value → Mm → Prop} (h : Good l ω M_X5_times 7 [.ref 22, .long a1, .null, .long a3, .null, .long (lN 0), .null, .int (nI 32)] [] μ Q) : Ctr l ω M_X5_times [.ref 22, .long a1, .long a3] μ Q := ctr_of (by decide +kernel) rfl (Nat.le_of_ble_eq_true rfl) (Tr_X5_times_0 h)
theorem Tr_X5_times_7 {l : Launch} {ω : Wd} {a7 : Int32} {a1 a3 a5 : Int64} {μ : Mm} {Q : Option Value → Mm → Prop} (h : ((a7 < 0 → (Q (some (.long a5)) μ)) ∧ (¬ (a7 < 0) → ((decide (¬ (ss_l μ 22 4) = 0)) = true ∧ (Good l ω M_X5_times 7 [.ref 22, .long a1, .null, .long a3, .null, .long (((a5 <<< (Int32.toInt64 (nI 16) &&& 63)) + (a1 * ((a3 >>> (Int32.toInt64 a7 &&& 63)) &&& (lN 65535)))) - ((a5 <<< (Int32.toInt64 (nI 16) &&& 63)) + (a1 * ((a3 >>> (Int32.toInt64 a7 &&& 63)) &&& (lN 65535)))) / (ss_l μ 22 4) * (ss_l μ 22 4)), .null, .int (a7 + (-16))] [] μ Q))))) : Good l ω M_X5_times 7 [.ref 22, .long a1, .null, .long a3, .null, .long a5, .null, .int a7] [] μ Q := (gd_blk [(.iload 7, 2, 0, 0, 0, 0)] 9 (L' := [.ref 22, .long a1, .null, .long a3, .null, .long a5, .null, .int a7]) (st' := [.int a7]) (μ' := μ) (f := true) (by decide +kernel) rfl rfl (gd_if (cd := .lt) (off := 32) (tgt := 41) (by decide +kernel) (by decide) (fun g1 => (gd_blk [(.lload 5, 2, 0, 0, 0, 0)] 43 (L' := [.ref 22, .long a1, .null, .long a3, .null, .long a5, .null, .int a7]) (st' := [.long a5]) (μ' := μ) (f := true) (by decide +kernel) rfl rfl (gd_lret (by decide +kernel) rfl (h.1 g1)))) (fun g1 => (gd_blk [(.lload 5, 2, 0, 0, 0, 0), (.bipush 16, 2, 0, 0, 0, 0), (.lshl, 1, 0, 0, 0, 0), (.lload_n 1, 1, 0, 0, 0, 0), (.lload_n 3, 1, 0, 0, 0, 0)] 19 (L' := [.ref 22, .long a1, .null, .long a3, .null, .long a5, .null, .int a7]) (st' := [.long a3, .long a1, .long (a5 <<< (Int32.toInt64 (nI 16) &&& 63))]) (μ' := μ) (f := true) (by decide +kernel) rfl rfl (gd_blk [(.iload 7, 2, 0, 0, 0, 0), (.lshr, 1, 0, 0, 0, 0), (.ldc2_w 73, 3, 0, 0, 0, 65535), (.land, 1, 0, 0, 0, 0), (.lmul, 1, 0, 0, 0, 0)] 27 (L' := [.ref 22, .long a1, .null, .long a3, .null, .long a5, .null, .int a7]) (st' := [.long (a1 * ((a3 >>> (Int32.toInt64 a7 &&& 63)) &&& (lN 65535))), .long (a5 <<< (Int32.toInt64 (nI 16) &&& 63))]) (μ' := μ) (f := true) (by decide +kernel) rfl rfl (gd_blk [(.ladd, 1, 0, 0, 0, 0), (.aload_n 0, 1, 0, 0, 0, 0), (.getfield 19, 3, 5, 4, 1, 0), (.lrem, 1, 0, 0, 0, 0), (.lstore 5, 2, 0, 0, 0, 0)] 35 (L' := [.ref 22, .long a1, .null, .long a3, .null, .long (((a5 <<< (Int32.toInt64 (nI 16) &&& 63)) + (a1 * ((a3 >>> (Int32.toInt64 a7 &&& 63)) &&& (lN 65535)))) - ((a5 <<< (Int32.toInt64 (nI 16) &&& 63)) + (a1 * ((a3 >>> (Int32.toInt64 a7 &&& 63)) &&& (lN 65535)))) / (ss_l μ 22 4) * (ss_l μ 22 4)), .null, .int a7]) (st' := []) (μ' := μ) (f := ((decide (¬ (ss_l μ 22 4) = 0)) && true)) (by decide +kernel) rfl (fa (h.2 g1).1 rfl) (gd_blk [(.iinc 7 (-16), 3, 0, 0, 0, 0)] 38 (L' := [.ref 22, .long a1, .null, .long a3, .null, .long (((a5 <<< (Int32.toInt64 (nI 16) &&& 63)) + (a1 * ((a3 >>> (Int32.toInt64 a7 &&& 63)) &&& (lN 65535)))) - ((a5 <<< (Int32.toInt64 (nI 16) &&& 63)) + (a1 * ((a3 >>> (Int32.toInt64 a7 &&& 63)) &&& (lN 65535)))) / (ss_l μ 22 4) * (ss_l μ 22 4)), .null, .int (a7 + (-16))]) (st' := []) (μ' := μ) (f := true) (by decide +kernel) rfl rfl (gd_goto (off := (-31)) (tgt := 7) (by decide +kernel) (by decide) (gd_weak (L' := [.ref 22, .long a1, .null, .long a3, .null, .long (((a5 <<< (Int32.toInt64 (nI 16) &&& 63)) + (a1 * ((a3 >>> (Int32.toInt64 a7 &&& 63)) &&& (lN 65535)))) - ((a5 <<< (Int32.toInt64 (nI 16) &&& 63)) + (a1 * ((a3 >>> (Int32.toInt64 a7 &&& 63)) &&& (lN 65535)))) / (ss_l μ 22 4) * (ss_l μ 22 4)), .null, .int (a7 + (-16))]) ⟨Or.inr rfl, ⟨Or.inr rfl, ⟨Or.inl rfl, ⟨Or.inr rfl, ⟨Or.inl rfl, ⟨Or.inr rfl, ⟨Or.inl rfl, ⟨Or.inr rfl, trivial⟩⟩⟩⟩⟩⟩⟩⟩ (h.2 g1).2)))))))))
theorem Tr_X5_power_0 {l : Launch} {ω : Wd} {a1 a3 : Int64} {μ : Mm} {Q : Option Value → Mm → Prop} (h : ∃ Q1, Ctr l ω M_X5_residue [.ref 22, .long (lN 1)] μ Q1 ∧ ∀ v μ1, Q1 v μ1 → Good l ω M_X5_power 5 [.ref 22, .long a1, .null, .long a3, .null, .null, .null, .null] (v.toList ++ []) μ1 Q) : Good l ω M_X5_power 0 [.ref 22, .long a1, .null, .long a3, .null, .null, .null, .null] [] μ Q := (gd_blk [(.aload_n 0, 1, 0, 0, 0, 0), (.lconst 1, 1, 0, 0, 0, 0)] 2 (L' := [.ref 22, .long a1, .null, .long a3, .null, .null, .null, .null]) (st' := [.long (lN 1), .ref 22]) (μ' := μ) (f := true) (by decide +kernel) rfl rfl (Exists.elim h (fun Q1 hc => gd_callV (st := []) [.long (lN 1)] sV_5_69 (by decide +kernel) rfl rfl rfl rfl hc.1 (fun v μ1 hq => gd_weak (L' := [.ref 22, .long a1, .null, .long a3, .null, .null, .null, .null]) ⟨Or.inr rfl, ⟨Or.inr rfl, ⟨Or.inl rfl, ⟨Or.inr rfl, ⟨Or.inl rfl, ⟨Or.inl rfl, ⟨Or.inl rfl, ⟨Or.inl rfl, trivial⟩⟩⟩⟩⟩⟩⟩⟩ (hc.2 v μ1 hq)))))
theorem Ct_X5_power {l : Launch} {ω : Wd} {a1 a3 : Int64} {μ : Mm} {Q : Option Value → Mm → Prop} (h : ∃ Q1, Ctr l ω M_X5_residue [.ref 22, .long (lN 1)] μ Q1 ∧ ∀ v μ1, Q1 v μ1 → Good l ω M_X5_power 5 [.ref 22, .long a1, .null, .long a3, .null, .null, .null, .null] (v.toList ++ []) μ1 Q) : Ctr l ω M_X5_power [.ref 22, .long a1, .long a3] μ Q := ctr_of (by decide +kernel) rfl (Nat.le_of_ble_eq_true rfl) (Tr_X5_power_0 h)
theorem Tr_X5_power_5 {l : Launch} {ω : Wd} {a1 a3 s0 : Int64} {μ : Mm} {Q : Option Value → Mm → Prop} (h : Good l ω M_X5_power 11 [.ref 22, .long a1, .null, .long a3, .null, .long s0, .null, .int (nI 62)] [] μ Q) : Good l ω M_X5_power 5 [.ref 22, .long a1, .null, .long a3, .null, .null, .null, .null] [.long s0] μ Q := (gd_blk [(.lstore 5, 2, 0, 0, 0, 0), (.bipush 62, 2, 0, 0, 0, 0), (.istore 7, 2, 0, 0, 0, 0)] 11 (L' := [.ref 22, .long a1, .null, .long a3, .null, .long s0, .null, .int (nI 62)]) (st' := []) (μ' := μ) (f := true) (by decide +kernel) rfl rfl (gd_weak (L' := [.ref 22, .long a1, .null, .long a3, .null, .long s0, .null, .int (nI 62)]) ⟨Or.inr rfl, ⟨Or.inr rfl, ⟨Or.inl rfl, ⟨Or.inr rfl, ⟨Or.inl rfl, ⟨Or.inr rfl, ⟨Or.inl rfl, ⟨Or.inr rfl, trivial⟩⟩⟩⟩⟩⟩⟩⟩ h))
theorem Tr_X5_power_11 {l : Launch} {ω : Wd} {a7 : Int32} {a1 a3 a5 : Int64} {μ : Mm} {Q : Option Value → Mm → Prop} (h : ((a7 < 0 → (Q (some (.long a5)) μ)) ∧ (¬ (a7 < 0) → (∃ Q1, Ctr l ω M_X5_times [.ref 22, .long a5, .long a5] μ Q1 ∧ ∀ v μ1, Q1 v μ1 → Good l ω M_X5_power 24 [.ref 22, .long a1, .null, .long a3, .null, .null, .null, .int a7] (v.toList ++ []) μ1 Q)))) : Good l ω M_X5_power 11 [.ref 22, .long a1, .null, .long a3, .null, .long a5, .null, .int a7] [] μ Q := (gd_blk [(.iload 7, 2, 0, 0, 0, 0)] 13 (L' := [.ref 22, .long a1, .null, .long a3, .null, .long a5, .null, .int a7]) (st' := [.int a7]) (μ' := μ) (f := true) (by decide +kernel) rfl rfl (gd_if (cd := .lt) (off := 39) (tgt := 52) (by decide +kernel) (by decide) (fun g1 => (gd_blk [(.lload 5, 2, 0, 0, 0, 0)] 54 (L' := [.ref 22, .long a1, .null, .long a3, .null, .long a5, .null, .int a7]) (st' := [.long a5]) (μ' := μ) (f := true) (by decide +kernel) rfl rfl (gd_lret (by decide +kernel) rfl (h.1 g1)))) (fun g1 => (gd_blk [(.aload_n 0, 1, 0, 0, 0, 0), (.lload 5, 2, 0, 0, 0, 0), (.lload 5, 2, 0, 0, 0, 0)] 21 (L' := [.ref 22, .long a1, .null, .long a3, .null, .long a5, .null, .int a7]) (st' := [.long a5, .long a5, .ref 22]) (μ' := μ) (f := true) (by decide +kernel) rfl rfl (Exists.elim (h.2 g1) (fun Q1 hc => gd_callV (st := []) [.long a5, .long a5] sV_5_75 (by decide +kernel) rfl rfl rfl rfl hc.1 (fun v μ1 hq => gd_weak (L' := [.ref 22, .long a1, .null, .long a3, .null, .null, .null, .int a7]) ⟨Or.inr rfl, ⟨Or.inr rfl, ⟨Or.inl rfl, ⟨Or.inr rfl, ⟨Or.inl rfl, ⟨Or.inl rfl, ⟨Or.inl rfl, ⟨Or.inr rfl, trivial⟩⟩⟩⟩⟩⟩⟩⟩ (hc.2 v μ1 hq))))))))
theorem Tr_X5_power_24 {l : Launch} {ω : Wd} {a7 : Int32} {a1 a3 s0 : Int64} {μ : Mm} {Q : Option Value → Mm → Prop} (h : ((¬ (lg_cmp ((a3 >>> (Int32.toInt64 a7 &&& 63)) &&& (lN 1)) (lN 1)) = 0 → (Good l ω M_X5_power 11 [.ref 22, .long a1, .null, .long a3, .null, .long s0, .null, .int (a7 + (-1))] [] μ Q)) ∧ (¬ (¬ (lg_cmp ((a3 >>> (Int32.toInt64 a7 &&& 63)) &&& (lN 1)) (lN 1)) = 0) → (∃ Q1, Ctr l ω M_X5_times [.ref 22, .long s0, .long a1] μ Q1 ∧ ∀ v μ1, Q1 v μ1 → Good l ω M_X5_power 44 [.ref 22, .long a1, .null, .long a3, .null, .null, .null, .int a7] (v.toList ++ []) μ1 Q)))) : Good l ω M_X5_power 24 [.ref 22, .long a1, .null, .long a3, .null, .null, .null, .int a7] [.long s0] μ Q := (gd_blk [(.lstore 5, 2, 0, 0, 0, 0), (.lload_n 3, 1, 0, 0, 0, 0), (.iload 7, 2, 0, 0, 0, 0), (.lshr, 1, 0, 0, 0, 0), (.lconst 1, 1, 0, 0, 0, 0)] 31 (L' := [.ref 22, .long a1, .null, .long a3, .null, .long s0, .null, .int a7]) (st' := [.long (lN 1), .long (a3 >>> (Int32.toInt64 a7 &&& 63))]) (μ' := μ) (f := true) (by decide +kernel) rfl rfl (gd_blk [(.land, 1, 0, 0, 0, 0), (.lconst 1, 1, 0, 0, 0, 0), (.lcmp, 1, 0, 0, 0, 0)] 34 (L' := [.ref 22, .long a1, .null, .long a3, .null, .long s0, .null, .int a7]) (st' := [.int (lg_cmp ((a3 >>> (Int32.toInt64 a7 &&& 63)) &&& (lN 1)) (lN 1))]) (μ' := μ) (f := true) (by decide +kernel) rfl rfl (gd_if (cd := .ne) (off := 12) (tgt := 46) (by decide +kernel) (by decide) (fun g2 => (gd_blk [(.iinc 7 (-1), 3, 0, 0, 0, 0)] 49 (L' := [.ref 22, .long a1, .null, .long a3, .null, .long s0, .null, .int (a7 + (-1))]) (st' := []) (μ' := μ) (f := true) (by decide +kernel) rfl rfl (gd_goto (off := (-38)) (tgt := 11) (by decide +kernel) (by decide) (gd_weak (L' := [.ref 22, .long a1, .null, .long a3, .null, .long s0, .null, .int (a7 + (-1))]) ⟨Or.inr rfl, ⟨Or.inr rfl, ⟨Or.inl rfl, ⟨Or.inr rfl, ⟨Or.inl rfl, ⟨Or.inr rfl, ⟨Or.inl rfl, ⟨Or.inr rfl, trivial⟩⟩⟩⟩⟩⟩⟩⟩ (h.1 g2))))) (fun g2 => (gd_blk [(.aload_n 0, 1, 0, 0, 0, 0), (.lload 5, 2, 0, 0, 0, 0), (.lload_n 1, 1, 0, 0, 0, 0)] 41 (L' := [.ref 22, .long a1, .null, .long a3, .null, .long s0, .null, .int a7]) (st' := [.long a1, .long s0, .ref 22]) (μ' := μ) (f := true) (by decide +kernel) rfl rfl (Exists.elim (h.2 g2) (fun Q1 hc => gd_callV (st := []) [.long s0, .long a1] sV_5_75 (by decide +kernel) rfl rfl rfl rfl hc.1 (fun v μ1 hq => gd_weak (L' := [.ref 22, .long a1, .null, .long a3, .null, .null, .null, .int a7]) ⟨Or.inr rfl, ⟨Or.inr rfl, ⟨Or.inl rfl, ⟨Or.inr rfl, ⟨Or.inl rfl, ⟨Or.inl rfl, ⟨Or.inl rfl, ⟨Or.inr rfl, trivial⟩⟩⟩⟩⟩⟩⟩⟩ (hc.2 v μ1 hq)))))))))
theorem Tr_X5_power_44 {l : Launch} {ω : Wd} {a7 : Int32} {a1 a3 s0 : Int64} {μ : Mm} {Q : Option Value → Mm → Prop} (h : Good l ω M_X5_power 11 [.ref 22, .long a1, .null, .long a3, .null, .long s0, .null, .int (a7 + (-1))] [] μ Q) : Good l ω M_X5_power 44 [.ref 22, .long a1, .null, .long a3, .null, .null, .null, .int a7] [.long s0] μ Q := (gd_blk [(.lstore 5, 2, 0, 0, 0, 0), (.iinc 7 (-1), 3, 0, 0, 0, 0)] 49 (L' := [.ref 22, .long a1, .null, .long a3, .null, .long s0, .null, .int (a7 + (-1))]) (st' := []) (μ' := μ) (f := true) (by decide +kernel) rfl rfl (gd_goto (off := (-38)) (tgt := 11) (by decide +kernel) (by decide) (gd_weak (L' := [.ref 22, .long a1, .null, .long a3, .null, .long s0, .null, .int (a7 + (-1))]) ⟨Or.inr rfl, ⟨Or.inr rfl, ⟨Or.inl rfl, ⟨Or.inr rfl, ⟨Or.inl rfl, ⟨Or.inr rfl, ⟨Or.inl rfl, ⟨Or.inr rfl, trivial⟩⟩⟩⟩⟩⟩⟩⟩ h)))
theorem Tr_X5_at_0 {l : Launch} {ω : Wd} {a1 a2 : Int32} {μ : Mm} {Q : Option Value → Mm → Prop} (h : inb 24 2 ((a1 * (ss_i μ 22 3)) + a2) = true ∧ (Q (some (.long (ss_l μ 24 (Int32.toNatClampNeg ((a1 * (ss_i μ 22 3)) + a2))))) μ)) : Good l ω M_X5_at 0 [.ref 22, .int a1, .int a2] [] μ Q := (gd_blk [(.aload_n 0, 1, 0, 0, 0, 0), (.getfield 11, 3, 5, 0, 2, 0), (.iload_n 1, 1, 0, 0, 0, 0), (.aload_n 0, 1, 0, 0, 0, 0), (.getfield 37, 3, 5, 3, 0, 0)] 9 (L' := [.ref 22, .int a1, .int a2]) (st' := [.int (ss_i μ 22 3), .int a1, .ref 24]) (μ' := μ) (f := true) (by decide +kernel) rfl rfl (gd_blk [(.imul, 1, 0, 0, 0, 0), (.iload_n 2, 1, 0, 0, 0, 0), (.iadd, 1, 0, 0, 0, 0), (.laload, 1, 0, 0, 0, 0)] 13 (L' := [.ref 22, .int a1, .int a2]) (st' := [.long (ss_l μ 24 (Int32.toNatClampNeg ((a1 * (ss_i μ 22 3)) + a2)))]) (μ' := μ) (f := (inb 24 2 ((a1 * (ss_i μ 22 3)) + a2) && true)) (by decide +kernel) rfl (fa h.1 rfl) (gd_lret (by decide +kernel) rfl h.2)))
theorem Ct_X5_at {l : Launch} {ω : Wd} {a1 a2 : Int32} {μ : Mm} {Q : Option Value → Mm → Prop} (h : inb 24 2 ((a1 * (ss_i μ 22 3)) + a2) = true ∧ (Q (some (.long (ss_l μ 24 (Int32.toNatClampNeg ((a1 * (ss_i μ 22 3)) + a2))))) μ)) : Ctr l ω M_X5_at [.ref 22, .int a1, .int a2] μ Q := ctr_of (by decide +kernel) rfl (Nat.le_of_ble_eq_true rfl) (Tr_X5_at_0 h)
theorem Tr_X5_isLess_0 {l : Launch} {ω : Wd} {a0 a2 : Int64} {μ : Mm} {Q : Option Value → Mm → Prop} (h : (((lg_cmp a0 (lN 0)) = 0 → (Q (some (.int (nI 0))) μ)) ∧ (¬ ((lg_cmp a0 (lN 0)) = 0) → ((((lg_cmp a2 (lN 0)) = 0 → (Q (some (.int (nI 1))) μ)) ∧ (¬ ((lg_cmp a2 (lN 0)) = 0) → (((0 ≤ (lg_cmp a0 a2) → (Q (some (.int (nI 0))) μ)) ∧ (¬ (0 ≤ (lg_cmp a0 a2)) → (Q (some (.int (nI 1))) μ)))))))))) : Good l ω M_X5_isLess 0 [.long a0, .null, .long a2, .null] [] μ Q := (gd_blk [(.lload_n 0, 1, 0, 0, 0, 0), (.lconst 0, 1, 0, 0, 0, 0), (.lcmp, 1, 0, 0, 0, 0)] 3 (L' := [.long a0, .null, .long a2, .null]) (st' := [.int (lg_cmp a0 (lN 0))]) (μ' := μ) (f := true) (by decide +kernel) rfl rfl (gd_if (cd := .eq) (off := 19) (tgt := 22) (by decide +kernel) (by decide) (fun g3 => (gd_blk [(.iconst 0, 1, 0, 0, 0, 0)] 23 (L' := [.long a0, .null, .long a2, .null]) (st' := [.int (nI 0)]) (μ' := μ) (f := true) (by decide +kernel) rfl rfl (gd_iret (ty := .boolean) (by decide +kernel) rfl (by decide) (h.1 g3)))) (fun g3 => (gd_blk [(.lload_n 2, 1, 0, 0, 0, 0), (.lconst 0, 1, 0, 0, 0, 0), (.lcmp, 1, 0, 0, 0, 0)] 9 (L' := [.long a0, .null, .long a2, .null]) (st' := [.int (lg_cmp a2 (lN 0))]) (μ' := μ) (f := true) (by decide +kernel) rfl rfl (gd_if (cd := .eq) (off := 9) (tgt := 18) (by decide +kernel) (by decide) (fun g2 => (gd_blk [(.iconst 1, 1, 0, 0, 0, 0)] 19 (L' := [.long a0, .null, .long a2, .null]) (st' := [.int (nI 1)]) (μ' := μ) (f := true) (by decide +kernel) rfl rfl (gd_goto (off := 4) (tgt := 23) (by decide +kernel) (by decide) (gd_iret (ty := .boolean) (by decide +kernel) rfl (by decide) ((h.2 g3).1 g2))))) (fun g2 => (gd_blk [(.lload_n 0, 1, 0, 0, 0, 0), (.lload_n 2, 1, 0, 0, 0, 0), (.lcmp, 1, 0, 0, 0, 0)] 15 (L' := [.long a0, .null, .long a2, .null]) (st' := [.int (lg_cmp a0 a2)]) (μ' := μ) (f := true) (by decide +kernel) rfl rfl (gd_if (cd := .ge) (off := 7) (tgt := 22) (by decide +kernel) (by decide) (fun g1 => (gd_blk [(.iconst 0, 1, 0, 0, 0, 0)] 23 (L' := [.long a0, .null, .long a2, .null]) (st' := [.int (nI 0)]) (μ' := μ) (f := true) (by decide +kernel) rfl rfl (gd_iret (ty := .boolean) (by decide +kernel) rfl (by decide) (((h.2 g3).2 g2).1 g1)))) (fun g1 => (gd_blk [(.iconst 1, 1, 0, 0, 0, 0)] 19 (L' := [.long a0, .null, .long a2, .null]) (st' := [.int (nI 1)]) (μ' := μ) (f := true) (by decide +kernel) rfl rfl (gd_goto (off := 4) (tgt := 23) (by decide +kernel) (by decide) (gd_iret (ty := .boolean) (by decide +kernel) rfl (by decide) (((h.2 g3).2 g2).2 g1)))))))))))))
theorem Ct_X5_isLess {l : Launch} {ω : Wd} {a0 a2 : Int64} {μ : Mm} {Q : Option Value → Mm → Prop} (h : (((lg_cmp a0 (lN 0)) = 0 → (Q (some (.int (nI 0))) μ)) ∧ (¬ ((lg_cmp a0 (lN 0)) = 0) → ((((lg_cmp a2 (lN 0)) = 0 → (Q (some (.int (nI 1))) μ)) ∧ (¬ ((lg_cmp a2 (lN 0)) = 0) → (((0 ≤ (lg_cmp a0 a2) → (Q (some (.int (nI 0))) μ)) ∧ (¬ (0 ≤ (lg_cmp a0 a2)) → (Q (some (.int (nI 1))) μ)))))))))) : Ctr l ω M_X5_isLess [.long a0, .long a2] μ Q := ctr_of (by decide +kernel) rfl (Nat.le_of_ble_eq_true rfl) (Tr_X5_isLess_0 h)
theorem Tr_J6_bitCount_0f7a4_0 {l : Launch} {ω : Wd} {a0 : Int32} {μ : Mm} {Q : Option Value → Mm → Prop} (h : Good l ω M_J6_bitCount_0f7a4 10 [.int (a0 - (((Int32.toUInt32 a0 >>> (Int32.toUInt32 (nI 1) &&& Int32.toUInt32 31)).toInt32) &&& (nI 1431655765)))] [] μ Q) : Good l ω M_J6_bitCount_0f7a4 0 [.int a0] [] μ Q := (gd_blk [(.iload_n 0, 1, 0, 0, 0, 0), (.iload_n 0, 1, 0, 0, 0, 0), (.iconst 1, 1, 0, 0, 0, 0), (.iushr, 1, 0, 0, 0, 0), (.ldc_w 265, 3, 0, 0, 0, 1431655765)] 7 (L' := [.int a0]) (st' := [.int (nI 1431655765), .int ((Int32.toUInt32 a0 >>> (Int32.toUInt32 (nI 1) &&& Int32.toUInt32 31)).toInt32), .int a0]) (μ' := μ) (f := true) (by decide +kernel) rfl rfl (gd_blk [(.iand, 1, 0, 0, 0, 0), (.isub, 1, 0, 0, 0, 0), (.istore_n 0, 1, 0, 0, 0, 0)] 10 (L' := [.int (a0 - (((Int32.toUInt32 a0 >>> (Int32.toUInt32 (nI 1) &&& Int32.toUInt32 31)).toInt32) &&& (nI 1431655765)))]) (st' := []) (μ' := μ) (f := true) (by decide +kernel) rfl rfl (gd_weak (L' := [.int (a0 - (((Int32.toUInt32 a0 >>> (Int32.toUInt32 (nI 1) &&& Int32.toUInt32 31)).toInt32) &&& (nI 1431655765)))]) ⟨Or.inr rfl, trivial⟩ h)))
theorem Ct_J6_bitCount_0f7a4 {l : Launch} {ω : Wd} {a0 : Int32} {μ : Mm} {Q : Option Value → Mm → Prop} (h : Good l ω M_J6_bitCount_0f7a4 10 [.int (a0 - (((Int32.toUInt32 a0 >>> (Int32.toUInt32 (nI 1) &&& Int32.toUInt32 31)).toInt32) &&& (nI 1431655765)))] [] μ Q) : Ctr l ω M_J6_bitCount_0f7a4 [.int a0] μ Q := ctr_of (by decide +kernel) rfl (Nat.le_of_ble_eq_true rfl) (Tr_J6_bitCount_0f7a4_0 h)
theorem Tr_J6_bitCount_0f7a4_10 {l : Launch} {ω : Wd} {a0 : Int32} {μ : Mm} {Q : Option Value → Mm → Prop} (h : Good l ω M_J6_bitCount_0f7a4 24 [.int ((a0 &&& (nI 858993459)) + (((Int32.toUInt32 a0 >>> (Int32.toUInt32 (nI 2) &&& Int32.toUInt32 31)).toInt32) &&& (nI 858993459)))] [] μ Q) : Good l ω M_J6_bitCount_0f7a4 10 [.int a0] [] μ Q := (gd_blk [(.iload_n 0, 1, 0, 0, 0, 0), (.ldc_w 266, 3, 0, 0, 0, 858993459), (.iand, 1, 0, 0, 0, 0), (.iload_n 0, 1, 0, 0, 0, 0), (.iconst 2, 1, 0, 0, 0, 0)] 17 (L' := [.int a0]) (st' := [.int (nI 2), .int a0, .int (a0 &&& (nI 858993459))]) (μ' := μ) (f := true) (by decide +kernel) rfl rfl (gd_blk [(.iushr, 1, 0, 0, 0, 0), (.ldc_w 266, 3, 0, 0, 0, 858993459), (.iand, 1, 0, 0, 0, 0), (.iadd, 1, 0, 0, 0, 0), (.istore_n 0, 1, 0, 0, 0, 0)] 24 (L' := [.int ((a0 &&& (nI 858993459)) + (((Int32.toUInt32 a0 >>> (Int32.toUInt32 (nI 2) &&& Int32.toUInt32 31)).toInt32) &&& (nI 858993459)))]) (st' := []) (μ' := μ) (f := true) (by decide +kernel) rfl rfl (gd_weak (L' := [.int ((a0 &&& (nI 858993459)) + (((Int32.toUInt32 a0 >>> (Int32.toUInt32 (nI 2) &&& Int32.toUInt32 31)).toInt32) &&& (nI 858993459)))]) ⟨Or.inr rfl, trivial⟩ h)))
theorem Tr_J6_bitCount_0f7a4_24 {l : Launch} {ω : Wd} {a0 : Int32} {μ : Mm} {Q : Option Value → Mm → Prop} (h : Good l ω M_J6_bitCount_0f7a4 34 [.int ((a0 + ((Int32.toUInt32 a0 >>> (Int32.toUInt32 (nI 4) &&& Int32.toUInt32 31)).toInt32)) &&& (nI 252645135))] [] μ Q) : Good l ω M_J6_bitCount_0f7a4 24 [.int a0] [] μ Q := (gd_blk [(.iload_n 0, 1, 0, 0, 0, 0), (.iload_n 0, 1, 0, 0, 0, 0), (.iconst 4, 1, 0, 0, 0, 0), (.iushr, 1, 0, 0, 0, 0), (.iadd, 1, 0, 0, 0, 0)] 29 (L' := [.int a0]) (st' := [.int (a0 + ((Int32.toUInt32 a0 >>> (Int32.toUInt32 (nI 4) &&& Int32.toUInt32 31)).toInt32))]) (μ' := μ) (f := true) (by decide +kernel) rfl rfl (gd_blk [(.ldc_w 267, 3, 0, 0, 0, 252645135), (.iand, 1, 0, 0, 0, 0), (.istore_n 0, 1, 0, 0, 0, 0)] 34 (L' := [.int ((a0 + ((Int32.toUInt32 a0 >>> (Int32.toUInt32 (nI 4) &&& Int32.toUInt32 31)).toInt32)) &&& (nI 252645135))]) (st' := []) (μ' := μ) (f := true) (by decide +kernel) rfl rfl (gd_weak (L' := [.int ((a0 + ((Int32.toUInt32 a0 >>> (Int32.toUInt32 (nI 4) &&& Int32.toUInt32 31)).toInt32)) &&& (nI 252645135))]) ⟨Or.inr rfl, trivial⟩ h)))
theorem Tr_J6_bitCount_0f7a4_34 {l : Launch} {ω : Wd} {a0 : Int32} {μ : Mm} {Q : Option Value → Mm → Prop} (h : Good l ω M_J6_bitCount_0f7a4 41 [.int (a0 + ((Int32.toUInt32 a0 >>> (Int32.toUInt32 (nI 8) &&& Int32.toUInt32 31)).toInt32))] [] μ Q) : Good l ω M_J6_bitCount_0f7a4 34 [.int a0] [] μ Q := (gd_blk [(.iload_n 0, 1, 0, 0, 0, 0), (.iload_n 0, 1, 0, 0, 0, 0), (.bipush 8, 2, 0, 0, 0, 0), (.iushr, 1, 0, 0, 0, 0), (.iadd, 1, 0, 0, 0, 0)] 40 (L' := [.int a0]) (st' := [.int (a0 + ((Int32.toUInt32 a0 >>> (Int32.toUInt32 (nI 8) &&& Int32.toUInt32 31)).toInt32))]) (μ' := μ) (f := true) (by decide +kernel) rfl rfl (gd_blk [(.istore_n 0, 1, 0, 0, 0, 0)] 41 (L' := [.int (a0 + ((Int32.toUInt32 a0 >>> (Int32.toUInt32 (nI 8) &&& Int32.toUInt32 31)).toInt32))]) (st' := []) (μ' := μ) (f := true) (by decide +kernel) rfl rfl (gd_weak (L' := [.int (a0 + ((Int32.toUInt32 a0 >>> (Int32.toUInt32 (nI 8) &&& Int32.toUInt32 31)).toInt32))]) ⟨Or.inr rfl, trivial⟩ h)))
theorem Tr_J6_bitCount_0f7a4_41 {l : Launch} {ω : Wd} {a0 : Int32} {μ : Mm} {Q : Option Value → Mm → Prop} (h : Good l ω M_J6_bitCount_0f7a4 48 [.int (a0 + ((Int32.toUInt32 a0 >>> (Int32.toUInt32 (nI 16) &&& Int32.toUInt32 31)).toInt32))] [] μ Q) : Good l ω M_J6_bitCount_0f7a4 41 [.int a0] [] μ Q := (gd_blk [(.iload_n 0, 1, 0, 0, 0, 0), (.iload_n 0, 1, 0, 0, 0, 0), (.bipush 16, 2, 0, 0, 0, 0), (.iushr, 1, 0, 0, 0, 0), (.iadd, 1, 0, 0, 0, 0)] 47 (L' := [.int a0]) (st' := [.int (a0 + ((Int32.toUInt32 a0 >>> (Int32.toUInt32 (nI 16) &&& Int32.toUInt32 31)).toInt32))]) (μ' := μ) (f := true) (by decide +kernel) rfl rfl (gd_blk [(.istore_n 0, 1, 0, 0, 0, 0)] 48 (L' := [.int (a0 + ((Int32.toUInt32 a0 >>> (Int32.toUInt32 (nI 16) &&& Int32.toUInt32 31)).toInt32))]) (st' := []) (μ' := μ) (f := true) (by decide +kernel) rfl rfl (gd_weak (L' := [.int (a0 + ((Int32.toUInt32 a0 >>> (Int32.toUInt32 (nI 16) &&& Int32.toUInt32 31)).toInt32))]) ⟨Or.inr rfl, trivial⟩ h)))
theorem Tr_J6_bitCount_0f7a4_48 {l : Launch} {ω : Wd} {a0 : Int32} {μ : Mm} {Q : Option Value → Mm → Prop} (h : Q (some (.int (a0 &&& (nI 63)))) μ) : Good l ω M_J6_bitCount_0f7a4 48 [.int a0] [] μ Q := (gd_blk [(.iload_n 0, 1, 0, 0, 0, 0), (.bipush 63, 2, 0, 0, 0, 0), (.iand, 1, 0, 0, 0, 0)] 52 (L' := [.int a0]) (st' := [.int (a0 &&& (nI 63))]) (μ' := μ) (f := true) (by decide +kernel) rfl rfl (gd_iret (ty := .int) (by decide +kernel) rfl rfl h))
theorem Tr_J6_highestOneBit_0f7a4_0 {l : Launch} {ω : Wd} {a0 : Int32} {μ : Mm} {Q : Option Value → Mm → Prop} (h : ∃ Q1, Ctr l ω M_J6_numberOfLeadingZeros_0f7a4 [.int a0] μ Q1 ∧ ∀ v μ1, Q1 v μ1 → Good l ω M_J6_highestOneBit_0f7a4 7 [.null] (v.toList ++ [.int (-2147483648), .int a0]) μ1 Q) : Good l ω M_J6_highestOneBit_0f7a4 0 [.int a0] [] μ Q := (gd_blk [(.iload_n 0, 1, 0, 0, 0, 0), (.ldc 127, 2, 0, 0, 0, (-2147483648)), (.iload_n 0, 1, 0, 0, 0, 0)] 4 (L' := [.int a0]) (st' := [.int a0, .int (-2147483648), .int a0]) (μ' := μ) (f := true) (by decide +kernel) rfl rfl (Exists.elim h (fun Q1 hc => gd_callS (st := [.int (-2147483648), .int a0]) [.int a0] sS_8_51 (by decide +kernel) rfl rfl rfl  hc.1 (fun v μ1 hq => gd_weak (L' := [.null]) ⟨Or.inl rfl, trivial⟩ (hc.2 v μ1 hq)))))
end
section
theorem Ct_J6_highestOneBit_0f7a4 {l : Launch} {ω : Wd} {a0 : Int32} {μ : Mm} {Q : Option Value → Mm → Prop} (h : ∃ Q1, Ctr l ω M_J6_numberOfLeadingZeros_0f7a4 [.int a0] μ Q1 ∧ ∀ v μ1, Q1 v μ1 → Good l ω M_J6_highestOneBit_0f7a4 7 [.null] (v.toList ++ [.int (-2147483648), .int a0]) μ1 Q) : Ctr l ω M_J6_highestOneBit_0f7a4 [.int a0] μ Q := ctr_of (by decide +kernel) rfl (Nat.le_of_ble_eq_true rfl) (Tr_J6_highestOneBit_0f7a4_0 h)
theorem Tr_J6_highestOneBit_0f7a4_7 {l : Launch} {ω : Wd} {s0 s1 s2 : Int32} {μ : Mm} {Q : Option Value → Mm → Prop} (h : Q (some (.int (s0 &&& ((Int32.toUInt32 s1 >>> (Int32.toUInt32 s2 &&& Int32.toUInt32 31)).toInt32)))) μ) : Good l ω M_J6_highestOneBit_0f7a4 7 [.null] [.int s2, .int s1, .int s0] μ Q := (gd_blk [(.iushr, 1, 0, 0, 0, 0), (.iand, 1, 0, 0, 0, 0)] 9 (L' := [.null]) (st' := [.int (s0 &&& ((Int32.toUInt32 s1 >>> (Int32.toUInt32 s2 &&& Int32.toUInt32 31)).toInt32))]) (μ' := μ) (f := true) (by decide +kernel) rfl rfl (gd_iret (ty := .int) (by decide +kernel) rfl rfl h))
theorem Tr_J6_numberOfLeadingZeros_0f7a4_0 {l : Launch} {ω : Wd} {a0 : Int32} {μ : Mm} {Q : Option Value → Mm → Prop} (h : ((0 < a0 → (((a0 < (nI 65536) → (Good l ω M_J6_numberOfLeadingZeros_0f7a4 33 [.int a0, .int (nI 31)] [] μ Q)) ∧ (¬ (a0 < (nI 65536)) → (Good l ω M_J6_numberOfLeadingZeros_0f7a4 33 [.int ((Int32.toUInt32 a0 >>> (Int32.toUInt32 (nI 16) &&& Int32.toUInt32 31)).toInt32), .int ((nI 31) + (-16))] [] μ Q))))) ∧ (¬ (0 < a0) → (((¬ a0 = 0 → (Q (some (.int (nI 0))) μ)) ∧ (¬ (¬ a0 = 0) → (Q (some (.int (nI 32))) μ))))))) : Good l ω M_J6_numberOfLeadingZeros_0f7a4 0 [.int a0, .null] [] μ Q := (gd_blk [(.iload_n 0, 1, 0, 0, 0, 0)] 1 (L' := [.int a0, .null]) (st' := [.int a0]) (μ' := μ) (f := true) (by decide +kernel) rfl rfl (gd_if (cd := .gt) (off := 14) (tgt := 15) (by decide +kernel) (by decide) (fun g3 => (gd_blk [(.bipush 31, 2, 0, 0, 0, 0), (.istore_n 1, 1, 0, 0, 0, 0), (.iload_n 0, 1, 0, 0, 0, 0), (.ldc_w 264, 3, 0, 0, 0, 65536)] 22 (L' := [.int a0, .int (nI 31)]) (st' := [.int (nI 65536), .int a0]) (μ' := μ) (f := true) (by decide +kernel) rfl rfl (gd_icmp (cd := .lt) (off := 11) (tgt := 33) (by decide +kernel) (by decide) (fun g1 => (gd_weak (L' := [.int a0, .int (nI 31)]) ⟨Or.inr rfl, ⟨Or.inr rfl, trivial⟩⟩ ((h.1 g3).1 g1))) (fun g1 => (gd_blk [(.iinc 1 (-16), 3, 0, 0, 0, 0), (.iload_n 0, 1, 0, 0, 0, 0), (.bipush 16, 2, 0, 0, 0, 0), (.iushr, 1, 0, 0, 0, 0), (.istore_n 0, 1, 0, 0, 0, 0)] 33 (L' := [.int ((Int32.toUInt32 a0 >>> (Int32.toUInt32 (nI 16) &&& Int32.toUInt32 31)).toInt32), .int ((nI 31) + (-16))]) (st' := []) (μ' := μ) (f := true) (by decide +kernel) rfl rfl (gd_weak (L' := [.int ((Int32.toUInt32 a0 >>> (Int32.toUInt32 (nI 16) &&& Int32.toUInt32 31)).toInt32), .int ((nI 31) + (-16))]) ⟨Or.inr rfl, ⟨Or.inr rfl, trivial⟩⟩ ((h.1 g3).2 g1))))))) (fun g3 => (gd_blk [(.iload_n 0, 1, 0, 0, 0, 0)] 5 (L' := [.int a0, .null]) (st' := [.int a0]) (μ' := μ) (f := true) (by decide +kernel) rfl rfl (gd_if (cd := .ne) (off := 8) (tgt := 13) (by decide +kernel) (by decide) (fun g2 => (gd_blk [(.iconst 0, 1, 0, 0, 0, 0)] 14 (L' := [.int a0, .null]) (st' := [.int (nI 0)]) (μ' := μ) (f := true) (by decide +kernel) rfl rfl (gd_iret (ty := .int) (by decide +kernel) rfl rfl ((h.2 g3).1 g2)))) (fun g2 => (gd_blk [(.bipush 32, 2, 0, 0, 0, 0)] 10 (L' := [.int a0, .null]) (st' := [.int (nI 32)]) (μ' := μ) (f := true) (by decide +kernel) rfl rfl (gd_goto (off := 4) (tgt := 14) (by decide +kernel) (by decide) (gd_iret (ty := .int) (by decide +kernel) rfl rfl ((h.2 g3).2 g2))))))))))
theorem Ct_J6_numberOfLeadingZeros_0f7a4 {l : Launch} {ω : Wd} {a0 : Int32} {μ : Mm} {Q : Option Value → Mm → Prop} (h : ((0 < a0 → (((a0 < (nI 65536) → (Good l ω M_J6_numberOfLeadingZeros_0f7a4 33 [.int a0, .int (nI 31)] [] μ Q)) ∧ (¬ (a0 < (nI 65536)) → (Good l ω M_J6_numberOfLeadingZeros_0f7a4 33 [.int ((Int32.toUInt32 a0 >>> (Int32.toUInt32 (nI 16) &&& Int32.toUInt32 31)).toInt32), .int ((nI 31) + (-16))] [] μ Q))))) ∧ (¬ (0 < a0) → (((¬ a0 = 0 → (Q (some (.int (nI 0))) μ)) ∧ (¬ (¬ a0 = 0) → (Q (some (.int (nI 32))) μ))))))) : Ctr l ω M_J6_numberOfLeadingZeros_0f7a4 [.int a0] μ Q := ctr_of (by decide +kernel) rfl (Nat.le_of_ble_eq_true rfl) (Tr_J6_numberOfLeadingZeros_0f7a4_0 h)
theorem Tr_J6_numberOfLeadingZeros_0f7a4_33 {l : Launch} {ω : Wd} {a0 a1 : Int32} {μ : Mm} {Q : Option Value → Mm → Prop} (h : ((a0 < (nI 256) → (Good l ω M_J6_numberOfLeadingZeros_0f7a4 48 [.int a0, .int a1] [] μ Q)) ∧ (¬ (a0 < (nI 256)) → (Good l ω M_J6_numberOfLeadingZeros_0f7a4 48 [.int ((Int32.toUInt32 a0 >>> (Int32.toUInt32 (nI 8) &&& Int32.toUInt32 31)).toInt32), .int (a1 + (-8))] [] μ Q)))) : Good l ω M_J6_numberOfLeadingZeros_0f7a4 33 [.int a0, .int a1] [] μ Q := (gd_blk [(.iload_n 0, 1, 0, 0, 0, 0), (.sipush 256, 3, 0, 0, 0, 0)] 37 (L' := [.int a0, .int a1]) (st' := [.int (nI 256), .int a0]) (μ' := μ) (f := true) (by decide +kernel) rfl rfl (gd_icmp (cd := .lt) (off := 11) (tgt := 48) (by decide +kernel) (by decide) (fun g4 => (gd_weak (L' := [.int a0, .int a1]) ⟨Or.inr rfl, ⟨Or.inr rfl, trivial⟩⟩ (h.1 g4))) (fun g4 => (gd_blk [(.iinc 1 (-8), 3, 0, 0, 0, 0), (.iload_n 0, 1, 0, 0, 0, 0), (.bipush 8, 2, 0, 0, 0, 0), (.iushr, 1, 0, 0, 0, 0), (.istore_n 0, 1, 0, 0, 0, 0)] 48 (L' := [.int ((Int32.toUInt32 a0 >>> (Int32.toUInt32 (nI 8) &&& Int32.toUInt32 31)).toInt32), .int (a1 + (-8))]) (st' := []) (μ' := μ) (f := true) (by decide +kernel) rfl rfl (gd_weak (L' := [.int ((Int32.toUInt32 a0 >>> (Int32.toUInt32 (nI 8) &&& Int32.toUInt32 31)).toInt32), .int (a1 + (-8))]) ⟨Or.inr rfl, ⟨Or.inr rfl, trivial⟩⟩ (h.2 g4))))))
theorem Tr_J6_numberOfLeadingZeros_0f7a4_48 {l : Launch} {ω : Wd} {a0 a1 : Int32} {μ : Mm} {Q : Option Value → Mm → Prop} (h : ((a0 < (nI 16) → (Good l ω M_J6_numberOfLeadingZeros_0f7a4 61 [.int a0, .int a1] [] μ Q)) ∧ (¬ (a0 < (nI 16)) → (Good l ω M_J6_numberOfLeadingZeros_0f7a4 61 [.int ((Int32.toUInt32 a0 >>> (Int32.toUInt32 (nI 4) &&& Int32.toUInt32 31)).toInt32), .int (a1 + (-4))] [] μ Q)))) : Good l ω M_J6_numberOfLeadingZeros_0f7a4 48 [.int a0, .int a1] [] μ Q := (gd_blk [(.iload_n 0, 1, 0, 0, 0, 0), (.bipush 16, 2, 0, 0, 0, 0)] 51 (L' := [.int a0, .int a1]) (st' := [.int (nI 16), .int a0]) (μ' := μ) (f := true) (by decide +kernel) rfl rfl (gd_icmp (cd := .lt) (off := 10) (tgt := 61) (by decide +kernel) (by decide) (fun g5 => (gd_weak (L' := [.int a0, .int a1]) ⟨Or.inr rfl, ⟨Or.inr rfl, trivial⟩⟩ (h.1 g5))) (fun g5 => (gd_blk [(.iinc 1 (-4), 3, 0, 0, 0, 0), (.iload_n 0, 1, 0, 0, 0, 0), (.iconst 4, 1, 0, 0, 0, 0), (.iushr, 1, 0, 0, 0, 0), (.istore_n 0, 1, 0, 0, 0, 0)] 61 (L' := [.int ((Int32.toUInt32 a0 >>> (Int32.toUInt32 (nI 4) &&& Int32.toUInt32 31)).toInt32), .int (a1 + (-4))]) (st' := []) (μ' := μ) (f := true) (by decide +kernel) rfl rfl (gd_weak (L' := [.int ((Int32.toUInt32 a0 >>> (Int32.toUInt32 (nI 4) &&& Int32.toUInt32 31)).toInt32), .int (a1 + (-4))]) ⟨Or.inr rfl, ⟨Or.inr rfl, trivial⟩⟩ (h.2 g5))))))
theorem Tr_J6_numberOfLeadingZeros_0f7a4_61 {l : Launch} {ω : Wd} {a0 a1 : Int32} {μ : Mm} {Q : Option Value → Mm → Prop} (h : ((a0 < (nI 4) → (Good l ω M_J6_numberOfLeadingZeros_0f7a4 73 [.int a0, .int a1] [] μ Q)) ∧ (¬ (a0 < (nI 4)) → (Good l ω M_J6_numberOfLeadingZeros_0f7a4 73 [.int ((Int32.toUInt32 a0 >>> (Int32.toUInt32 (nI 2) &&& Int32.toUInt32 31)).toInt32), .int (a1 + (-2))] [] μ Q)))) : Good l ω M_J6_numberOfLeadingZeros_0f7a4 61 [.int a0, .int a1] [] μ Q := (gd_blk [(.iload_n 0, 1, 0, 0, 0, 0), (.iconst 4, 1, 0, 0, 0, 0)] 63 (L' := [.int a0, .int a1]) (st' := [.int (nI 4), .int a0]) (μ' := μ) (f := true) (by decide +kernel) rfl rfl (gd_icmp (cd := .lt) (off := 10) (tgt := 73) (by decide +kernel) (by decide) (fun g6 => (gd_weak (L' := [.int a0, .int a1]) ⟨Or.inr rfl, ⟨Or.inr rfl, trivial⟩⟩ (h.1 g6))) (fun g6 => (gd_blk [(.iinc 1 (-2), 3, 0, 0, 0, 0), (.iload_n 0, 1, 0, 0, 0, 0), (.iconst 2, 1, 0, 0, 0, 0), (.iushr, 1, 0, 0, 0, 0), (.istore_n 0, 1, 0, 0, 0, 0)] 73 (L' := [.int ((Int32.toUInt32 a0 >>> (Int32.toUInt32 (nI 2) &&& Int32.toUInt32 31)).toInt32), .int (a1 + (-2))]) (st' := []) (μ' := μ) (f := true) (by decide +kernel) rfl rfl (gd_weak (L' := [.int ((Int32.toUInt32 a0 >>> (Int32.toUInt32 (nI 2) &&& Int32.toUInt32 31)).toInt32), .int (a1 + (-2))]) ⟨Or.inr rfl, ⟨Or.inr rfl, trivial⟩⟩ (h.2 g6))))))
theorem Tr_J6_numberOfLeadingZeros_0f7a4_73 {l : Launch} {ω : Wd} {a0 a1 : Int32} {μ : Mm} {Q : Option Value → Mm → Prop} (h : Q (some (.int (a1 - ((Int32.toUInt32 a0 >>> (Int32.toUInt32 (nI 1) &&& Int32.toUInt32 31)).toInt32)))) μ) : Good l ω M_J6_numberOfLeadingZeros_0f7a4 73 [.int a0, .int a1] [] μ Q := (gd_blk [(.iload_n 1, 1, 0, 0, 0, 0), (.iload_n 0, 1, 0, 0, 0, 0), (.iconst 1, 1, 0, 0, 0, 0), (.iushr, 1, 0, 0, 0, 0), (.isub, 1, 0, 0, 0, 0)] 78 (L' := [.int a0, .int a1]) (st' := [.int (a1 - ((Int32.toUInt32 a0 >>> (Int32.toUInt32 (nI 1) &&& Int32.toUInt32 31)).toInt32))]) (μ' := μ) (f := true) (by decide +kernel) rfl rfl (gd_iret (ty := .int) (by decide +kernel) rfl rfl h))
theorem Tr_J7_fill_53178_0 {l : Launch} {ω : Wd} {a1 : Int32} {a0 : Nat} {μ : Mm} {Q : Option Value → Mm → Prop} (h : (decide (1 ≤ (shA a0).1 ∧ (shA a0).1 ≤ 3)) = true ∧ (Good l ω M_J7_fill_53178 5 [.ref a0, .int a1, .int (nI 0), .int (Int32.ofNat (shA a0).2)] [] μ Q)) : Good l ω M_J7_fill_53178 0 [.ref a0, .int a1, .null, .null] [] μ Q := (gd_blk [(.iconst 0, 1, 0, 0, 0, 0), (.istore_n 2, 1, 0, 0, 0, 0), (.aload_n 0, 1, 0, 0, 0, 0), (.arraylength, 1, 0, 0, 0, 0), (.istore_n 3, 1, 0, 0, 0, 0)] 5 (L' := [.ref a0, .int a1, .int (nI 0), .int (Int32.ofNat (shA a0).2)]) (st' := []) (μ' := μ) (f := ((decide (1 ≤ (shA a0).1 ∧ (shA a0).1 ≤ 3)) && true)) (by decide +kernel) rfl (fa h.1 rfl) (gd_weak (L' := [.ref a0, .int a1, .int (nI 0), .int (Int32.ofNat (shA a0).2)]) ⟨Or.inr rfl, ⟨Or.inr rfl, ⟨Or.inr rfl, ⟨Or.inr rfl, trivial⟩⟩⟩⟩ h.2))
theorem Ct_J7_fill_53178 {l : Launch} {ω : Wd} {a1 : Int32} {a0 : Nat} {μ : Mm} {Q : Option Value → Mm → Prop} (h : (decide (1 ≤ (shA a0).1 ∧ (shA a0).1 ≤ 3)) = true ∧ (Good l ω M_J7_fill_53178 5 [.ref a0, .int a1, .int (nI 0), .int (Int32.ofNat (shA a0).2)] [] μ Q)) : Ctr l ω M_J7_fill_53178 [.ref a0, .int a1] μ Q := ctr_of (by decide +kernel) rfl (Nat.le_of_ble_eq_true rfl) (Tr_J7_fill_53178_0 h)
theorem Tr_J7_fill_53178_5 {l : Launch} {ω : Wd} {a1 a2 a3 : Int32} {a0 : Nat} {μ : Mm} {Q : Option Value → Mm → Prop} (h : ((a3 ≤ a2 → (Q none μ)) ∧ (¬ (a3 ≤ a2) → (inb a0 1 a2 = true ∧ (Good l ω M_J7_fill_53178 5 [.ref a0, .int a1, .int (a2 + (nI 1)), .int a3] [] (ss_wi μ a0 (Int32.toNatClampNeg a2) a1) Q))))) : Good l ω M_J7_fill_53178 5 [.ref a0, .int a1, .int a2, .int a3] [] μ Q := (gd_blk [(.iload_n 2, 1, 0, 0, 0, 0), (.iload_n 3, 1, 0, 0, 0, 0)] 7 (L' := [.ref a0, .int a1, .int a2, .int a3]) (st' := [.int a3, .int a2]) (μ' := μ) (f := true) (by decide +kernel) rfl rfl (gd_icmp (cd := .ge) (off := 13) (tgt := 20) (by decide +kernel) (by decide) (fun g1 => (gd_vret (by decide +kernel) rfl (h.1 g1))) (fun g1 => (gd_blk [(.aload_n 0, 1, 0, 0, 0, 0), (.iload_n 2, 1, 0, 0, 0, 0), (.iload_n 1, 1, 0, 0, 0, 0), (.iastore, 1, 0, 0, 0, 0), (.iinc 2 1, 3, 0, 0, 0, 0)] 17 (L' := [.ref a0, .int a1, .int (a2 + (nI 1)), .int a3]) (st' := []) (μ' := (ss_wi μ a0 (Int32.toNatClampNeg a2) a1)) (f := (inb a0 1 a2 && true)) (by decide +kernel) rfl (fa (h.2 g1).1 rfl) (gd_goto (off := (-12)) (tgt := 5) (by decide +kernel) (by decide) (gd_weak (L' := [.ref a0, .int a1, .int (a2 + (nI 1)), .int a3]) ⟨Or.inr rfl, ⟨Or.inr rfl, ⟨Or.inr rfl, ⟨Or.inr rfl, trivial⟩⟩⟩⟩ (h.2 g1).2))))))
theorem Tr_J7_fill_d0a16_0 {l : Launch} {ω : Wd} {a1 : Int64} {a0 : Nat} {μ : Mm} {Q : Option Value → Mm → Prop} (h : (decide (1 ≤ (shA a0).1 ∧ (shA a0).1 ≤ 3)) = true ∧ (Good l ω M_J7_fill_d0a16 6 [.ref a0, .long a1, .null, .int (nI 0), .int (Int32.ofNat (shA a0).2)] [] μ Q)) : Good l ω M_J7_fill_d0a16 0 [.ref a0, .long a1, .null, .null, .null] [] μ Q := (gd_blk [(.iconst 0, 1, 0, 0, 0, 0), (.istore_n 3, 1, 0, 0, 0, 0), (.aload_n 0, 1, 0, 0, 0, 0), (.arraylength, 1, 0, 0, 0, 0), (.istore 4, 2, 0, 0, 0, 0)] 6 (L' := [.ref a0, .long a1, .null, .int (nI 0), .int (Int32.ofNat (shA a0).2)]) (st' := []) (μ' := μ) (f := ((decide (1 ≤ (shA a0).1 ∧ (shA a0).1 ≤ 3)) && true)) (by decide +kernel) rfl (fa h.1 rfl) (gd_weak (L' := [.ref a0, .long a1, .null, .int (nI 0), .int (Int32.ofNat (shA a0).2)]) ⟨Or.inr rfl, ⟨Or.inr rfl, ⟨Or.inl rfl, ⟨Or.inr rfl, ⟨Or.inr rfl, trivial⟩⟩⟩⟩⟩ h.2))
theorem Ct_J7_fill_d0a16 {l : Launch} {ω : Wd} {a1 : Int64} {a0 : Nat} {μ : Mm} {Q : Option Value → Mm → Prop} (h : (decide (1 ≤ (shA a0).1 ∧ (shA a0).1 ≤ 3)) = true ∧ (Good l ω M_J7_fill_d0a16 6 [.ref a0, .long a1, .null, .int (nI 0), .int (Int32.ofNat (shA a0).2)] [] μ Q)) : Ctr l ω M_J7_fill_d0a16 [.ref a0, .long a1] μ Q := ctr_of (by decide +kernel) rfl (Nat.le_of_ble_eq_true rfl) (Tr_J7_fill_d0a16_0 h)
theorem Tr_J7_fill_d0a16_6 {l : Launch} {ω : Wd} {a3 a4 : Int32} {a1 : Int64} {a0 : Nat} {μ : Mm} {Q : Option Value → Mm → Prop} (h : ((a4 ≤ a3 → (Q none μ)) ∧ (¬ (a4 ≤ a3) → (inb a0 2 a3 = true ∧ (Good l ω M_J7_fill_d0a16 6 [.ref a0, .long a1, .null, .int (a3 + (nI 1)), .int a4] [] (ss_wl μ a0 (Int32.toNatClampNeg a3) a1) Q))))) : Good l ω M_J7_fill_d0a16 6 [.ref a0, .long a1, .null, .int a3, .int a4] [] μ Q := (gd_blk [(.iload_n 3, 1, 0, 0, 0, 0), (.iload 4, 2, 0, 0, 0, 0)] 9 (L' := [.ref a0, .long a1, .null, .int a3, .int a4]) (st' := [.int a4, .int a3]) (μ' := μ) (f := true) (by decide +kernel) rfl rfl (gd_icmp (cd := .ge) (off := 13) (tgt := 22) (by decide +kernel) (by decide) (fun g1 => (gd_vret (by decide +kernel) rfl (h.1 g1))) (fun g1 => (gd_blk [(.aload_n 0, 1, 0, 0, 0, 0), (.iload_n 3, 1, 0, 0, 0, 0), (.lload_n 1, 1, 0, 0, 0, 0), (.lastore, 1, 0, 0, 0, 0), (.iinc 3 1, 3, 0, 0, 0, 0)] 19 (L' := [.ref a0, .long a1, .null, .int (a3 + (nI 1)), .int a4]) (st' := []) (μ' := (ss_wl μ a0 (Int32.toNatClampNeg a3) a1)) (f := (inb a0 2 a3 && true)) (by decide +kernel) rfl (fa (h.2 g1).1 rfl) (gd_goto (off := (-13)) (tgt := 6) (by decide +kernel) (by decide) (gd_weak (L' := [.ref a0, .long a1, .null, .int (a3 + (nI 1)), .int a4]) ⟨Or.inr rfl, ⟨Or.inr rfl, ⟨Or.inl rfl, ⟨Or.inr rfl, ⟨Or.inr rfl, trivial⟩⟩⟩⟩⟩ (h.2 g1).2))))))
end
section
/-! pure contracts; loops upwards; numbers -/
section PB
variable {l : Launch} {ω : Wd} {M : MD} {as : List Value} {μ : Mm}
abbrev CtrP (l : Launch) (ω : Wd) (M : MD) (as : List Value) (μ : Mm) (r : Int32) : Prop := Ctr l ω M as μ (fun v μ' => v = some (.int r) ∧ μ' = μ)
abbrev CtrL (l : Launch) (ω : Wd) (M : MD) (as : List Value) (μ : Mm) (r : Int64) : Prop := Ctr l ω M as μ (fun v μ' => v = some (.long r) ∧ μ' = μ)
theorem ex_p {r : Int32} {G : Option Value → Mm → Prop} (c : CtrP l ω M as μ r) (k : G (some (.int r)) μ) : ∃ Q1, Ctr l ω M as μ Q1 ∧ ∀ v μ1, Q1 v μ1 → G v μ1 := ⟨_, c, fun v μ1 h => by obtain ⟨rfl, rfl⟩ := h; exact k⟩
theorem ex_l {r : Int64} {G : Option Value → Mm → Prop} (c : CtrL l ω M as μ r) (k : G (some (.long r)) μ) : ∃ Q1, Ctr l ω M as μ Q1 ∧ ∀ v μ1, Q1 v μ1 → G v μ1 := ⟨_, c, fun v μ1 h => by obtain ⟨rfl, rfl⟩ := h; exact k⟩
theorem ex_q {Q1 : Option Value → Mm → Prop} {G : Option Value → Mm → Prop} (c : Ctr l ω M as μ Q1) (k : ∀ v μ1, Q1 v μ1 → G v μ1) : ∃ Q1, Ctr l ω M as μ Q1 ∧ ∀ v μ1, Q1 v μ1 → G v μ1 := ⟨_, c, k⟩
end PB
theorem upto0 {G : Nat → Prop} (e : Nat) (hd : G e) (hs : ∀ i, i < e → G (i + 1) → G i) : ∀ i, i ≤ e → G i := by
  intro i hi
  obtain ⟨d, rfl⟩ : ∃ d, e = i + d := ⟨e - i, by omega⟩
  clear hi
  induction d generalizing i with
  | zero => exact hd
  | succ d ih => exact hs i (by omega) (ih (i + 1) (by rw [show i + 1 + d = i + (d + 1) by omega]; exact hd) (fun j hj => hs j (by omega)))
theorem upto1 {σ : Type} {G I : Nat → σ → Prop} (e : Nat) (hd : ∀ s, I e s → G e s) (hs : ∀ i s, i < e → I i s → (∀ s', I (i + 1) s' → G (i + 1) s') → G i s) : ∀ i, i ≤ e → ∀ s, I i s → G i s := by
  refine upto0 (G := fun i => ∀ s, I i s → G i s) e hd (fun i hi k s h => hs i s hi h k)
theorem dnn {p : Prop} (h : ¬ ¬ p) : p := Classical.byContradiction h
theorem nI_sub1 {n : Nat} (h : 0 < n) : nI n - nI 1 = nI (n - 1) := pk_sub h
theorem inb_n {p t n j : Nat} (hs : shA p = (t, n)) (hj : j < n) (hn : n < 2 ^ 31) : inb p t (nI j) = true := by
  unfold inb
  rw [hs]
  refine fa (decide_eq_true rfl) (decide_eq_true ?_)
  exact nI_in hj hn
theorem cl_n {n : Nat} (h : n < 2 ^ 31) : Int32.toNatClampNeg (nI n) = n := nI_clamp h
theorem oCl_n {p c : Nat} (h : shA p = (0, c)) : oCl p c = true := decide_eq_true h
/-! reads over writes -/
theorem ri_wi (μ : Mm) (p k : Nat) (v : Int32) (q j : Nat) : ss_i (ss_wi μ p k v) q j = if q = p ∧ j = k then v else ss_i μ q j := rfl
theorem ri_wl (μ : Mm) (p k : Nat) (v : Int64) (q j : Nat) : ss_i (ss_wl μ p k v) q j = ss_i μ q j := rfl
theorem ri_wr (μ : Mm) (k v : Nat) (q j : Nat) : ss_i (ss_wr μ k v) q j = ss_i μ q j := rfl
theorem rl_wi (μ : Mm) (p k : Nat) (v : Int32) (q j : Nat) : ss_l (ss_wi μ p k v) q j = ss_l μ q j := rfl
theorem rl_wl (μ : Mm) (p k : Nat) (v : Int64) (q j : Nat) : ss_l (ss_wl μ p k v) q j = if q = p ∧ j = k then v else ss_l μ q j := rfl
theorem rl_wr (μ : Mm) (k v : Nat) (q j : Nat) : ss_l (ss_wr μ k v) q j = ss_l μ q j := rfl
theorem rr_wi (μ : Mm) (p k : Nat) (v : Int32) (q j : Nat) : ss_r (ss_wi μ p k v) q j = ss_r μ q j := rfl
theorem rr_wl (μ : Mm) (p k : Nat) (v : Int64) (q j : Nat) : ss_r (ss_wl μ p k v) q j = ss_r μ q j := rfl
theorem ri_cp (μ : Mm) (q sp p dp n a b : Nat) : ss_i (ss_cp μ q sp p dp n) a b = if a = p ∧ dp ≤ b ∧ b < dp + n then ss_i μ q (sp + (b - dp)) else ss_i μ a b := rfl
theorem rl_cp (μ : Mm) (q sp p dp n a b : Nat) : ss_l (ss_cp μ q sp p dp n) a b = ss_l μ a b := rfl
theorem rr_cp (μ : Mm) (q sp p dp n a b : Nat) : ss_r (ss_cp μ q sp p dp n) a b = ss_r μ a b := rfl
/-! small functions, as the machine counts them -/
def iLow (a : Int32) : Int32 := (nI 1 <<< (a &&& 31)) - nI 1
def iUs (a : Int32) (k : Nat) : Int32 := (Int32.toUInt32 a >>> (Int32.toUInt32 (nI k) &&& Int32.toUInt32 31)).toInt32
def iB1 (a : Int32) : Int32 := a - (iUs a 1 &&& nI 1431655765)
def iB2 (a : Int32) : Int32 := (a &&& nI 858993459) + (iUs a 2 &&& nI 858993459)
def iB3 (a : Int32) : Int32 := (a + iUs a 4) &&& nI 252645135
def iBc (a : Int32) : Int32 := let b := iB3 (iB2 (iB1 a)); let c := b + iUs b 8; let d := c + iUs c 16; d &&& nI 63
def iHas (a b : Int32) : Int32 := if (a >>> (b &&& 31)) &&& nI 1 = nI 1 then nI 1 else nI 0
def iNum (a b : Int32) : Int32 := iBc (a &&& iLow b)
def iWo (a b : Int32) : Int32 := (a &&& iLow b) ||| ((a >>> ((b + nI 1) &&& 31)) <<< (b &&& 31))
def iWc (a b : Int32) : Int32 := (a &&& iLow b) ||| ((a >>> (b &&& 31)) <<< ((b + nI 1) &&& 31))
def iPack (a b : Int32) : Int32 := (a <<< (nI 6 &&& 31)) ||| b
def iCell (a : Int32) : Int32 := a >>> (nI 6 &&& 31)
def iMask (a : Int32) : Int32 := a &&& iLow (nI 6)
def iGaS (a b acc k : Int32) : Int32 := if iHas b k = 0 then acc else if iHas a k = 0 then acc else acc ||| (nI 1 <<< (iNum b k &&& 31))
def iGa (a b : Int32) : Nat → Int32
  | 0 => nI 0
  | n + 1 => iGaS a b (iGa a b n) (nI n)
def iSpS (a b acc k : Int32) : Int32 := if iHas b k = 0 then acc else if iHas a (iNum b k) = 0 then acc else acc ||| (nI 1 <<< (k &&& 31))
def iSp (a b : Int32) : Nat → Int32
  | 0 => nI 0
  | n + 1 => iSpS a b (iSp a b n) (nI n)
def iSign (a : Int32) : Int32 := if a - a / nI 2 * nI 2 = 0 then nI 1 else -1
section PC
variable {l : Launch} {ω : Wd} {μ : Mm}
theorem c_lowBits (a : Int32) : CtrP l ω M_X6_lowBits [.int a] μ (iLow a) := Ct_X6_lowBits ⟨rfl, rfl⟩
theorem c_full (a : Int32) : CtrP l ω M_X7_full [.int a] μ (iLow a) := Ct_X7_full ⟨rfl, rfl⟩
theorem c_pack (a b : Int32) : CtrP l ω M_X6_pack [.int a, .int b] μ (iPack a b) := Ct_X6_pack ⟨rfl, rfl⟩
theorem c_cellOf (a : Int32) : CtrP l ω M_X6_cellOf [.int a] μ (iCell a) := Ct_X6_cellOf ⟨rfl, rfl⟩
theorem c_maskOf (a : Int32) : CtrP l ω M_X6_maskOf [.int a] μ (iMask a) := Ct_X6_maskOf (ex_p (c_lowBits _) (Tr_X6_maskOf_6 ⟨rfl, rfl⟩))
theorem c_bitCount (a : Int32) : CtrP l ω M_J6_bitCount_0f7a4 [.int a] μ (iBc a) := Ct_J6_bitCount_0f7a4 (Tr_J6_bitCount_0f7a4_10 (Tr_J6_bitCount_0f7a4_24 (Tr_J6_bitCount_0f7a4_34 (Tr_J6_bitCount_0f7a4_41 (Tr_J6_bitCount_0f7a4_48 ⟨rfl, rfl⟩)))))
theorem c_numberAt (a b : Int32) : CtrP l ω M_X6_numberAt [.int a, .int b] μ (iNum a b) := Ct_X6_numberAt (ex_p (c_lowBits _) (Tr_X6_numberAt_5 (ex_p (c_bitCount _) (Tr_X6_numberAt_9 ⟨rfl, rfl⟩))))
theorem c_hasBit (a b : Int32) : CtrP l ω M_X6_hasBit [.int a, .int b] μ (iHas a b) := Ct_X6_hasBit ⟨fun h => ⟨by rw [iHas, if_neg h], rfl⟩, fun h => ⟨by rw [iHas, if_pos (dnn h)], rfl⟩⟩
theorem c_withoutBit (a b : Int32) : CtrP l ω M_X6_withoutBit [.int a, .int b] μ (iWo a b) := Ct_X6_withoutBit (ex_p (c_lowBits _) (Tr_X6_withoutBit_5 ⟨rfl, rfl⟩))
theorem c_withClearBit (a b : Int32) : CtrP l ω M_X6_withClearBit [.int a, .int b] μ (iWc a b) := Ct_X6_withClearBit (ex_p (c_lowBits _) (Tr_X6_withClearBit_5 ⟨rfl, rfl⟩))
theorem c_sign (a : Int32) : CtrP l ω M_X6_sign [.int a] μ (iSign a) := Ct_X6_sign ⟨fun h => ⟨by rw [iSign, if_neg h], rfl⟩, fun h => ⟨by rw [iSign, if_pos (dnn h)], rfl⟩⟩
theorem c_gatherBits (a b : Int32) : CtrP l ω M_X6_gatherBits [.int a, .int b] μ (iGa a b 6) := by
  refine Ct_X6_gatherBits ?_
  refine upto0 (G := fun i => Good l ω M_X6_gatherBits 4 [.int a, .int b, .int (iGa a b i), .int (nI i)] [] μ (fun v μ' => v = some (.int (iGa a b 6)) ∧ μ' = μ)) 6 ?_ ?_ 0 (by omega)
  · exact Tr_X6_gatherBits_4 ⟨fun _ => ⟨rfl, rfl⟩, fun h => absurd (show nI 6 ≤ nI 6 by decide) h⟩
  · intro i hi k
    rw [← nI_1] at k
    refine Tr_X6_gatherBits_4 ⟨fun h => absurd h (nI_ge hi (by omega)), fun _ => ex_p (c_hasBit _ _) (Tr_X6_gatherBits_15 ⟨fun h => ?_, fun h => ex_p (c_hasBit _ _) (Tr_X6_gatherBits_23 ⟨fun h2 => ?_, fun h2 => ex_p (c_numberAt _ _) (Tr_X6_gatherBits_33 ?_)⟩)⟩)⟩
    · rw [show iGa a b (i + 1) = iGa a b i by simp only [iGa, iGaS, h, if_true]] at k; exact k
    · rw [show iGa a b (i + 1) = iGa a b i by simp only [iGa, iGaS, h, h2, if_true, if_false]] at k; exact k
    · rw [show iGa a b (i + 1) = iGa a b i ||| (nI 1 <<< (iNum b (nI i) &&& 31)) by simp only [iGa, iGaS, h, h2, if_false]] at k; exact k
theorem c_spreadBits (a b : Int32) : CtrP l ω M_X6_spreadBits [.int a, .int b] μ (iSp a b 6) := by
  refine Ct_X6_spreadBits ?_
  refine upto0 (G := fun i => Good l ω M_X6_spreadBits 4 [.int a, .int b, .int (iSp a b i), .int (nI i)] [] μ (fun v μ' => v = some (.int (iSp a b 6)) ∧ μ' = μ)) 6 ?_ ?_ 0 (by omega)
  · exact Tr_X6_spreadBits_4 ⟨fun _ => ⟨rfl, rfl⟩, fun h => absurd (show nI 6 ≤ nI 6 by decide) h⟩
  · intro i hi k
    rw [← nI_1] at k
    refine Tr_X6_spreadBits_4 ⟨fun h => absurd h (nI_ge hi (by omega)), fun _ => ex_p (c_hasBit _ _) (Tr_X6_spreadBits_15 ⟨fun h => ?_, fun h => ex_p (c_numberAt _ _) (Tr_X6_spreadBits_24 (ex_p (c_hasBit _ _) (Tr_X6_spreadBits_27 ⟨fun h2 => ?_, fun h2 => ?_⟩)))⟩)⟩
    · rw [show iSp a b (i + 1) = iSp a b i by simp only [iSp, iSpS, h, if_true]] at k; exact k
    · rw [show iSp a b (i + 1) = iSp a b i by simp only [iSp, iSpS, h, h2, if_true, if_false]] at k; exact k
    · rw [show iSp a b (i + 1) = iSp a b i ||| (nI 1 <<< (nI i &&& 31)) by simp only [iSp, iSpS, h, h2, if_false]] at k; exact k
end PC
end
section
/-! the other small methods, and calls of small methods -/
def iLo (k : Int32) : Int32 := if k = 0 then nI 1 else nI 0
def iUp (k : Int32) : Int32 := if k = nI 2 then nI 1 else nI 2
def iLess (a b : Int64) : Int32 := if lg_cmp a (lN 0) = 0 then nI 0 else if lg_cmp b (lN 0) = 0 then nI 1 else if 0 ≤ lg_cmp a b then nI 0 else nI 1
def popR : Nat → Nat → Nat
  | 0, _ => 0
  | k + 1, m => if m = 0 then 0 else m % 2 + popR k (m / 2)
def iBits (a : Int32) : Int32 := nI (popR 32 a.toNatClampNeg)
def iIn (a b c : Int32) : Int32 := if a < b then nI 0 else if c < a then nI 0 else nI 1
def iDrp (n m i : Int32) : Int32 := if i = 0 then m >>> (nI 1 &&& 31) else if i = n then m &&& iLow (n - nI 1) else ((m &&& iLow (i - nI 1)) ||| ((((m >>> ((i - nI 1) &&& 31)) &&& nI 1) ||| ((m >>> (i &&& 31)) &&& nI 1)) <<< ((i - nI 1) &&& 31))) ||| ((m >>> ((i + nI 1) &&& 31)) <<< (i &&& 31))
def iGr (a b : Int32) : Int32 := if a ≤ b then b else a
def iSqS (a b k : Int32) (x : Int32 × Int32) : Int32 × Int32 := if (b >>> (k &&& 31)) &&& nI 1 = nI 1 then (x.1 ||| (((a >>> (k &&& 31)) &&& nI 1) <<< (x.2 &&& 31)), x.2 + nI 1) else x
def iSq (a b : Int32) : Nat → Int32 × Int32
  | 0 => (nI 0, nI 0)
  | n + 1 => iSqS a b (nI n) (iSq a b n)
def iHasC (n a : Int32) : Int32 := if a < 0 then nI 0 else if n ≤ a then nI 0 else nI 1
def iIsM (n m d : Int32) : Int32 := if m < 0 then nI 0 else if iLow n < m then nI 0 else if iBc m = d then nI 1 else nI 0
def iIsM7 (n m d : Int32) : Int32 := if iIn m (nI 0) (iLow n) = 0 then nI 0 else if iBits m = d then nI 1 else nI 0
def iPos (a : Int32) : Int32 := if a ≤ 0 then nI 0 else nI 1
def iNot (a : Int32) : Int32 := if a = 0 then nI 1 else nI 0
def iRes (v m : Int64) : Int64 := if 0 ≤ lg_cmp (v - v / m * m) (lN 0) then v - v / m * m else (v - v / m * m) + m
def iTmS (a b m p : Int64) (k : Int32) : Int64 := ((p <<< (Int32.toInt64 (nI 16) &&& 63)) + (a * ((b >>> (Int32.toInt64 k &&& 63)) &&& lN 65535))) - ((p <<< (Int32.toInt64 (nI 16) &&& 63)) + (a * ((b >>> (Int32.toInt64 k &&& 63)) &&& lN 65535))) / m * m
def iTms (a b m : Int64) : Int64 := iTmS a b m (iTmS a b m (iTmS a b m (lN 0) (nI 32)) (nI 32 + (-16))) (nI 32 + (-16) + (-16))
def iNlz0 (a : Int32) (k : Int32) : Int32 := k - iUs a 1
def iNlz1 (a k : Int32) : Int32 := if a < nI 4 then iNlz0 a k else iNlz0 (iUs a 2) (k + (-2))
def iNlz2 (a k : Int32) : Int32 := if a < nI 16 then iNlz1 a k else iNlz1 (iUs a 4) (k + (-4))
def iNlz3 (a k : Int32) : Int32 := if a < nI 256 then iNlz2 a k else iNlz2 (iUs a 8) (k + (-8))
def iNlz (a : Int32) : Int32 := if 0 < a then (if a < nI 65536 then iNlz3 a (nI 31) else iNlz3 (iUs a 16) (nI 31 + (-16))) else if a = 0 then nI 32 else nI 0
def iHob (a : Int32) : Int32 := a &&& (Int32.toUInt32 (-2147483648) >>> (Int32.toUInt32 (iNlz a) &&& Int32.toUInt32 31)).toInt32
def iBinS (n m : Int32) : Nat → Int32 → Int32 → Int32
  | 0, w, _ => w
  | f + 1, w, k => if m < k then w else iBinS n m f ((w * ((n - k) + nI 1)) / k) (k + nI 1)
def iBin (n m : Int32) : Int32 := iBinS n m 6 (nI 1) (nI 1)
theorem cl_lt (a : Int32) : a.toNatClampNeg < 2 ^ 31 := by
  have h := Int32.toInt_lt a
  show a.toInt.toNat < 2 ^ 31
  omega
theorem nI_cl {a : Int32} (h : ¬ a ≤ 0) : nI a.toNatClampNeg = a ∧ a.toNatClampNeg ≠ 0 := by
  rcases pk_ix a (n := 2 ^ 31 - 1) (by decide) with h1 | h1 | ⟨j, h1, h2⟩
  · exact absurd (Int32.le_of_lt h1) h
  · have h3 := Int32.le_iff_toInt_le.mp h1
    have h4 := Int32.toInt_lt a
    have h5 : (nI (2 ^ 31 - 1)).toInt = (2 ^ 31 - 1 : Nat) := nI_toInt (by decide)
    rw [h5] at h3
    have h6 : a = nI (2 ^ 31 - 1) := by
      apply Int32.toInt_inj.mp
      rw [h5]; omega
    rw [h6, nI_clamp (by decide)]
    exact ⟨rfl, by decide⟩
  · subst h2
    rw [nI_clamp (by omega)]
    refine ⟨rfl, ?_⟩
    rintro rfl
    exact h (by decide)
section PD
variable {l : Launch} {ω : Wd} {μ : Mm}
theorem c_lower (a : Int32) : CtrP l ω M_X3_lower [.int a] μ (iLo a) := Ct_X3_lower ⟨fun h => ⟨by rw [iLo, if_neg h], rfl⟩, fun h => ⟨by rw [iLo, if_pos (dnn h)], rfl⟩⟩
theorem c_upper (a : Int32) : CtrP l ω M_X3_upper [.int a] μ (iUp a) := Ct_X3_upper ⟨fun h => ⟨by rw [iUp, if_neg h], rfl⟩, fun h => ⟨by rw [iUp, if_pos (dnn h)], rfl⟩⟩
theorem c_isLess (a b : Int64) : CtrP l ω M_X5_isLess [.long a, .long b] μ (iLess a b) := Ct_X5_isLess ⟨fun h => ⟨by rw [iLess, if_pos h], rfl⟩, fun h => ⟨fun h2 => ⟨by rw [iLess, if_neg h, if_pos h2], rfl⟩, fun h2 => ⟨fun h3 => ⟨by rw [iLess, if_neg h, if_neg h2, if_pos h3], rfl⟩, fun h3 => ⟨by rw [iLess, if_neg h, if_neg h2, if_neg h3], rfl⟩⟩⟩⟩
theorem c_bits (a : Int32) : CtrP l ω M_X7_bits [.int a] μ (iBits a) := by
  refine Ct_X7_bits ?_
  have key : ∀ (k m acc : Nat), m < 2 ^ k → k < 32 → Good l ω M_X7_bits 4 [.null, .int (nI acc), .int (nI m)] [] μ (fun v μ' => v = some (.int (nI (acc + popR (k + 1) m))) ∧ μ' = μ) := by
    intro k
    induction k with
    | zero =>
      intro m acc hm hk
      obtain rfl : m = 0 := by simpa using hm
      refine Tr_X7_bits_4 ⟨fun _ => ⟨by simp [popR], rfl⟩, fun h => absurd (by decide) h⟩
    | succ k ih =>
      intro m acc hm hk
      have h31 : m < 2 ^ 31 := Nat.lt_of_lt_of_le hm (Nat.pow_le_pow_right (by decide) (by omega))
      refine Tr_X7_bits_4 ⟨fun h => ?_, fun h => ?_⟩
      · have : m = 0 := by
          rcases Nat.eq_zero_or_pos m with q | q
          · exact q
          · exact absurd h (nI_nle q h31)
        subst this
        exact ⟨by simp [popR], rfl⟩
      · have hm0 : m ≠ 0 := by rintro rfl; exact h (by decide)
        have e1 : nI m &&& nI 1 = nI (m % 2) := by rw [pk_andN (by omega) 1 (by decide)]
        have e2 : nI m >>> (nI 1 &&& 31) = nI (m / 2) := by rw [pk_shrN h31 _ 1 (by decide)]
        rw [e1, e2, nI_add]
        have := ih (m / 2) (acc + m % 2) (by rw [Nat.pow_succ] at hm; omega) (by omega)
        rw [show popR (k + 1 + 1) m = m % 2 + popR (k + 1) (m / 2) by rw [popR, if_neg hm0], ← Nat.add_assoc]
        exact this
  by_cases ha : a ≤ 0
  · refine Tr_X7_bits_4 ⟨fun _ => ⟨?_, rfl⟩, fun h => absurd ha h⟩
    have : a.toNatClampNeg = 0 := by
      have h := Int32.le_iff_toInt_le.mp ha
      have h0 : (0 : Int32).toInt = 0 := by decide
      rw [h0] at h
      show a.toInt.toNat = 0
      omega
    rw [iBits, this]; rfl
  · have h1 := nI_cl ha
    have := key 31 a.toNatClampNeg 0 (cl_lt a) (by decide)
    rw [h1.1, Nat.zero_add] at this
    exact this
theorem c_in (a b c : Int32) : CtrP l ω M_X7_in [.int a, .int b, .int c] μ (iIn a b c) := Ct_X7_in ⟨fun h => ⟨by rw [iIn, if_pos h], rfl⟩, fun h => ⟨fun h2 => ⟨by rw [iIn, if_neg h, if_pos h2], rfl⟩, fun h2 => ⟨by rw [iIn, if_neg h, if_neg h2], rfl⟩⟩⟩
theorem c_numberAt7 (a b : Int32) : CtrP l ω M_X7_numberAt [.int a, .int b] μ (iBits (a &&& iLow b)) := Ct_X7_numberAt (ex_p (c_full _) (Tr_X7_numberAt_5 (ex_p (c_bits _) (Tr_X7_numberAt_9 ⟨rfl, rfl⟩))))
theorem c_dropped (n m i : Int32) : CtrP l ω M_X7_dropped [.int n, .int m, .int i] μ (iDrp n m i) := Ct_X7_dropped ⟨fun h => ⟨fun h2 => ex_p (c_full _) (Tr_X7_dropped_43 ⟨by rw [iDrp, if_neg h, if_neg h2], rfl⟩), fun h2 => ex_p (c_full _) (Tr_X7_dropped_20 ⟨by rw [iDrp, if_neg h, if_pos (dnn h2)], rfl⟩)⟩, fun h => ⟨by rw [iDrp, if_pos (dnn h)], rfl⟩⟩
theorem c_greater (a b : Int32) : CtrP l ω M_X7_greater [.int a, .int b] μ (iGr a b) := Ct_X7_greater ⟨fun h => ⟨by rw [iGr, if_pos h], rfl⟩, fun h => ⟨by rw [iGr, if_neg h], rfl⟩⟩
theorem c_squeezed (a b : Int32) : CtrP l ω M_X7_squeezed [.int a, .int b] μ (iSq a b 6).1 := by
  refine Ct_X7_squeezed ?_
  refine upto0 (G := fun i => Good l ω M_X7_squeezed 7 [.int a, .int b, .int (iSq a b i).1, .int (iSq a b i).2, .int (nI i)] [] μ (fun v μ' => v = some (.int (iSq a b 6).1) ∧ μ' = μ)) 6 ?_ ?_ 0 (by omega)
  · exact Tr_X7_squeezed_7 ⟨fun _ => ⟨rfl, rfl⟩, fun h => absurd (show nI 6 ≤ nI 6 by decide) h⟩
  · intro i hi k
    rw [← nI_1] at k
    refine Tr_X7_squeezed_7 ⟨fun h => absurd h (nI_ge hi (by omega)), fun _ => ⟨fun h => ?_, fun h => ?_⟩⟩
    · rw [show iSq a b (i + 1) = iSq a b i by simp only [iSq, iSqS, h, if_false]] at k; exact k
    · rw [show iSq a b (i + 1) = ((iSq a b i).1 ||| (((a >>> (nI i &&& 31)) &&& nI 1) <<< ((iSq a b i).2 &&& 31)), (iSq a b i).2 + nI 1) by simp only [iSq, iSqS, dnn h, if_true]] at k; exact k
theorem c_has {t : Nat} {a : Int32} (h0 : oCl t 0 = true) : CtrP l ω M_X0_has [.ref t, .int a] μ (iHasC (ss_i μ t 2) a) := Ct_X0_has ⟨fun h => ⟨by rw [iHasC, if_pos h], rfl⟩, fun h => ⟨h0, fun h2 => ⟨by rw [iHasC, if_neg h, if_pos h2], rfl⟩, fun h2 => ⟨by rw [iHasC, if_neg h, if_neg h2], rfl⟩⟩⟩
theorem c_isMask {t : Nat} {c n m : Int32} (h0 : oCl t 0 = true) (h1 : inb (ss_r μ t 0) 1 c = true) : CtrP l ω M_X0_isMask [.ref t, .int c, .int n, .int m] μ (iIsM n m (ss_i μ (ss_r μ t 0) (Int32.toNatClampNeg c))) := Ct_X0_isMask ⟨fun h => ⟨by rw [iIsM, if_pos h], rfl⟩, fun h => ex_p (c_lowBits _) (Tr_X0_isMask_9 ⟨fun h2 => ⟨by rw [iIsM, if_neg h, if_pos h2], rfl⟩, fun h2 => ex_p (c_bitCount _) (Tr_X0_isMask_16 ⟨h0, h1, fun h3 => ⟨by rw [iIsM, if_neg h, if_neg h2, if_neg h3], rfl⟩, fun h3 => ⟨by rw [iIsM, if_neg h, if_neg h2, if_pos (dnn h3)], rfl⟩⟩)⟩)⟩
theorem c_faceAt {t : Nat} {c k : Int32} (h0 : oCl t 0 = true) (h1 : inb (ss_r μ t 1) 1 (c * (nI 5) + k) = true) : CtrP l ω M_X0_faceAt [.ref t, .int c, .int k] μ (ss_i μ (ss_r μ t 1) (Int32.toNatClampNeg (c * (nI 5) + k))) := Ct_X0_faceAt ⟨h0, h1, rfl, rfl⟩
theorem c_exists : CtrP l ω M_X1_exists [.ref 10] μ (iPos (ss_i μ 10 1)) := Ct_X1_exists ⟨fun h => ⟨by rw [iPos, if_pos h], rfl⟩, fun h => ⟨by rw [iPos, if_neg h], rfl⟩⟩
theorem c_noCell {a : Int32} : CtrP l ω M_X7_noCell [.ref 29, .int a] μ (iNot (iIn a (nI 0) ((ss_i μ 29 0) - (nI 1)))) := Ct_X7_noCell (ex_p (c_in _ _ _) (Tr_X7_noCell_11 ⟨fun h => ⟨by rw [iNot, if_neg h], rfl⟩, fun h => ⟨by rw [iNot, if_pos (dnn h)], rfl⟩⟩))
theorem c_isMask7 {c n m : Int32} (h1 : inb 30 1 c = true) : CtrP l ω M_X7_isMask [.ref 29, .int c, .int n, .int m] μ (iIsM7 n m (ss_i μ 30 (Int32.toNatClampNeg c))) := Ct_X7_isMask (ex_p (c_full _) (Tr_X7_isMask_6 (ex_p (c_in _ _ _) (Tr_X7_isMask_9 ⟨fun h => ⟨by rw [iIsM7, if_pos h], rfl⟩, fun h => ex_p (c_bits _) (Tr_X7_isMask_16 ⟨h1, fun h2 => ⟨by rw [iIsM7, if_neg h, if_neg h2], rfl⟩, fun h2 => ⟨by rw [iIsM7, if_neg h, if_pos (dnn h2)], rfl⟩⟩)⟩))))
theorem c_at {a b : Int32} (h : inb 24 2 ((a * (ss_i μ 22 3)) + b) = true) : CtrL l ω M_X5_at [.ref 22, .int a, .int b] μ (ss_l μ 24 (Int32.toNatClampNeg ((a * (ss_i μ 22 3)) + b))) := Ct_X5_at ⟨h, rfl, rfl⟩
theorem c_residue {a : Int64} (h : decide (¬ ss_l μ 22 4 = 0) = true) : CtrL l ω M_X5_residue [.ref 22, .long a] μ (iRes a (ss_l μ 22 4)) := Ct_X5_residue ⟨h, fun h2 => ⟨by rw [iRes, if_pos h2], rfl⟩, fun h2 => ⟨by rw [iRes, if_neg h2], rfl⟩⟩
theorem c_rest {a m : Int64} (h : decide (¬ m = 0) = true) : CtrL l ω M_X7_rest [.long a, .long m] μ (iRes a m) := Ct_X7_rest ⟨h, fun h2 => ⟨by rw [iRes, if_pos h2], rfl⟩, fun h2 => ⟨by rw [iRes, if_neg h2], rfl⟩⟩
theorem c_times {a b : Int64} (h : decide (¬ ss_l μ 22 4 = 0) = true) : CtrL l ω M_X5_times [.ref 22, .long a, .long b] μ (iTms a b (ss_l μ 22 4)) := Ct_X5_times (Tr_X5_times_7 ⟨fun h2 => absurd h2 (by decide), fun _ => ⟨h, Tr_X5_times_7 ⟨fun h2 => absurd h2 (by decide), fun _ => ⟨h, Tr_X5_times_7 ⟨fun h2 => absurd h2 (by decide), fun _ => ⟨h, Tr_X5_times_7 ⟨fun _ => ⟨rfl, rfl⟩, fun h2 => absurd (by decide) h2⟩⟩⟩⟩⟩⟩⟩)
theorem c_nlz (a : Int32) : CtrP l ω M_J6_numberOfLeadingZeros_0f7a4 [.int a] μ (iNlz a) := by
  have k0 : ∀ a k, Good l ω M_J6_numberOfLeadingZeros_0f7a4 73 [.int a, .int k] [] μ (fun v μ' => v = some (.int (iNlz0 a k)) ∧ μ' = μ) := fun a k => Tr_J6_numberOfLeadingZeros_0f7a4_73 ⟨rfl, rfl⟩
  have k1 : ∀ a k, Good l ω M_J6_numberOfLeadingZeros_0f7a4 61 [.int a, .int k] [] μ (fun v μ' => v = some (.int (iNlz1 a k)) ∧ μ' = μ) := fun a k => Tr_J6_numberOfLeadingZeros_0f7a4_61 ⟨fun h => by rw [iNlz1, if_pos h]; exact k0 _ _, fun h => by rw [iNlz1, if_neg h]; exact k0 _ _⟩
  have k2 : ∀ a k, Good l ω M_J6_numberOfLeadingZeros_0f7a4 48 [.int a, .int k] [] μ (fun v μ' => v = some (.int (iNlz2 a k)) ∧ μ' = μ) := fun a k => Tr_J6_numberOfLeadingZeros_0f7a4_48 ⟨fun h => by rw [iNlz2, if_pos h]; exact k1 _ _, fun h => by rw [iNlz2, if_neg h]; exact k1 _ _⟩
  have k3 : ∀ a k, Good l ω M_J6_numberOfLeadingZeros_0f7a4 33 [.int a, .int k] [] μ (fun v μ' => v = some (.int (iNlz3 a k)) ∧ μ' = μ) := fun a k => Tr_J6_numberOfLeadingZeros_0f7a4_33 ⟨fun h => by rw [iNlz3, if_pos h]; exact k2 _ _, fun h => by rw [iNlz3, if_neg h]; exact k2 _ _⟩
  refine Ct_J6_numberOfLeadingZeros_0f7a4 ⟨fun h => ⟨fun h2 => ?_, fun h2 => ?_⟩, fun h => ⟨fun h2 => ⟨?_, rfl⟩, fun h2 => ⟨?_, rfl⟩⟩⟩
  · rw [iNlz, if_pos h, if_pos h2]; exact k3 _ _
  · rw [iNlz, if_pos h, if_neg h2]; exact k3 _ _
  · rw [iNlz, if_neg h, if_neg h2]
  · rw [iNlz, if_neg h, if_pos (dnn h2)]
theorem c_highestOneBit (a : Int32) : CtrP l ω M_J6_highestOneBit_0f7a4 [.int a] μ (iHob a) := Ct_J6_highestOneBit_0f7a4 (ex_p (c_nlz _) (Tr_J6_highestOneBit_0f7a4_7 ⟨rfl, rfl⟩))
end PD
section GDP
variable {l : Launch} {ω : Wd} {M : MD} {pc : Nat} {L st : List Value} {μ : Mm} {Q : Option Value → Mm → Prop}
theorem gd_pSI {M' : MD} {idx n : Nat} {r : Int32} (as : List Value) (hs : StS M.2.2.2.2.1 idx M' n) (hd : decode M.2.1 pc = .ok (.invokestatic idx, 3)) (hn : as.length = n) (hR : rmOk (rmM M) M' st = true) {st0 : List Value} (h0 : st0 = as.reverse ++ st) (K : CtrP l ω M' as μ r) (k : Good l ω M (pc + 3) L (.int r :: st) μ Q) : Good l ω M pc L st0 μ Q := gd_callS as hs hd hn hR h0 K (fun v μ' h => by obtain ⟨rfl, rfl⟩ := h; exact k)
theorem gd_pSJ {M' : MD} {idx n : Nat} {r : Int64} (as : List Value) (hs : StS M.2.2.2.2.1 idx M' n) (hd : decode M.2.1 pc = .ok (.invokestatic idx, 3)) (hn : as.length = n) (hR : rmOk (rmM M) M' st = true) {st0 : List Value} (h0 : st0 = as.reverse ++ st) (K : CtrL l ω M' as μ r) (k : Good l ω M (pc + 3) L (.long r :: st) μ Q) : Good l ω M pc L st0 μ Q := gd_callS as hs hd hn hR h0 K (fun v μ' h => by obtain ⟨rfl, rfl⟩ := h; exact k)
theorem gd_pNI {M' : MD} {idx n : Nat} {r : Int32} (as : List Value) (hs : StN M.2.2.2.2.1 idx M' n) (hd : decode M.2.1 pc = .ok (.invokestatic idx, 3)) (hn : as.length = n) (hR : rmOk (rmM M) M' st = true) {st0 : List Value} (h0 : st0 = as.reverse ++ st) (K : CtrP l ω M' as μ r) (k : Good l ω M (pc + 3) L (.int r :: st) μ Q) : Good l ω M pc L st0 μ Q := gd_callN as hs hd hn hR h0 K (fun v μ' h => by obtain ⟨rfl, rfl⟩ := h; exact k)
theorem gd_pVI {M' : MD} {idx n q : Nat} {r : Int32} (as : List Value) (hs : StV M.2.2.2.2.1 idx M' n) (hd : decode M.2.1 pc = .ok (.invokevirtual idx, 3)) (hn : as.length = n) (hR : rmOk (rmM M) M' st = true) {st0 : List Value} (h0 : st0 = as.reverse ++ .ref q :: st) (ho : oCl q M'.2.2.2.2.1 = true) (K : CtrP l ω M' (.ref q :: as) μ r) (k : Good l ω M (pc + 3) L (.int r :: st) μ Q) : Good l ω M pc L st0 μ Q := gd_callV as hs hd hn hR h0 ho K (fun v μ' h => by obtain ⟨rfl, rfl⟩ := h; exact k)
theorem gd_pVJ {M' : MD} {idx n q : Nat} {r : Int64} (as : List Value) (hs : StV M.2.2.2.2.1 idx M' n) (hd : decode M.2.1 pc = .ok (.invokevirtual idx, 3)) (hn : as.length = n) (hR : rmOk (rmM M) M' st = true) {st0 : List Value} (h0 : st0 = as.reverse ++ .ref q :: st) (ho : oCl q M'.2.2.2.2.1 = true) (K : CtrL l ω M' (.ref q :: as) μ r) (k : Good l ω M (pc + 3) L (.long r :: st) μ Q) : Good l ω M pc L st0 μ Q := gd_callV as hs hd hn hR h0 ho K (fun v μ' h => by obtain ⟨rfl, rfl⟩ := h; exact k)
end GDP
end
section
/-! masks as numbers below 64 -/
def popN (m : Nat) : Nat := m % 2 + m / 2 % 2 + m / 4 % 2 + m / 8 % 2 + m / 16 % 2 + m / 32 % 2
def bitN (m j : Nat) : Nat := m / 2 ^ j % 2
def woN (m j : Nat) : Nat := m % 2 ^ j + m / 2 ^ (j + 1) * 2 ^ j
def wcN (m j : Nat) : Nat := m % 2 ^ j + m / 2 ^ j * 2 ^ (j + 1)
def numN (m j : Nat) : Nat := popN (m % 2 ^ j)
def sprN (f s : Nat) : Nat := (if bitN s 0 = 1 ∧ bitN f (numN s 0) = 1 then 1 else 0) + (if bitN s 1 = 1 ∧ bitN f (numN s 1) = 1 then 2 else 0) + (if bitN s 2 = 1 ∧ bitN f (numN s 2) = 1 then 4 else 0) + (if bitN s 3 = 1 ∧ bitN f (numN s 3) = 1 then 8 else 0) + (if bitN s 4 = 1 ∧ bitN f (numN s 4) = 1 then 16 else 0) + (if bitN s 5 = 1 ∧ bitN f (numN s 5) = 1 then 32 else 0)
def gatN (m s : Nat) : Nat := (if bitN s 0 = 1 ∧ bitN m 0 = 1 then 2 ^ numN s 0 else 0) + (if bitN s 1 = 1 ∧ bitN m 1 = 1 then 2 ^ numN s 1 else 0) + (if bitN s 2 = 1 ∧ bitN m 2 = 1 then 2 ^ numN s 2 else 0) + (if bitN s 3 = 1 ∧ bitN m 3 = 1 then 2 ^ numN s 3 else 0) + (if bitN s 4 = 1 ∧ bitN m 4 = 1 then 2 ^ numN s 4 else 0) + (if bitN s 5 = 1 ∧ bitN m 5 = 1 then 2 ^ numN s 5 else 0)
theorem d_low : ∀ n, n < 7 → iLow (nI n) = nI (2 ^ n - 1) := by decide +kernel
theorem d_bc : ∀ m, m < 64 → iBc (nI m) = nI (popN m) := by decide +kernel
theorem d_has : ∀ m, m < 64 → ∀ j, j < 7 → iHas (nI m) (nI j) = nI (bitN m j) := by decide +kernel
theorem d_num : ∀ m, m < 64 → ∀ j, j < 7 → iNum (nI m) (nI j) = nI (numN m j) := by decide +kernel
theorem d_wo : ∀ m, m < 64 → ∀ j, j < 7 → iWo (nI m) (nI j) = nI (woN m j) := by decide +kernel
theorem d_wc : ∀ m, m < 64 → ∀ j, j < 7 → iWc (nI m) (nI j) = nI (wcN m j) := by decide +kernel
theorem d_sp : ∀ f, f < 8 → ∀ s, s < 32 → iSp (nI f) (nI s) 6 = nI (sprN f s) := by decide +kernel
theorem d_ga : ∀ m, m < 16 → ∀ s, s < 16 → iGa (nI m) (nI s) 6 = nI (gatN m s) := by decide +kernel
theorem d_and : ∀ m, m < 64 → ∀ j, j < 7 → nI m &&& nI (2 ^ j - 1) = nI (m % 2 ^ j) := by decide +kernel
/-- the number at a place of the sequence stands there alone -/
def aloN (n m i : Nat) : Bool := (decide (i = 0) || decide (bitN m (i - 1) = 1)) && (decide (i = n) || decide (bitN m i = 1))
def stpN (n m i : Nat) : Nat := woN m (if i < n then i else n - 1)
/-- what is left of a mask whose number at a place is there twice -/
def drpN (n m i : Nat) : Nat := if i < n ∧ bitN m i = 0 then woN m i else woN m (i - 1)
def k_alo (n m i : Nat) : Bool := !(decide (1 ≤ n) && aloN n m i) || decide (1 ≤ popN m ∧ numN m i ≤ popN m ∧ popN (stpN n m i) = popN m - 1 ∧ stpN n m i < 2 ^ (n - 1) ∧ ¬ (i < n ∧ bitN m i = 0) ∧ ¬ (0 < i ∧ bitN m (i - 1) = 0))
theorem d_alo0 : ∀ n, n < 7 → ∀ m, m < 2 ^ n → ∀ i, i < n + 1 → k_alo n m i = true := by decide +kernel
theorem d_alo {n m i : Nat} (hn : n < 7) (hn1 : 1 ≤ n) (hm : m < 2 ^ n) (hi : i ≤ n) (ha : aloN n m i = true) : 1 ≤ popN m ∧ numN m i ≤ popN m ∧ popN (stpN n m i) = popN m - 1 ∧ stpN n m i < 2 ^ (n - 1) ∧ ¬ (i < n ∧ bitN m i = 0) ∧ ¬ (0 < i ∧ bitN m (i - 1) = 0) := by
  have h := d_alo0 n hn m hm i (by omega)
  unfold k_alo at h
  rw [ha, decide_eq_true hn1] at h
  exact of_decide_eq_true h
def k_drp (n m i : Nat) : Bool := !(decide (1 ≤ n) && !aloN n m i) || decide (popN (drpN n m i) = popN m ∧ drpN n m i < 2 ^ (n - 1) ∧ ((i < n ∧ bitN m i = 0) ∨ (0 < i ∧ bitN m (i - 1) = 0)))
theorem d_drp0 : ∀ n, n < 7 → ∀ m, m < 2 ^ n → ∀ i, i < n + 1 → k_drp n m i = true := by decide +kernel
theorem d_drp {n m i : Nat} (hn : n < 7) (hn1 : 1 ≤ n) (hm : m < 2 ^ n) (hi : i ≤ n) (ha : aloN n m i = false) : popN (drpN n m i) = popN m ∧ drpN n m i < 2 ^ (n - 1) ∧ ((i < n ∧ bitN m i = 0) ∨ (0 < i ∧ bitN m (i - 1) = 0)) := by
  have h := d_drp0 n hn m hm i (by omega)
  unfold k_drp at h
  rw [ha, decide_eq_true hn1] at h
  exact of_decide_eq_true h
theorem d_spr : ∀ s, s < 32 → ∀ f, f < 8 → f < 2 ^ popN s → popN (sprN f s) = popN f ∧ sprN f s ≤ s := by decide +kernel
theorem pop_lt64 : ∀ m, m < 64 → popN m < 7 := by decide +kernel
theorem pop_le : ∀ n, n < 7 → ∀ m, m < 2 ^ n → popN m ≤ n := by decide +kernel
theorem num_le : ∀ m, m < 64 → ∀ j, j < 7 → numN m j ≤ popN m := by decide +kernel
theorem p2_lt {n m : Nat} (hn : n < 7) (hm : m < 2 ^ n) : m < 64 := Nat.lt_of_lt_of_le hm (show 2 ^ n ≤ 2 ^ 6 from Nat.pow_le_pow_right (by decide) (by omega))
/-! a simplex as one number -/
theorem pk_cell {x m : Nat} (hx : x < 48) (hm : m < 64) : iCell (nI (64 * x + m)) = nI x := by
  unfold iCell
  rw [pk_shrN (by omega) _ 6 (by decide)]
  congr 1; omega
theorem pk_mask {x m : Nat} (hx : x < 48) (hm : m < 64) : iMask (nI (64 * x + m)) = nI m := by
  unfold iMask
  rw [pk_andN (by omega) 6 (by decide)]
  congr 1; omega
theorem pk_pack : ∀ x, x < 48 → ∀ m, m < 64 → iPack (nI x) (nI m) = nI (64 * x + m) := by decide +kernel
end

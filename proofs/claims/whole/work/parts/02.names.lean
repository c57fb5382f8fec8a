/-! ===== BEGIN words of one list among another's, by their places ===== -/
theorem goodIn_r {big : List Cond} (ws : List Cond) (ps : List Nat) (hp : ws = ps.filterMap (fun i => big[i]?)) (h : ws.all goodWord = true) : GoodIn big ws := by
  intro w hw
  have h1 := List.all_eq_true.mp h w hw
  rw [hp] at hw
  obtain ⟨i, -, hi⟩ := List.mem_filterMap.mp hw
  have hm : w ∈ big := by first | exact List.mem_of_getElem? hi | exact List.getElem?_mem hi
  exact ⟨hm, good_of_word h1⟩
theorem goodIn_app {big a b : List Cond} (ha : GoodIn big a) (hb : GoodIn big b) : GoodIn big (a ++ b) := fun w h => (List.mem_append.mp h).elim (ha w) (hb w)
theorem goodIn_ca {big a b : List Cond} {c : Cond} (ha : GoodIn big (c :: a)) (hb : GoodIn big b) : GoodIn big (c :: (a ++ b)) := fun w h => (List.mem_cons.mp h).elim (fun e => ha w (List.mem_cons.mpr (Or.inl e))) (fun h => (List.mem_append.mp h).elim (fun h => ha w (List.mem_cons.mpr (Or.inr h))) (hb w))
theorem goodIn_sub {big ws : List Cond} (hm : ∀ w ∈ ws, w ∈ big) (h : ws.all goodWord = true) : GoodIn big ws := fun w hw => ⟨hm w hw, good_of_word (List.all_eq_true.mp h w hw)⟩
/-! ===== END ===== -/

/-! ===== BEGIN printed: names, fields, word lists, decode rows ===== -/
def RX0 : String := "SimplicialSet$Cells"
def TX0 : u_T := fun k => match k with
  | 0 => ("SimplicialSet$Cells", "dimensions", "[I", true)
  | 1 => ("SimplicialSet$Cells", "faces", "[I", true)
  | _ => ("SimplicialSet$Cells", "count", "I", false)
def tyX0 : Nat → FieldType := fun k => match k with
  | 0 => .array .int
  | 1 => .array .int
  | _ => .int
abbrev wsX00 : List Cond := u_ws RX0 TX0 3
theorem nmX0 : ∀ a, a < 3 → ∀ b, b < 3 → a ≠ b → (TX0 a).2.1 ≠ (TX0 b).2.1 := by decide +kernel
theorem tyX0_ok : ∀ k, k < 3 → parseFieldDescriptor (TX0 k).2.2.1 = some (tyX0 k) := by decide +kernel
abbrev cX0_init : ByteArray := prog_2_method_1_code
def yX0_init : MethodName := ⟨RX0, "<init>", "()V"⟩
abbrev cX0_has : ByteArray := prog_2_method_2_code
def yX0_has : MethodName := ⟨RX0, "has", "(I)Z"⟩
abbrev cX0_isMask : ByteArray := prog_2_method_3_code
def yX0_isMask : MethodName := ⟨RX0, "isMask", "(III)Z"⟩
abbrev cX0_faceAt : ByteArray := prog_2_method_4_code
def yX0_faceAt : MethodName := ⟨RX0, "faceAt", "(II)I"⟩
abbrev cX0_append : ByteArray := prog_2_method_5_code
def yX0_append : MethodName := ⟨RX0, "append", "(I[I)I"⟩
abbrev cX0_copyFrom : ByteArray := prog_2_method_6_code
def yX0_copyFrom : MethodName := ⟨RX0, "copyFrom", "(LSimplicialSet$Cells;)V"⟩
abbrev cX0_countOf : ByteArray := prog_2_method_7_code
def yX0_countOf : MethodName := ⟨RX0, "countOf", "(I)I"⟩
abbrev cX0_greatestDimension : ByteArray := prog_2_method_8_code
def yX0_greatestDimension : MethodName := ⟨RX0, "greatestDimension", "()I"⟩
abbrev cX0_faceOf : ByteArray := prog_2_method_9_code
def yX0_faceOf : MethodName := ⟨RX0, "faceOf", "(III)I"⟩
def RX1 : String := "SimplicialSet$Draft"
def TX1 : u_T := fun k => match k with
  | 0 => ("SimplicialSet$Draft", "faces", "[I", true)
  | _ => ("SimplicialSet$Draft", "size", "I", false)
def tyX1 : Nat → FieldType := fun k => match k with
  | 0 => .array .int
  | _ => .int
abbrev wsX10 : List Cond := u_ws RX1 TX1 2
theorem nmX1 : ∀ a, a < 2 → ∀ b, b < 2 → a ≠ b → (TX1 a).2.1 ≠ (TX1 b).2.1 := by decide +kernel
theorem tyX1_ok : ∀ k, k < 2 → parseFieldDescriptor (TX1 k).2.2.1 = some (tyX1 k) := by decide +kernel
abbrev cX1_init : ByteArray := prog_3_method_1_code
def yX1_init : MethodName := ⟨RX1, "<init>", "()V"⟩
abbrev cX1_exists : ByteArray := prog_3_method_2_code
def yX1_exists : MethodName := ⟨RX1, "exists", "()Z"⟩
abbrev cX1_begin : ByteArray := prog_3_method_3_code
def yX1_begin : MethodName := ⟨RX1, "begin", "(I)V"⟩
abbrev cX1_drop : ByteArray := prog_3_method_4_code
def yX1_drop : MethodName := ⟨RX1, "drop", "()V"⟩
abbrev cX1_isComplete : ByteArray := prog_3_method_5_code
def yX1_isComplete : MethodName := ⟨RX1, "isComplete", "()Z"⟩
abbrev cX1_satisfiesIdentities : ByteArray := prog_3_method_6_code
def yX1_satisfiesIdentities : MethodName := ⟨RX1, "satisfiesIdentities", "(LSimplicialSet$Cells;)Z"⟩
def RX2 : String := "SimplicialSet$Homology"
def TX2 : u_T := fun k => match k with
  | 0 => ("SimplicialSet$Homology", "matrix", "LSimplicialSet$Residues;", true)
  | 1 => ("SimplicialSet$Homology", "factors", "[J", true)
  | 2 => ("SimplicialSet$Homology", "rank", "I", false)
  | _ => ("SimplicialSet$Homology", "minor", "J", false)
def tyX2 : Nat → FieldType := fun k => match k with
  | 0 => .object "SimplicialSet$Residues"
  | 1 => .array .long
  | 2 => .int
  | _ => .long
abbrev wsX20 : List Cond := u_ws RX2 TX2 4
theorem nmX2 : ∀ a, a < 4 → ∀ b, b < 4 → a ≠ b → (TX2 a).2.1 ≠ (TX2 b).2.1 := by decide +kernel
theorem tyX2_ok : ∀ k, k < 4 → parseFieldDescriptor (TX2 k).2.2.1 = some (tyX2 k) := by decide +kernel
abbrev cX2_init : ByteArray := prog_4_method_1_code
def yX2_init : MethodName := ⟨RX2, "<init>", "()V"⟩
abbrev cX2_rankOf : ByteArray := prog_4_method_2_code
def yX2_rankOf : MethodName := ⟨RX2, "rankOf", "(LSimplicialSet$Cells;I)I"⟩
abbrev cX2_findFactors : ByteArray := prog_4_method_3_code
def yX2_findFactors : MethodName := ⟨RX2, "findFactors", "(LSimplicialSet$Cells;I)V"⟩
abbrev cX2_unitFactors : ByteArray := prog_4_method_4_code
def yX2_unitFactors : MethodName := ⟨RX2, "unitFactors", "()I"⟩
abbrev cX2_eliminate : ByteArray := prog_4_method_5_code
def yX2_eliminate : MethodName := ⟨RX2, "eliminate", "()V"⟩
abbrev cX2_clearBelow : ByteArray := prog_4_method_6_code
def yX2_clearBelow : MethodName := ⟨RX2, "clearBelow", "(II)V"⟩
abbrev cX2_isolatePivot : ByteArray := prog_4_method_7_code
def yX2_isolatePivot : MethodName := ⟨RX2, "isolatePivot", "(I)V"⟩
abbrev cX2_orderByDivision : ByteArray := prog_4_method_8_code
def yX2_orderByDivision : MethodName := ⟨RX2, "orderByDivision", "(I)V"⟩
def RX3 : String := "SimplicialSet$Horns"
def TX3 : u_T := fun k => match k with
  | 0 => ("SimplicialSet$Horns", "filled", "[J", true)
  | 1 => ("SimplicialSet$Horns", "meetsAsA", "[I", true)
  | _ => ("SimplicialSet$Horns", "meetsAsB", "[I", true)
def tyX3 : Nat → FieldType := fun k => match k with
  | 0 => .array .long
  | 1 => .array .int
  | _ => .array .int
abbrev wsX30 : List Cond := u_ws RX3 TX3 3
theorem nmX3 : ∀ a, a < 3 → ∀ b, b < 3 → a ≠ b → (TX3 a).2.1 ≠ (TX3 b).2.1 := by decide +kernel
theorem tyX3_ok : ∀ k, k < 3 → parseFieldDescriptor (TX3 k).2.2.1 = some (tyX3 k) := by decide +kernel
abbrev cX3_init : ByteArray := prog_5_method_1_code
def yX3_init : MethodName := ⟨RX3, "<init>", "()V"⟩
abbrev cX3_forget : ByteArray := prog_5_method_2_code
def yX3_forget : MethodName := ⟨RX3, "forget", "()V"⟩
abbrev cX3_markFilled : ByteArray := prog_5_method_3_code
def yX3_markFilled : MethodName := ⟨RX3, "markFilled", "(LSimplicialSet$Cells;I)V"⟩
abbrev cX3_countUnmarked : ByteArray := prog_5_method_4_code
def yX3_countUnmarked : MethodName := ⟨RX3, "countUnmarked", "(LSimplicialSet$Cells;I)I"⟩
abbrev cX3_findMeetingPoints : ByteArray := prog_5_method_5_code
def yX3_findMeetingPoints : MethodName := ⟨RX3, "findMeetingPoints", "(LSimplicialSet$Cells;I)V"⟩
abbrev cX3_lower : ByteArray := prog_5_method_6_code
def yX3_lower : MethodName := ⟨RX3, "lower", "(I)I"⟩
abbrev cX3_upper : ByteArray := prog_5_method_7_code
def yX3_upper : MethodName := ⟨RX3, "upper", "(I)I"⟩
def RX4 : String := "SimplicialSet$Pairs"
def TX4 : u_T := fun k => match k with
  | 0 => ("SimplicialSet$Pairs", "sizes", "[I", true)
  | 1 => ("SimplicialSet$Pairs", "firsts", "[I", true)
  | 2 => ("SimplicialSet$Pairs", "seconds", "[I", true)
  | 3 => ("SimplicialSet$Pairs", "row", "[I", true)
  | _ => ("SimplicialSet$Pairs", "count", "I", false)
def tyX4 : Nat → FieldType := fun k => match k with
  | 0 => .array .int
  | 1 => .array .int
  | 2 => .array .int
  | 3 => .array .int
  | _ => .int
abbrev wsX40 : List Cond := u_ws RX4 TX4 5
theorem nmX4 : ∀ a, a < 5 → ∀ b, b < 5 → a ≠ b → (TX4 a).2.1 ≠ (TX4 b).2.1 := by decide +kernel
theorem tyX4_ok : ∀ k, k < 5 → parseFieldDescriptor (TX4 k).2.2.1 = some (tyX4 k) := by decide +kernel
abbrev cX4_init : ByteArray := prog_6_method_1_code
def yX4_init : MethodName := ⟨RX4, "<init>", "()V"⟩
abbrev cX4_collect : ByteArray := prog_6_method_2_code
def yX4_collect : MethodName := ⟨RX4, "collect", "(LSimplicialSet$Cells;LSimplicialSet$Cells;I)Z"⟩
abbrev cX4_collectPartners : ByteArray := prog_6_method_3_code
def yX4_collectPartners : MethodName := ⟨RX4, "collectPartners", "(ILSimplicialSet$Cells;I)Z"⟩
abbrev cX4_writeTo : ByteArray := prog_6_method_4_code
def yX4_writeTo : MethodName := ⟨RX4, "writeTo", "(LSimplicialSet$Cells;LSimplicialSet$Cells;LSimplicialSet$Cells;)V"⟩
abbrev cX4_faceOfPair : ByteArray := prog_6_method_5_code
def yX4_faceOfPair : MethodName := ⟨RX4, "faceOfPair", "(II)I"⟩
abbrev cX4_find : ByteArray := prog_6_method_6_code
def yX4_find : MethodName := ⟨RX4, "find", "(II)I"⟩
def RX5 : String := "SimplicialSet$Residues"
def TX5 : u_T := fun k => match k with
  | 0 => ("SimplicialSet$Residues", "entries", "[J", true)
  | 1 => ("SimplicialSet$Residues", "placeOf", "[I", true)
  | 2 => ("SimplicialSet$Residues", "rows", "I", false)
  | 3 => ("SimplicialSet$Residues", "columns", "I", false)
  | _ => ("SimplicialSet$Residues", "modulus", "J", false)
def tyX5 : Nat → FieldType := fun k => match k with
  | 0 => .array .long
  | 1 => .array .int
  | 2 => .int
  | 3 => .int
  | _ => .long
abbrev wsX50 : List Cond := u_ws RX5 TX5 5
theorem nmX5 : ∀ a, a < 5 → ∀ b, b < 5 → a ≠ b → (TX5 a).2.1 ≠ (TX5 b).2.1 := by decide +kernel
theorem tyX5_ok : ∀ k, k < 5 → parseFieldDescriptor (TX5 k).2.2.1 = some (tyX5 k) := by decide +kernel
abbrev cX5_init : ByteArray := prog_7_method_1_code
def yX5_init : MethodName := ⟨RX5, "<init>", "()V"⟩
abbrev cX5_load : ByteArray := prog_7_method_2_code
def yX5_load : MethodName := ⟨RX5, "load", "(LSimplicialSet$Cells;IJ)V"⟩
abbrev cX5_numberCells : ByteArray := prog_7_method_3_code
def yX5_numberCells : MethodName := ⟨RX5, "numberCells", "(LSimplicialSet$Cells;I)I"⟩
abbrev cX5_loadColumn : ByteArray := prog_7_method_4_code
def yX5_loadColumn : MethodName := ⟨RX5, "loadColumn", "(LSimplicialSet$Cells;I)V"⟩
abbrev cX5_residue : ByteArray := prog_7_method_5_code
def yX5_residue : MethodName := ⟨RX5, "residue", "(J)J"⟩
abbrev cX5_times : ByteArray := prog_7_method_6_code
def yX5_times : MethodName := ⟨RX5, "times", "(JJ)J"⟩
abbrev cX5_power : ByteArray := prog_7_method_7_code
def yX5_power : MethodName := ⟨RX5, "power", "(JJ)J"⟩
abbrev cX5_at : ByteArray := prog_7_method_8_code
def yX5_at : MethodName := ⟨RX5, "at", "(II)J"⟩
abbrev cX5_rowWithEntry : ByteArray := prog_7_method_9_code
def yX5_rowWithEntry : MethodName := ⟨RX5, "rowWithEntry", "(II)I"⟩
abbrev cX5_swapRows : ByteArray := prog_7_method_10_code
def yX5_swapRows : MethodName := ⟨RX5, "swapRows", "(II)V"⟩
abbrev cX5_swapColumns : ByteArray := prog_7_method_11_code
def yX5_swapColumns : MethodName := ⟨RX5, "swapColumns", "(II)V"⟩
abbrev cX5_swap : ByteArray := prog_7_method_12_code
def yX5_swap : MethodName := ⟨RX5, "swap", "(II)V"⟩
abbrev cX5_subtractRow : ByteArray := prog_7_method_13_code
def yX5_subtractRow : MethodName := ⟨RX5, "subtractRow", "(IIJ)V"⟩
abbrev cX5_subtractColumn : ByteArray := prog_7_method_14_code
def yX5_subtractColumn : MethodName := ⟨RX5, "subtractColumn", "(IIJ)V"⟩
abbrev cX5_subtract : ByteArray := prog_7_method_15_code
def yX5_subtract : MethodName := ⟨RX5, "subtract", "(IIJ)V"⟩
abbrev cX5_moveLeast : ByteArray := prog_7_method_16_code
def yX5_moveLeast : MethodName := ⟨RX5, "moveLeast", "(I)V"⟩
abbrev cX5_isLess : ByteArray := prog_7_method_17_code
def yX5_isLess : MethodName := ⟨RX5, "isLess", "(JJ)Z"⟩
abbrev cX5_isIsolated : ByteArray := prog_7_method_18_code
def yX5_isIsolated : MethodName := ⟨RX5, "isIsolated", "(I)Z"⟩
abbrev cX5_reduceCross : ByteArray := prog_7_method_19_code
def yX5_reduceCross : MethodName := ⟨RX5, "reduceCross", "(I)V"⟩
def RX6 : String := "SimplicialSet"
def TX6 : u_T := fun k => match k with
  | 0 => ("SimplicialSet", "present", "LSimplicialSet$Cells;", false)
  | 1 => ("SimplicialSet", "spare", "LSimplicialSet$Cells;", false)
  | 2 => ("SimplicialSet", "saved", "LSimplicialSet$Cells;", true)
  | 3 => ("SimplicialSet", "draft", "LSimplicialSet$Draft;", true)
  | 4 => ("SimplicialSet", "pairs", "LSimplicialSet$Pairs;", true)
  | 5 => ("SimplicialSet", "horns", "LSimplicialSet$Horns;", true)
  | 6 => ("SimplicialSet", "homology", "LSimplicialSet$Homology;", true)
  | 7 => ("SimplicialSet", "partOf", "[I", true)
  | 8 => ("SimplicialSet", "faceRow", "[I", true)
  | _ => ("SimplicialSet", "cellOfSubset", "[I", true)
def tyX6 : Nat → FieldType := fun k => match k with
  | 0 => .object "SimplicialSet$Cells"
  | 1 => .object "SimplicialSet$Cells"
  | 2 => .object "SimplicialSet$Cells"
  | 3 => .object "SimplicialSet$Draft"
  | 4 => .object "SimplicialSet$Pairs"
  | 5 => .object "SimplicialSet$Horns"
  | 6 => .object "SimplicialSet$Homology"
  | 7 => .array .int
  | 8 => .array .int
  | _ => .array .int
abbrev wsX60 : List Cond := u_ws RX6 TX6 10
theorem nmX6 : ∀ a, a < 10 → ∀ b, b < 10 → a ≠ b → (TX6 a).2.1 ≠ (TX6 b).2.1 := by decide +kernel
theorem tyX6_ok : ∀ k, k < 10 → parseFieldDescriptor (TX6 k).2.2.1 = some (tyX6 k) := by decide +kernel
abbrev cX6_init : ByteArray := prog_1_method_1_code
def yX6_init : MethodName := ⟨RX6, "<init>", "()V"⟩
abbrev cX6_addVertex : ByteArray := prog_1_method_2_code
def yX6_addVertex : MethodName := ⟨RX6, "addVertex", "()I"⟩
abbrev cX6_beginCell : ByteArray := prog_1_method_3_code
def yX6_beginCell : MethodName := ⟨RX6, "beginCell", "(I)I"⟩
abbrev cX6_setFace : ByteArray := prog_1_method_4_code
def yX6_setFace : MethodName := ⟨RX6, "setFace", "(III)I"⟩
abbrev cX6_endCell : ByteArray := prog_1_method_5_code
def yX6_endCell : MethodName := ⟨RX6, "endCell", "()I"⟩
abbrev cX6_clear : ByteArray := prog_1_method_6_code
def yX6_clear : MethodName := ⟨RX6, "clear", "()I"⟩
abbrev cX6_cellCount : ByteArray := prog_1_method_7_code
def yX6_cellCount : MethodName := ⟨RX6, "cellCount", "(I)I"⟩
abbrev cX6_dimension : ByteArray := prog_1_method_8_code
def yX6_dimension : MethodName := ⟨RX6, "dimension", "(I)I"⟩
abbrev cX6_faceCell : ByteArray := prog_1_method_9_code
def yX6_faceCell : MethodName := ⟨RX6, "faceCell", "(IIII)I"⟩
abbrev cX6_faceMask : ByteArray := prog_1_method_10_code
def yX6_faceMask : MethodName := ⟨RX6, "faceMask", "(IIII)I"⟩
abbrev cX6_degeneracyMask : ByteArray := prog_1_method_11_code
def yX6_degeneracyMask : MethodName := ⟨RX6, "degeneracyMask", "(IIII)I"⟩
abbrev cX6_vertex : ByteArray := prog_1_method_12_code
def yX6_vertex : MethodName := ⟨RX6, "vertex", "(IIII)I"⟩
abbrev cX6_simplexCount : ByteArray := prog_1_method_13_code
def yX6_simplexCount : MethodName := ⟨RX6, "simplexCount", "(I)I"⟩
abbrev cX6_eulerCharacteristic : ByteArray := prog_1_method_14_code
def yX6_eulerCharacteristic : MethodName := ⟨RX6, "eulerCharacteristic", "()I"⟩
abbrev cX6_partCount : ByteArray := prog_1_method_15_code
def yX6_partCount : MethodName := ⟨RX6, "partCount", "()I"⟩
abbrev cX6_incidence : ByteArray := prog_1_method_16_code
def yX6_incidence : MethodName := ⟨RX6, "incidence", "(II)I"⟩
abbrev cX6_betti : ByteArray := prog_1_method_17_code
def yX6_betti : MethodName := ⟨RX6, "betti", "(I)I"⟩
abbrev cX6_torsionCount : ByteArray := prog_1_method_18_code
def yX6_torsionCount : MethodName := ⟨RX6, "torsionCount", "(I)I"⟩
abbrev cX6_torsion : ByteArray := prog_1_method_19_code
def yX6_torsion : MethodName := ⟨RX6, "torsion", "(II)J"⟩
abbrev cX6_hornCount : ByteArray := prog_1_method_20_code
def yX6_hornCount : MethodName := ⟨RX6, "hornCount", "(I)I"⟩
abbrev cX6_unfilledCount : ByteArray := prog_1_method_21_code
def yX6_unfilledCount : MethodName := ⟨RX6, "unfilledCount", "(I)I"⟩
abbrev cX6_loadSimplex : ByteArray := prog_1_method_22_code
def yX6_loadSimplex : MethodName := ⟨RX6, "loadSimplex", "(I)I"⟩
abbrev cX6_loadSphere : ByteArray := prog_1_method_23_code
def yX6_loadSphere : MethodName := ⟨RX6, "loadSphere", "(I)I"⟩
abbrev cX6_save : ByteArray := prog_1_method_24_code
def yX6_save : MethodName := ⟨RX6, "save", "()I"⟩
abbrev cX6_product : ByteArray := prog_1_method_25_code
def yX6_product : MethodName := ⟨RX6, "product", "()I"⟩
abbrev cX6_removeAll : ByteArray := prog_1_method_26_code
def yX6_removeAll : MethodName := ⟨RX6, "removeAll", "()V"⟩
abbrev cX6_checkPlace : ByteArray := prog_1_method_27_code
def yX6_checkPlace : MethodName := ⟨RX6, "checkPlace", "(IIIIII)I"⟩
abbrev cX6_pointAt : ByteArray := prog_1_method_28_code
def yX6_pointAt : MethodName := ⟨RX6, "pointAt", "(III)I"⟩
abbrev cX6_joinEnds : ByteArray := prog_1_method_29_code
def yX6_joinEnds : MethodName := ⟨RX6, "joinEnds", "(I)Z"⟩
abbrev cX6_appendSubsets : ByteArray := prog_1_method_30_code
def yX6_appendSubsets : MethodName := ⟨RX6, "appendSubsets", "(II)V"⟩
abbrev cX6_setFacesOfSubset : ByteArray := prog_1_method_31_code
def yX6_setFacesOfSubset : MethodName := ⟨RX6, "setFacesOfSubset", "(II)V"⟩
abbrev cX6_pack : ByteArray := prog_1_method_32_code
def yX6_pack : MethodName := ⟨RX6, "pack", "(II)I"⟩
abbrev cX6_cellOf : ByteArray := prog_1_method_33_code
def yX6_cellOf : MethodName := ⟨RX6, "cellOf", "(I)I"⟩
abbrev cX6_maskOf : ByteArray := prog_1_method_34_code
def yX6_maskOf : MethodName := ⟨RX6, "maskOf", "(I)I"⟩
abbrev cX6_lowBits : ByteArray := prog_1_method_35_code
def yX6_lowBits : MethodName := ⟨RX6, "lowBits", "(I)I"⟩
abbrev cX6_numberAt : ByteArray := prog_1_method_36_code
def yX6_numberAt : MethodName := ⟨RX6, "numberAt", "(II)I"⟩
abbrev cX6_hasBit : ByteArray := prog_1_method_37_code
def yX6_hasBit : MethodName := ⟨RX6, "hasBit", "(II)Z"⟩
abbrev cX6_withoutBit : ByteArray := prog_1_method_38_code
def yX6_withoutBit : MethodName := ⟨RX6, "withoutBit", "(II)I"⟩
abbrev cX6_withClearBit : ByteArray := prog_1_method_39_code
def yX6_withClearBit : MethodName := ⟨RX6, "withClearBit", "(II)I"⟩
abbrev cX6_gatherBits : ByteArray := prog_1_method_40_code
def yX6_gatherBits : MethodName := ⟨RX6, "gatherBits", "(II)I"⟩
abbrev cX6_spreadBits : ByteArray := prog_1_method_41_code
def yX6_spreadBits : MethodName := ⟨RX6, "spreadBits", "(II)I"⟩
abbrev cX6_sign : ByteArray := prog_1_method_42_code
def yX6_sign : MethodName := ⟨RX6, "sign", "(I)I"⟩
abbrev cX6_gcd : ByteArray := prog_1_method_43_code
def yX6_gcd : MethodName := ⟨RX6, "gcd", "(JJ)J"⟩
abbrev cX6_binomial : ByteArray := prog_1_method_44_code
def yX6_binomial : MethodName := ⟨RX6, "binomial", "(II)I"⟩
def RX7 : String := "SimplicialSetModel"
def TX7 : u_T := fun k => match k with
  | 0 => ("SimplicialSetModel", "cells", "I", false)
  | 1 => ("SimplicialSetModel", "saved", "I", false)
  | 2 => ("SimplicialSetModel", "dimensionOf", "[I", true)
  | 3 => ("SimplicialSetModel", "faceOf", "[I", true)
  | 4 => ("SimplicialSetModel", "maskOf", "[I", true)
  | 5 => ("SimplicialSetModel", "draft", "I", false)
  | 6 => ("SimplicialSetModel", "draftSet", "I", false)
  | 7 => ("SimplicialSetModel", "draftCell", "[I", true)
  | 8 => ("SimplicialSetModel", "draftMask", "[I", true)
  | 9 => ("SimplicialSetModel", "gotCell", "I", false)
  | 10 => ("SimplicialSetModel", "gotMask", "I", false)
  | 11 => ("SimplicialSetModel", "partOf", "[I", true)
  | 12 => ("SimplicialSetModel", "rows", "I", false)
  | 13 => ("SimplicialSetModel", "columns", "I", false)
  | 14 => ("SimplicialSetModel", "matrix", "[I", true)
  | 15 => ("SimplicialSetModel", "work", "[J", true)
  | 16 => ("SimplicialSetModel", "isUsed", "[Z", true)
  | 17 => ("SimplicialSetModel", "pivotRow", "[I", true)
  | 18 => ("SimplicialSetModel", "pivotColumn", "[I", true)
  | 19 => ("SimplicialSetModel", "modulus", "J", false)
  | 20 => ("SimplicialSetModel", "factorOf", "[J", true)
  | 21 => ("SimplicialSetModel", "factors", "I", false)
  | 22 => ("SimplicialSetModel", "allRows", "I", false)
  | 23 => ("SimplicialSetModel", "allColumns", "I", false)
  | 24 => ("SimplicialSetModel", "isFilled", "[Z", true)
  | 25 => ("SimplicialSetModel", "subsetOf", "[I", true)
  | 26 => ("SimplicialSetModel", "pairs", "I", false)
  | 27 => ("SimplicialSetModel", "pairDimension", "[I", true)
  | 28 => ("SimplicialSetModel", "pairOne", "[I", true)
  | 29 => ("SimplicialSetModel", "pairOther", "[I", true)
  | 30 => ("SimplicialSetModel", "pairMask", "[I", true)
  | 31 => ("SimplicialSetModel", "pairOtherMask", "[I", true)
  | 32 => ("SimplicialSetModel", "newFace", "[I", true)
  | _ => ("SimplicialSetModel", "newMask", "[I", true)
def tyX7 : Nat → FieldType := fun k => match k with
  | 0 => .int
  | 1 => .int
  | 2 => .array .int
  | 3 => .array .int
  | 4 => .array .int
  | 5 => .int
  | 6 => .int
  | 7 => .array .int
  | 8 => .array .int
  | 9 => .int
  | 10 => .int
  | 11 => .array .int
  | 12 => .int
  | 13 => .int
  | 14 => .array .int
  | 15 => .array .long
  | 16 => .array .boolean
  | 17 => .array .int
  | 18 => .array .int
  | 19 => .long
  | 20 => .array .long
  | 21 => .int
  | 22 => .int
  | 23 => .int
  | 24 => .array .boolean
  | 25 => .array .int
  | 26 => .int
  | 27 => .array .int
  | 28 => .array .int
  | 29 => .array .int
  | 30 => .array .int
  | 31 => .array .int
  | 32 => .array .int
  | _ => .array .int
abbrev wsX70 : List Cond := u_ws RX7 TX7 34
theorem nmX7 : ∀ a, a < 34 → ∀ b, b < 34 → a ≠ b → (TX7 a).2.1 ≠ (TX7 b).2.1 := by decide +kernel
theorem tyX7_ok : ∀ k, k < 34 → parseFieldDescriptor (TX7 k).2.2.1 = some (tyX7 k) := by decide +kernel
abbrev cX7_init : ByteArray := prog_9_method_1_code
def yX7_init : MethodName := ⟨RX7, "<init>", "()V"⟩
abbrev cX7_bits : ByteArray := prog_9_method_2_code
def yX7_bits : MethodName := ⟨RX7, "bits", "(I)I"⟩
abbrev cX7_in : ByteArray := prog_9_method_3_code
def yX7_in : MethodName := ⟨RX7, "in", "(III)Z"⟩
abbrev cX7_full : ByteArray := prog_9_method_4_code
def yX7_full : MethodName := ⟨RX7, "full", "(I)I"⟩
abbrev cX7_noCell : ByteArray := prog_9_method_5_code
def yX7_noCell : MethodName := ⟨RX7, "noCell", "(I)Z"⟩
abbrev cX7_isMask : ByteArray := prog_9_method_6_code
def yX7_isMask : MethodName := ⟨RX7, "isMask", "(III)Z"⟩
abbrev cX7_numberAt : ByteArray := prog_9_method_7_code
def yX7_numberAt : MethodName := ⟨RX7, "numberAt", "(II)I"⟩
abbrev cX7_dropped : ByteArray := prog_9_method_8_code
def yX7_dropped : MethodName := ⟨RX7, "dropped", "(III)I"⟩
abbrev cX7_takeFace : ByteArray := prog_9_method_9_code
def yX7_takeFace : MethodName := ⟨RX7, "takeFace", "(IIIII)V"⟩
abbrev cX7_addCell : ByteArray := prog_9_method_10_code
def yX7_addCell : MethodName := ⟨RX7, "addCell", "(I)I"⟩
abbrev cX7_putFace : ByteArray := prog_9_method_11_code
def yX7_putFace : MethodName := ⟨RX7, "putFace", "(IIII)V"⟩
abbrev cX7_addVertex : ByteArray := prog_9_method_12_code
def yX7_addVertex : MethodName := ⟨RX7, "addVertex", "()I"⟩
abbrev cX7_beginCell : ByteArray := prog_9_method_13_code
def yX7_beginCell : MethodName := ⟨RX7, "beginCell", "(I)I"⟩
abbrev cX7_setFace : ByteArray := prog_9_method_14_code
def yX7_setFace : MethodName := ⟨RX7, "setFace", "(III)I"⟩
abbrev cX7_areFacesSo : ByteArray := prog_9_method_15_code
def yX7_areFacesSo : MethodName := ⟨RX7, "areFacesSo", "()Z"⟩
abbrev cX7_endCell : ByteArray := prog_9_method_16_code
def yX7_endCell : MethodName := ⟨RX7, "endCell", "()I"⟩
abbrev cX7_clear : ByteArray := prog_9_method_17_code
def yX7_clear : MethodName := ⟨RX7, "clear", "()I"⟩
abbrev cX7_countOf : ByteArray := prog_9_method_18_code
def yX7_countOf : MethodName := ⟨RX7, "countOf", "(I)I"⟩
abbrev cX7_cellCount : ByteArray := prog_9_method_19_code
def yX7_cellCount : MethodName := ⟨RX7, "cellCount", "(I)I"⟩
abbrev cX7_dimension : ByteArray := prog_9_method_20_code
def yX7_dimension : MethodName := ⟨RX7, "dimension", "(I)I"⟩
abbrev cX7_simplexBarred : ByteArray := prog_9_method_21_code
def yX7_simplexBarred : MethodName := ⟨RX7, "simplexBarred", "(IIIIII)I"⟩
abbrev cX7_faceCell : ByteArray := prog_9_method_22_code
def yX7_faceCell : MethodName := ⟨RX7, "faceCell", "(IIII)I"⟩
abbrev cX7_faceMask : ByteArray := prog_9_method_23_code
def yX7_faceMask : MethodName := ⟨RX7, "faceMask", "(IIII)I"⟩
abbrev cX7_degeneracyMask : ByteArray := prog_9_method_24_code
def yX7_degeneracyMask : MethodName := ⟨RX7, "degeneracyMask", "(IIII)I"⟩
abbrev cX7_vertex : ByteArray := prog_9_method_25_code
def yX7_vertex : MethodName := ⟨RX7, "vertex", "(IIII)I"⟩
abbrev cX7_choose : ByteArray := prog_9_method_26_code
def yX7_choose : MethodName := ⟨RX7, "choose", "(II)I"⟩
abbrev cX7_simplexCount : ByteArray := prog_9_method_27_code
def yX7_simplexCount : MethodName := ⟨RX7, "simplexCount", "(I)I"⟩
abbrev cX7_eulerCharacteristic : ByteArray := prog_9_method_28_code
def yX7_eulerCharacteristic : MethodName := ⟨RX7, "eulerCharacteristic", "()I"⟩
abbrev cX7_partCount : ByteArray := prog_9_method_29_code
def yX7_partCount : MethodName := ⟨RX7, "partCount", "()I"⟩
abbrev cX7_entryOf : ByteArray := prog_9_method_30_code
def yX7_entryOf : MethodName := ⟨RX7, "entryOf", "(II)I"⟩
abbrev cX7_incidence : ByteArray := prog_9_method_31_code
def yX7_incidence : MethodName := ⟨RX7, "incidence", "(II)I"⟩
abbrev cX7_layMatrix : ByteArray := prog_9_method_32_code
def yX7_layMatrix : MethodName := ⟨RX7, "layMatrix", "(I)V"⟩
abbrev cX7_rest : ByteArray := prog_9_method_33_code
def yX7_rest : MethodName := ⟨RX7, "rest", "(JJ)J"⟩
abbrev cX7_inverse : ByteArray := prog_9_method_34_code
def yX7_inverse : MethodName := ⟨RX7, "inverse", "(JJ)J"⟩
abbrev cX7_clearColumn : ByteArray := prog_9_method_35_code
def yX7_clearColumn : MethodName := ⟨RX7, "clearColumn", "(IIJ)V"⟩
abbrev cX7_rankBy : ByteArray := prog_9_method_36_code
def yX7_rankBy : MethodName := ⟨RX7, "rankBy", "(J)I"⟩
abbrev cX7_rankOf : ByteArray := prog_9_method_37_code
def yX7_rankOf : MethodName := ⟨RX7, "rankOf", "(I)I"⟩
abbrev cX7_betti : ByteArray := prog_9_method_38_code
def yX7_betti : MethodName := ⟨RX7, "betti", "(I)I"⟩
abbrev cX7_minorBy : ByteArray := prog_9_method_39_code
def yX7_minorBy : MethodName := ⟨RX7, "minorBy", "(IJ)J"⟩
abbrev cX7_minorOf : ByteArray := prog_9_method_40_code
def yX7_minorOf : MethodName := ⟨RX7, "minorOf", "(I)J"⟩
abbrev cX7_product64 : ByteArray := prog_9_method_41_code
def yX7_product64 : MethodName := ⟨RX7, "product64", "(JJ)J"⟩
abbrev cX7_common : ByteArray := prog_9_method_42_code
def yX7_common : MethodName := ⟨RX7, "common", "(JJ)J"⟩
abbrev cX7_takesLeast : ByteArray := prog_9_method_43_code
def yX7_takesLeast : MethodName := ⟨RX7, "takesLeast", "(I)Z"⟩
abbrev cX7_addRow : ByteArray := prog_9_method_44_code
def yX7_addRow : MethodName := ⟨RX7, "addRow", "(IIJ)V"⟩
abbrev cX7_addColumn : ByteArray := prog_9_method_45_code
def yX7_addColumn : MethodName := ⟨RX7, "addColumn", "(IIJ)V"⟩
abbrev cX7_clearsCross : ByteArray := prog_9_method_46_code
def yX7_clearsCross : MethodName := ⟨RX7, "clearsCross", "(I)Z"⟩
abbrev cX7_oddRow : ByteArray := prog_9_method_47_code
def yX7_oddRow : MethodName := ⟨RX7, "oddRow", "(I)I"⟩
abbrev cX7_factorAt : ByteArray := prog_9_method_48_code
def yX7_factorAt : MethodName := ⟨RX7, "factorAt", "(I)J"⟩
abbrev cX7_layTorsion : ByteArray := prog_9_method_49_code
def yX7_layTorsion : MethodName := ⟨RX7, "layTorsion", "(I)V"⟩
abbrev cX7_torsionCount : ByteArray := prog_9_method_50_code
def yX7_torsionCount : MethodName := ⟨RX7, "torsionCount", "(I)I"⟩
abbrev cX7_torsion : ByteArray := prog_9_method_51_code
def yX7_torsion : MethodName := ⟨RX7, "torsion", "(II)J"⟩
abbrev cX7_vertexOf : ByteArray := prog_9_method_52_code
def yX7_vertexOf : MethodName := ⟨RX7, "vertexOf", "(II)I"⟩
abbrev cX7_layFilled : ByteArray := prog_9_method_53_code
def yX7_layFilled : MethodName := ⟨RX7, "layFilled", "(II)V"⟩
abbrev cX7_hornsAt : ByteArray := prog_9_method_54_code
def yX7_hornsAt : MethodName := ⟨RX7, "hornsAt", "(IZ)I"⟩
abbrev cX7_hornCount : ByteArray := prog_9_method_55_code
def yX7_hornCount : MethodName := ⟨RX7, "hornCount", "(I)I"⟩
abbrev cX7_unfilledCount : ByteArray := prog_9_method_56_code
def yX7_unfilledCount : MethodName := ⟨RX7, "unfilledCount", "(I)I"⟩
abbrev cX7_cellBy : ByteArray := prog_9_method_57_code
def yX7_cellBy : MethodName := ⟨RX7, "cellBy", "(I)I"⟩
abbrev cX7_addSubset : ByteArray := prog_9_method_58_code
def yX7_addSubset : MethodName := ⟨RX7, "addSubset", "(III)V"⟩
abbrev cX7_loadSimplex : ByteArray := prog_9_method_59_code
def yX7_loadSimplex : MethodName := ⟨RX7, "loadSimplex", "(I)I"⟩
abbrev cX7_loadSphere : ByteArray := prog_9_method_60_code
def yX7_loadSphere : MethodName := ⟨RX7, "loadSphere", "(I)I"⟩
abbrev cX7_save : ByteArray := prog_9_method_61_code
def yX7_save : MethodName := ⟨RX7, "save", "()I"⟩
abbrev cX7_addPair : ByteArray := prog_9_method_62_code
def yX7_addPair : MethodName := ⟨RX7, "addPair", "(IIIII)V"⟩
abbrev cX7_layPairs : ByteArray := prog_9_method_63_code
def yX7_layPairs : MethodName := ⟨RX7, "layPairs", "()V"⟩
abbrev cX7_squeezed : ByteArray := prog_9_method_64_code
def yX7_squeezed : MethodName := ⟨RX7, "squeezed", "(II)I"⟩
abbrev cX7_pairBy : ByteArray := prog_9_method_65_code
def yX7_pairBy : MethodName := ⟨RX7, "pairBy", "(IIII)I"⟩
abbrev cX7_greater : ByteArray := prog_9_method_66_code
def yX7_greater : MethodName := ⟨RX7, "greater", "(II)I"⟩
abbrev cX7_layPairFaces : ByteArray := prog_9_method_67_code
def yX7_layPairFaces : MethodName := ⟨RX7, "layPairFaces", "(I)V"⟩
abbrev cX7_product : ByteArray := prog_9_method_68_code
def yX7_product : MethodName := ⟨RX7, "product", "()I"⟩
def RJx145de : String := "java/io/Serializable"
def TJx145de : u_T := fun k => match k with
  | _ => ("", "", "", false)
def tyJx145de : Nat → FieldType := fun k => match k with
  | _ => .int
abbrev wsJx145de0 : List Cond := u_ws RJx145de TJx145de 0
theorem nmJx145de : ∀ a, a < 0 → ∀ b, b < 0 → a ≠ b → (TJx145de a).2.1 ≠ (TJx145de b).2.1 := by decide +kernel
theorem tyJx145de_ok : ∀ k, k < 0 → parseFieldDescriptor (TJx145de k).2.2.1 = some (tyJx145de k) := by decide +kernel
def RJxb160c : String := "java/lang/Comparable"
def TJxb160c : u_T := fun k => match k with
  | _ => ("", "", "", false)
def tyJxb160c : Nat → FieldType := fun k => match k with
  | _ => .int
abbrev wsJxb160c0 : List Cond := u_ws RJxb160c TJxb160c 0
theorem nmJxb160c : ∀ a, a < 0 → ∀ b, b < 0 → a ≠ b → (TJxb160c a).2.1 ≠ (TJxb160c b).2.1 := by decide +kernel
theorem tyJxb160c_ok : ∀ k, k < 0 → parseFieldDescriptor (TJxb160c k).2.2.1 = some (tyJxb160c k) := by decide +kernel
def RJ6 : String := "java/lang/Integer"
def TJ6 : u_T := fun k => match k with
  | _ => ("", "", "", false)
def tyJ6 : Nat → FieldType := fun k => match k with
  | _ => .int
abbrev wsJ60 : List Cond := u_ws RJ6 TJ6 0
theorem nmJ6 : ∀ a, a < 0 → ∀ b, b < 0 → a ≠ b → (TJ6 a).2.1 ≠ (TJ6 b).2.1 := by decide +kernel
theorem tyJ6_ok : ∀ k, k < 0 → parseFieldDescriptor (TJ6 k).2.2.1 = some (tyJ6 k) := by decide +kernel
abbrev cJ6_highestOneBit_0f7a4 : ByteArray := prog_10_method_45_code
def yJ6_highestOneBit_0f7a4 : MethodName := ⟨RJ6, "highestOneBit", "(I)I"⟩
abbrev cJ6_numberOfLeadingZeros_0f7a4 : ByteArray := prog_10_method_47_code
def yJ6_numberOfLeadingZeros_0f7a4 : MethodName := ⟨RJ6, "numberOfLeadingZeros", "(I)I"⟩
abbrev cJ6_bitCount_0f7a4 : ByteArray := prog_10_method_49_code
def yJ6_bitCount_0f7a4 : MethodName := ⟨RJ6, "bitCount", "(I)I"⟩
def RJ9 : String := "java/lang/Math"
def TJ9 : u_T := fun k => match k with
  | _ => ("", "", "", false)
def tyJ9 : Nat → FieldType := fun k => match k with
  | _ => .int
abbrev wsJ90 : List Cond := u_ws RJ9 TJ9 0
theorem nmJ9 : ∀ a, a < 0 → ∀ b, b < 0 → a ≠ b → (TJ9 a).2.1 ≠ (TJ9 b).2.1 := by decide +kernel
theorem tyJ9_ok : ∀ k, k < 0 → parseFieldDescriptor (TJ9 k).2.2.1 = some (tyJ9 k) := by decide +kernel
abbrev cJ9_max_7cf53 : ByteArray := prog_11_method_65_code
def yJ9_max_7cf53 : MethodName := ⟨RJ9, "max", "(II)I"⟩
abbrev cJ9_max_f86c9 : ByteArray := prog_11_method_66_code
def yJ9_max_f86c9 : MethodName := ⟨RJ9, "max", "(JJ)J"⟩
abbrev cJ9_min_7cf53 : ByteArray := prog_11_method_69_code
def yJ9_min_7cf53 : MethodName := ⟨RJ9, "min", "(II)I"⟩
abbrev cJ9_min_f86c9 : ByteArray := prog_11_method_70_code
def yJ9_min_f86c9 : MethodName := ⟨RJ9, "min", "(JJ)J"⟩
def RJxd2413 : String := "java/lang/Number"
def TJxd2413 : u_T := fun k => match k with
  | _ => ("", "", "", false)
def tyJxd2413 : Nat → FieldType := fun k => match k with
  | _ => .int
abbrev wsJxd24130 : List Cond := u_ws RJxd2413 TJxd2413 0
theorem nmJxd2413 : ∀ a, a < 0 → ∀ b, b < 0 → a ≠ b → (TJxd2413 a).2.1 ≠ (TJxd2413 b).2.1 := by decide +kernel
theorem tyJxd2413_ok : ∀ k, k < 0 → parseFieldDescriptor (TJxd2413 k).2.2.1 = some (tyJxd2413 k) := by decide +kernel
def RJ10 : String := "java/lang/System"
def TJ10 : u_T := fun k => match k with
  | _ => ("", "", "", false)
def tyJ10 : Nat → FieldType := fun k => match k with
  | _ => .int
abbrev wsJ100 : List Cond := u_ws RJ10 TJ10 0
theorem nmJ10 : ∀ a, a < 0 → ∀ b, b < 0 → a ≠ b → (TJ10 a).2.1 ≠ (TJ10 b).2.1 := by decide +kernel
theorem tyJ10_ok : ∀ k, k < 0 → parseFieldDescriptor (TJ10 k).2.2.1 = some (tyJ10 k) := by decide +kernel
def RJxfd54e : String := "java/lang/constant/Constable"
def TJxfd54e : u_T := fun k => match k with
  | _ => ("", "", "", false)
def tyJxfd54e : Nat → FieldType := fun k => match k with
  | _ => .int
abbrev wsJxfd54e0 : List Cond := u_ws RJxfd54e TJxfd54e 0
theorem nmJxfd54e : ∀ a, a < 0 → ∀ b, b < 0 → a ≠ b → (TJxfd54e a).2.1 ≠ (TJxfd54e b).2.1 := by decide +kernel
theorem tyJxfd54e_ok : ∀ k, k < 0 → parseFieldDescriptor (TJxfd54e k).2.2.1 = some (tyJxfd54e k) := by decide +kernel
def RJx3cf43 : String := "java/lang/constant/ConstantDesc"
def TJx3cf43 : u_T := fun k => match k with
  | _ => ("", "", "", false)
def tyJx3cf43 : Nat → FieldType := fun k => match k with
  | _ => .int
abbrev wsJx3cf430 : List Cond := u_ws RJx3cf43 TJx3cf43 0
theorem nmJx3cf43 : ∀ a, a < 0 → ∀ b, b < 0 → a ≠ b → (TJx3cf43 a).2.1 ≠ (TJx3cf43 b).2.1 := by decide +kernel
theorem tyJx3cf43_ok : ∀ k, k < 0 → parseFieldDescriptor (TJx3cf43 k).2.2.1 = some (tyJx3cf43 k) := by decide +kernel
def RJ7 : String := "java/util/Arrays"
def TJ7 : u_T := fun k => match k with
  | _ => ("", "", "", false)
def tyJ7 : Nat → FieldType := fun k => match k with
  | _ => .int
abbrev wsJ70 : List Cond := u_ws RJ7 TJ7 0
theorem nmJ7 : ∀ a, a < 0 → ∀ b, b < 0 → a ≠ b → (TJ7 a).2.1 ≠ (TJ7 b).2.1 := by decide +kernel
theorem tyJ7_ok : ∀ k, k < 0 → parseFieldDescriptor (TJ7 k).2.2.1 = some (tyJ7 k) := by decide +kernel
abbrev cJ7_fill_d0a16 : ByteArray := prog_14_method_101_code
def yJ7_fill_d0a16 : MethodName := ⟨RJ7, "fill", "([JJ)V"⟩
abbrev cJ7_fill_53178 : ByteArray := prog_14_method_103_code
def yJ7_fill_53178 : MethodName := ⟨RJ7, "fill", "([II)V"⟩
def RL : String := "SimplicialSetLaw"
abbrev cL_law : ByteArray := code
def yL_law : MethodName := ⟨RL, "law", "([I)Z"⟩
abbrev vwCl : List vw_C := [(RX0, TX0, 3), (RX1, TX1, 2), (RX2, TX2, 4), (RX3, TX3, 3), (RX4, TX4, 5), (RX5, TX5, 5), (RX6, TX6, 10), (RX7, TX7, 34)]

def shp : List (Nat × Nat) := [(0, 6), (0, 0), (1, 48), (1, 240), (0, 0), (1, 48), (1, 240), (0, 0), (1, 48), (1, 240), (0, 1), (1, 5), (0, 4), (1, 48), (1, 48), (1, 48), (1, 5), (0, 3), (2, 48), (1, 48), (1, 48), (0, 2), (0, 5), (2, 48), (2, 576), (1, 48), (1, 48), (1, 5), (1, 32), (0, 7), (1, 96), (1, 480), (1, 480), (1, 5), (1, 5), (1, 48), (1, 2304), (2, 2304), (3, 48), (1, 48), (1, 48), (2, 48), (3, 2304), (1, 48), (1, 48), (1, 48), (1, 48), (1, 48), (1, 48), (1, 240), (1, 240)]
def fkL : List (List Nat) := [[2, 2, 0], [2, 0], [2, 2, 0, 1], [2, 2, 2], [2, 2, 2, 2, 0], [2, 2, 0, 0, 1], [2, 2, 2, 2, 2, 2, 2, 2, 2, 2], [0, 0, 2, 2, 2, 0, 0, 2, 2, 0, 0, 2, 0, 0, 2, 2, 2, 2, 2, 1, 2, 0, 0, 0, 2, 2, 0, 2, 2, 2, 2, 2, 2, 2]]
def pfL : List (List Nat) := [[0, 0, 7, 10, 12, 17, 21, 26, 27, 28], [2, 3, 0], [], [], [5, 6, 0], [], [], [8, 9, 0], [], [], [11, 0], [], [13, 14, 15, 16, 0], [], [], [], [], [18, 19, 20], [], [], [], [22, 23, 0, 0], [24, 25, 0, 0, 0], [], [], [], [], [], [], [0, 0, 30, 31, 32, 0, 0, 33, 34, 0, 0, 35, 0, 0, 36, 37, 38, 39, 40, 0, 41, 0, 0, 0, 42, 43, 0, 44, 45, 46, 47, 48, 49, 50], [], [], [], [], [], [], [], [], [], [], [], [], [], [], [], [], [], [], [], [], []]
def RR : Nat → String := fun k => match k with
  | 0 => RX0
  | 1 => RX1
  | 2 => RX2
  | 3 => RX3
  | 4 => RX4
  | 5 => RX5
  | 6 => RX6
  | 7 => RX7
  | 8 => RJ6
  | 9 => RJ9
  | 10 => RJ7
  | _ => RL
def TT : Nat → u_T := fun k => match k with
  | 0 => TX0
  | 1 => TX1
  | 2 => TX2
  | 3 => TX3
  | 4 => TX4
  | 5 => TX5
  | 6 => TX6
  | _ => TX7
def tyT : Nat → Nat → FieldType := fun k => match k with
  | 0 => tyX0
  | 1 => tyX1
  | 2 => tyX2
  | 3 => tyX3
  | 4 => tyX4
  | 5 => tyX5
  | 6 => tyX6
  | _ => tyX7
def NN : List Nat := [3, 2, 4, 3, 5, 5, 10, 34]
/-- the tables words that stay good in a callee -/
def gt : List Cond := lw_tbl.filter goodWord
theorem gt_at (i : Nat) {w : Cond} (h : lw_tbl[i]? = some w) (hg : goodWord w = true) : w ∈ gt := List.mem_filter.mpr ⟨List.mem_of_getElem? h, hg⟩
theorem inX0 : ∀ w ∈ wsX00, w ∈ gt := by
  have h : wsX00 = [91, 93, 95].filterMap (fun i => lw_tbl[i]?) := by decide +kernel
  have g : wsX00.all goodWord = true := by decide +kernel
  intro w hw
  have hg := List.all_eq_true.mp g w hw
  rw [h] at hw
  obtain ⟨i, -, hi⟩ := List.mem_filterMap.mp hw
  exact gt_at i hi hg
theorem inX1 : ∀ w ∈ wsX10, w ∈ gt := by
  have h : wsX10 = [109, 111].filterMap (fun i => lw_tbl[i]?) := by decide +kernel
  have g : wsX10.all goodWord = true := by decide +kernel
  intro w hw
  have hg := List.all_eq_true.mp g w hw
  rw [h] at hw
  obtain ⟨i, -, hi⟩ := List.mem_filterMap.mp hw
  exact gt_at i hi hg
theorem inX2 : ∀ w ∈ wsX20, w ∈ gt := by
  have h : wsX20 = [189, 191, 193, 195].filterMap (fun i => lw_tbl[i]?) := by decide +kernel
  have g : wsX20.all goodWord = true := by decide +kernel
  intro w hw
  have hg := List.all_eq_true.mp g w hw
  rw [h] at hw
  obtain ⟨i, -, hi⟩ := List.mem_filterMap.mp hw
  exact gt_at i hi hg
theorem inX3 : ∀ w ∈ wsX30, w ∈ gt := by
  have h : wsX30 = [145, 147, 149].filterMap (fun i => lw_tbl[i]?) := by decide +kernel
  have g : wsX30.all goodWord = true := by decide +kernel
  intro w hw
  have hg := List.all_eq_true.mp g w hw
  rw [h] at hw
  obtain ⟨i, -, hi⟩ := List.mem_filterMap.mp hw
  exact gt_at i hi hg
theorem inX4 : ∀ w ∈ wsX40, w ∈ gt := by
  have h : wsX40 = [125, 127, 129, 131, 133].filterMap (fun i => lw_tbl[i]?) := by decide +kernel
  have g : wsX40.all goodWord = true := by decide +kernel
  intro w hw
  have hg := List.all_eq_true.mp g w hw
  rw [h] at hw
  obtain ⟨i, -, hi⟩ := List.mem_filterMap.mp hw
  exact gt_at i hi hg
theorem inX5 : ∀ w ∈ wsX50, w ∈ gt := by
  have h : wsX50 = [172, 174, 176, 178, 180].filterMap (fun i => lw_tbl[i]?) := by decide +kernel
  have g : wsX50.all goodWord = true := by decide +kernel
  intro w hw
  have hg := List.all_eq_true.mp g w hw
  rw [h] at hw
  obtain ⟨i, -, hi⟩ := List.mem_filterMap.mp hw
  exact gt_at i hi hg
theorem inX6 : ∀ w ∈ wsX60, w ∈ gt := by
  have h : wsX60 = [208, 210, 212, 214, 216, 218, 220, 222, 224, 226].filterMap (fun i => lw_tbl[i]?) := by decide +kernel
  have g : wsX60.all goodWord = true := by decide +kernel
  intro w hw
  have hg := List.all_eq_true.mp g w hw
  rw [h] at hw
  obtain ⟨i, -, hi⟩ := List.mem_filterMap.mp hw
  exact gt_at i hi hg
theorem inX7 : ∀ w ∈ wsX70, w ∈ gt := by
  have h : wsX70 = [695, 697, 699, 701, 703, 705, 707, 709, 711, 713, 715, 717, 719, 721, 723, 725, 727, 729, 731, 733, 735, 737, 739, 741, 743, 745, 747, 749, 751, 753, 755, 757, 759, 761].filterMap (fun i => lw_tbl[i]?) := by decide +kernel
  have g : wsX70.all goodWord = true := by decide +kernel
  intro w hw
  have hg := List.all_eq_true.mp g w hw
  rw [h] at hw
  obtain ⟨i, -, hi⟩ := List.mem_filterMap.mp hw
  exact gt_at i hi hg
def flT : List (Nat × Nat × Nat × Nat) := [(0, 9, 0, 0), (5, 51, 0, 0), (3, 67, 0, 0), (6, 111, 0, 0), (0, 15, 0, 1), (0, 18, 0, 2), (4, 28, 0, 2), (5, 46, 0, 2), (3, 28, 0, 2), (6, 101, 0, 2), (1, 9, 1, 0), (6, 84, 1, 0), (1, 15, 1, 1), (6, 72, 1, 1), (4, 9, 4, 0), (4, 15, 4, 1), (4, 18, 4, 2), (4, 21, 4, 3), (4, 24, 4, 4), (3, 9, 3, 0), (3, 15, 3, 1), (3, 19, 3, 2), (5, 11, 5, 0), (5, 15, 5, 1), (5, 33, 5, 2), (2, 39, 5, 2), (5, 37, 5, 3), (2, 42, 5, 3), (5, 19, 5, 4), (2, 12, 2, 0), (2, 18, 2, 1), (6, 165, 2, 1), (2, 31, 2, 2), (6, 154, 2, 2), (2, 35, 2, 3), (6, 10, 6, 0), (6, 16, 6, 1), (6, 19, 6, 2), (6, 25, 6, 3), (6, 32, 6, 4), (6, 39, 6, 5), (6, 46, 6, 6), (6, 50, 6, 7), (6, 54, 6, 8), (6, 57, 6, 9), (7, 75, 7, 0), (7, 261, 7, 1), (7, 7, 7, 2), (7, 13, 7, 3), (7, 16, 7, 4), (7, 107, 7, 5), (7, 110, 7, 6), (7, 19, 7, 7), (7, 22, 7, 8), (7, 90, 7, 9), (7, 97, 7, 10), (7, 25, 7, 11), (7, 145, 7, 12), (7, 148, 7, 13), (7, 28, 7, 14), (7, 31, 7, 15), (7, 35, 7, 16), (7, 39, 7, 17), (7, 42, 7, 18), (7, 193, 7, 19), (7, 45, 7, 20), (7, 224, 7, 21), (7, 197, 7, 22), (7, 200, 7, 23), (7, 48, 7, 24), (7, 51, 7, 25), (7, 264, 7, 26), (7, 54, 7, 27), (7, 57, 7, 28), (7, 60, 7, 29), (7, 63, 7, 30), (7, 66, 7, 31), (7, 69, 7, 32), (7, 72, 7, 33)]
def ctI : List (Nat × Nat × Int) := [(8, 265, 1431655765), (8, 266, 858993459), (8, 267, 252645135), (8, 127, -2147483648), (8, 264, 65536)]
def ctL : List (Nat × Nat × Int) := [(2, 22, 35184372088777), (5, 77, 65535), (2, 81, 35184372088775), (6, 161, -102), (6, 163, -104), (6, 169, -109), (7, 168, 2147483647), (7, 151, 2), (7, 174, 2147483629), (7, 183, 18), (7, 185, 2305842987738857481), (7, 187, 4611685975477714963), (7, 189, 64), (7, 191, 63), (7, 237, -102), (7, 239, -104), (7, 241, -109)]
def flW (q : Nat × Nat × Nat × Nat) : Cond := .fieldLink (RR q.1) q.2.1 (TT q.2.2.1 q.2.2.2).1 (TT q.2.2.1 q.2.2.2).2.1 (TT q.2.2.1 q.2.2.2).2.2.1
set_option maxRecDepth 20000 in
theorem flT_ok : ∀ q ∈ flT, flW q ∈ gt := by
  have h : flT.map flW = [81, 82, 83, 84, 85, 86, 87, 88, 89, 90, 105, 106, 107, 108, 120, 121, 122, 123, 124, 142, 143, 144, 165, 166, 167, 168, 169, 170, 171, 183, 184, 185, 186, 187, 188, 198, 199, 200, 201, 202, 203, 204, 205, 206, 207, 661, 662, 663, 664, 665, 666, 667, 668, 669, 670, 671, 672, 673, 674, 675, 676, 677, 678, 679, 680, 681, 682, 683, 684, 685, 686, 687, 688, 689, 690, 691, 692, 693, 694].filterMap (fun i => lw_tbl[i]?) := by decide +kernel
  have g : (flT.map flW).all goodWord = true := by decide +kernel
  intro q hq
  have hm : flW q ∈ flT.map flW := List.mem_map_of_mem hq
  have hg := List.all_eq_true.mp g _ hm
  rw [h] at hm
  obtain ⟨i, -, hi⟩ := List.mem_filterMap.mp hm
  exact gt_at i hi hg
theorem flT_lt : ∀ q ∈ flT, q.2.2.1 < 8 ∧ q.2.2.2 < NN.getD q.2.2.1 0 := by decide +kernel
def ctIW (q : Nat × Nat × Int) : Cond := .constant (RR q.1) q.2.1 (Int32.ofInt q.2.2)
theorem ctI_ok : ∀ q ∈ ctI, ctIW q ∈ gt := by
  have h : ctI.map ctIW = [273, 274, 275, 596, 600].filterMap (fun i => lw_tbl[i]?) := by decide +kernel
  have g : (ctI.map ctIW).all goodWord = true := by decide +kernel
  intro q hq
  have hm : ctIW q ∈ ctI.map ctIW := List.mem_map_of_mem hq
  have hg := List.all_eq_true.mp g _ hm
  rw [h] at hm
  obtain ⟨i, -, hi⟩ := List.mem_filterMap.mp hm
  exact gt_at i hi hg
def ctLW (q : Nat × Nat × Int) : Cond := .constantLong (RR q.1) q.2.1 (Int64.ofInt q.2.2)
theorem ctL_ok : ∀ q ∈ ctL, ctLW q ∈ gt := by
  have h : ctL.map ctLW = [412, 464, 469, 541, 542, 543, 891, 906, 907, 924, 925, 926, 947, 948, 964, 965, 966].filterMap (fun i => lw_tbl[i]?) := by decide +kernel
  have g : (ctL.map ctLW).all goodWord = true := by decide +kernel
  intro q hq
  have hm : ctLW q ∈ ctL.map ctLW := List.mem_map_of_mem hq
  have hg := List.all_eq_true.mp g _ hm
  rw [h] at hm
  obtain ⟨i, -, hi⟩ := List.mem_filterMap.mp hm
  exact gt_at i hi hg
theorem cl_at : ∀ ci, ci < 8 → vwCl[ci]? = some (RR ci, TT ci, NN.getD ci 0) := fun ci h => by
  match ci, h with
  | 0, _ => rfl
  | 1, _ => rfl
  | 2, _ => rfl
  | 3, _ => rfl
  | 4, _ => rfl
  | 5, _ => rfl
  | 6, _ => rfl
  | 7, _ => rfl
  | n + 8, h => omega
theorem cl_in : ∀ ci, ci < 8 → ∀ w ∈ u_ws (RR ci) (TT ci) (NN.getD ci 0), w ∈ gt := fun ci h => by
  match ci, h with
  | 0, _ => exact inX0
  | 1, _ => exact inX1
  | 2, _ => exact inX2
  | 3, _ => exact inX3
  | 4, _ => exact inX4
  | 5, _ => exact inX5
  | 6, _ => exact inX6
  | 7, _ => exact inX7
  | n + 8, h => omega
theorem cl_ty : ∀ ci, ci < 8 → ∀ k, k < NN.getD ci 0 → parseFieldDescriptor (TT ci k).2.2.1 = some (tyT ci k) := fun ci h => by
  match ci, h with
  | 0, _ => exact tyX0_ok
  | 1, _ => exact tyX1_ok
  | 2, _ => exact tyX2_ok
  | 3, _ => exact tyX3_ok
  | 4, _ => exact tyX4_ok
  | 5, _ => exact tyX5_ok
  | 6, _ => exact tyX6_ok
  | 7, _ => exact tyX7_ok
  | n + 8, h => omega
theorem cl_nm : ∀ ci, ci < 8 → ∀ a, a < NN.getD ci 0 → ∀ b, b < NN.getD ci 0 → a ≠ b → (TT ci a).2.1 ≠ (TT ci b).2.1 := fun ci h => by
  match ci, h with
  | 0, _ => exact nmX0
  | 1, _ => exact nmX1
  | 2, _ => exact nmX2
  | 3, _ => exact nmX3
  | 4, _ => exact nmX4
  | 5, _ => exact nmX5
  | 6, _ => exact nmX6
  | 7, _ => exact nmX7
  | n + 8, h => omega
theorem cl_len : ∀ ci, ci < 8 → (fkL.getD ci []).length = NN.getD ci 0 := by decide +kernel
theorem cl_kd : ∀ ci, ci < 8 → ∀ k, k < NN.getD ci 0 → ((fkL.getD ci []).getD k 9 = 0 → tyT ci k = .int) ∧ ((fkL.getD ci []).getD k 9 = 1 → tyT ci k = .long) := by decide +kernel

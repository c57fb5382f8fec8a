/-! the other small methods, and calls of small methods -/
def iLo (k : Int32) : Int32 := if k = 0 then nI 1 else nI 0
def iUp (k : Int32) : Int32 := if k = nI 2 then nI 1 else nI 2
def iLess (a b : Int64) : Int32 := if lg_cmp a (lN 0) = 0 then nI 0 else if lg_cmp b (lN 0) = 0 then nI 1 else if 0 ≤ lg_cmp a b then nI 0 else nI 1
def popR : Nat → Nat → Nat
  | 0, _ => 0
  | k + 1, m => if m = 0 then 0 else m % 2 + popR k (m / 2)
def iBits (a : Int32) : Int32 := nI (popR 32 a.toNatClampNeg)
def iIn (a b c : Int32) : Int32 := if a < b then nI 0 else if c < a then nI 0 else nI 1
def iDrp (n m i : Int32) : Int32 := if i = 0 then m >>> (nI 1 &&& 31) else if i = n then m &&& iLow (n - nI 1) else ((m &&& iLow (i - nI 1)) ||| ((((m >>> ((i - nI 1) &&& 31)) &&& nI 1) ||| ((m >>> (i &&& 31)) &&& nI 1)) <<< ((i - nI 1) &&& 31))) ||| ((m >>> ((i + nI 1) &&& 31)) <<< (i &&& 31))
def iGr (a b : Int32) : Int32 := if a ≤ b then b else a
def iSqS (a b k : Int32) (x : Int32 × Int32) : Int32 × Int32 := if (b >>> (k &&& 31)) &&& nI 1 = nI 1 then (x.1 ||| (((a >>> (k &&& 31)) &&& nI 1) <<< (x.2 &&& 31)), x.2 + nI 1) else x
def iSq (a b : Int32) : Nat → Int32 × Int32
  | 0 => (nI 0, nI 0)
  | n + 1 => iSqS a b (nI n) (iSq a b n)
def iHasC (n a : Int32) : Int32 := if a < 0 then nI 0 else if n ≤ a then nI 0 else nI 1
def iIsM (n m d : Int32) : Int32 := if m < 0 then nI 0 else if iLow n < m then nI 0 else if iBc m = d then nI 1 else nI 0
def iIsM7 (n m d : Int32) : Int32 := if iIn m (nI 0) (iLow n) = 0 then nI 0 else if iBits m = d then nI 1 else nI 0
def iPos (a : Int32) : Int32 := if a ≤ 0 then nI 0 else nI 1
def iNot (a : Int32) : Int32 := if a = 0 then nI 1 else nI 0
def iRes (v m : Int64) : Int64 := if 0 ≤ lg_cmp (v - v / m * m) (lN 0) then v - v / m * m else (v - v / m * m) + m
def iTmS (a b m p : Int64) (k : Int32) : Int64 := ((p <<< (Int32.toInt64 (nI 16) &&& 63)) + (a * ((b >>> (Int32.toInt64 k &&& 63)) &&& lN 65535))) - ((p <<< (Int32.toInt64 (nI 16) &&& 63)) + (a * ((b >>> (Int32.toInt64 k &&& 63)) &&& lN 65535))) / m * m
def iTms (a b m : Int64) : Int64 := iTmS a b m (iTmS a b m (iTmS a b m (lN 0) (nI 32)) (nI 32 + (-16))) (nI 32 + (-16) + (-16))
def iNlz0 (a : Int32) (k : Int32) : Int32 := k - iUs a 1
def iNlz1 (a k : Int32) : Int32 := if a < nI 4 then iNlz0 a k else iNlz0 (iUs a 2) (k + (-2))
def iNlz2 (a k : Int32) : Int32 := if a < nI 16 then iNlz1 a k else iNlz1 (iUs a 4) (k + (-4))
def iNlz3 (a k : Int32) : Int32 := if a < nI 256 then iNlz2 a k else iNlz2 (iUs a 8) (k + (-8))
def iNlz (a : Int32) : Int32 := if 0 < a then (if a < nI 65536 then iNlz3 a (nI 31) else iNlz3 (iUs a 16) (nI 31 + (-16))) else if a = 0 then nI 32 else nI 0
def iHob (a : Int32) : Int32 := a &&& (Int32.toUInt32 (-2147483648) >>> (Int32.toUInt32 (iNlz a) &&& Int32.toUInt32 31)).toInt32
def iBinS (n m : Int32) : Nat → Int32 → Int32 → Int32
  | 0, w, _ => w
  | f + 1, w, k => if m < k then w else iBinS n m f ((w * ((n - k) + nI 1)) / k) (k + nI 1)
def iBin (n m : Int32) : Int32 := iBinS n m 6 (nI 1) (nI 1)
theorem cl_lt (a : Int32) : a.toNatClampNeg < 2 ^ 31 := by
  have h := Int32.toInt_lt a
  show a.toInt.toNat < 2 ^ 31
  omega
theorem nI_cl {a : Int32} (h : ¬ a ≤ 0) : nI a.toNatClampNeg = a ∧ a.toNatClampNeg ≠ 0 := by
  rcases pk_ix a (n := 2 ^ 31 - 1) (by decide) with h1 | h1 | ⟨j, h1, h2⟩
  · exact absurd (Int32.le_of_lt h1) h
  · have h3 := Int32.le_iff_toInt_le.mp h1
    have h4 := Int32.toInt_lt a
    have h5 : (nI (2 ^ 31 - 1)).toInt = (2 ^ 31 - 1 : Nat) := nI_toInt (by decide)
    rw [h5] at h3
    have h6 : a = nI (2 ^ 31 - 1) := by
      apply Int32.toInt_inj.mp
      rw [h5]; omega
    rw [h6, nI_clamp (by decide)]
    exact ⟨rfl, by decide⟩
  · subst h2
    rw [nI_clamp (by omega)]
    refine ⟨rfl, ?_⟩
    rintro rfl
    exact h (by decide)
section PD
variable {l : Launch} {ω : Wd} {μ : Mm}
theorem c_lower (a : Int32) : CtrP l ω M_X3_lower [.int a] μ (iLo a) := Ct_X3_lower ⟨fun h => ⟨by rw [iLo, if_neg h], rfl⟩, fun h => ⟨by rw [iLo, if_pos (dnn h)], rfl⟩⟩
theorem c_upper (a : Int32) : CtrP l ω M_X3_upper [.int a] μ (iUp a) := Ct_X3_upper ⟨fun h => ⟨by rw [iUp, if_neg h], rfl⟩, fun h => ⟨by rw [iUp, if_pos (dnn h)], rfl⟩⟩
theorem c_isLess (a b : Int64) : CtrP l ω M_X5_isLess [.long a, .long b] μ (iLess a b) := Ct_X5_isLess ⟨fun h => ⟨by rw [iLess, if_pos h], rfl⟩, fun h => ⟨fun h2 => ⟨by rw [iLess, if_neg h, if_pos h2], rfl⟩, fun h2 => ⟨fun h3 => ⟨by rw [iLess, if_neg h, if_neg h2, if_pos h3], rfl⟩, fun h3 => ⟨by rw [iLess, if_neg h, if_neg h2, if_neg h3], rfl⟩⟩⟩⟩
theorem c_bits (a : Int32) : CtrP l ω M_X7_bits [.int a] μ (iBits a) := by
  refine Ct_X7_bits ?_
  have key : ∀ (k m acc : Nat), m < 2 ^ k → k < 32 → Good l ω M_X7_bits 4 [.null, .int (nI acc), .int (nI m)] [] μ (fun v μ' => v = some (.int (nI (acc + popR (k + 1) m))) ∧ μ' = μ) := by
    intro k
    induction k with
    | zero =>
      intro m acc hm hk
      obtain rfl : m = 0 := by simpa using hm
      refine Tr_X7_bits_4 ⟨fun _ => ⟨by simp [popR], rfl⟩, fun h => absurd (by decide) h⟩
    | succ k ih =>
      intro m acc hm hk
      have h31 : m < 2 ^ 31 := Nat.lt_of_lt_of_le hm (Nat.pow_le_pow_right (by decide) (by omega))
      refine Tr_X7_bits_4 ⟨fun h => ?_, fun h => ?_⟩
      · have : m = 0 := by
          rcases Nat.eq_zero_or_pos m with q | q
          · exact q
          · exact absurd h (nI_nle q h31)
        subst this
        exact ⟨by simp [popR], rfl⟩
      · have hm0 : m ≠ 0 := by rintro rfl; exact h (by decide)
        have e1 : nI m &&& nI 1 = nI (m % 2) := by rw [pk_andN (by omega) 1 (by decide)]
        have e2 : nI m >>> (nI 1 &&& 31) = nI (m / 2) := by rw [pk_shrN h31 _ 1 (by decide)]
        rw [e1, e2, nI_add]
        have := ih (m / 2) (acc + m % 2) (by rw [Nat.pow_succ] at hm; omega) (by omega)
        rw [show popR (k + 1 + 1) m = m % 2 + popR (k + 1) (m / 2) by rw [popR, if_neg hm0], ← Nat.add_assoc]
        exact this
  by_cases ha : a ≤ 0
  · refine Tr_X7_bits_4 ⟨fun _ => ⟨?_, rfl⟩, fun h => absurd ha h⟩
    have : a.toNatClampNeg = 0 := by
      have h := Int32.le_iff_toInt_le.mp ha
      have h0 : (0 : Int32).toInt = 0 := by decide
      rw [h0] at h
      show a.toInt.toNat = 0
      omega
    rw [iBits, this]; rfl
  · have h1 := nI_cl ha
    have := key 31 a.toNatClampNeg 0 (cl_lt a) (by decide)
    rw [h1.1, Nat.zero_add] at this
    exact this
theorem c_in (a b c : Int32) : CtrP l ω M_X7_in [.int a, .int b, .int c] μ (iIn a b c) := Ct_X7_in ⟨fun h => ⟨by rw [iIn, if_pos h], rfl⟩, fun h => ⟨fun h2 => ⟨by rw [iIn, if_neg h, if_pos h2], rfl⟩, fun h2 => ⟨by rw [iIn, if_neg h, if_neg h2], rfl⟩⟩⟩
theorem c_numberAt7 (a b : Int32) : CtrP l ω M_X7_numberAt [.int a, .int b] μ (iBits (a &&& iLow b)) := Ct_X7_numberAt (ex_p (c_full _) (Tr_X7_numberAt_5 (ex_p (c_bits _) (Tr_X7_numberAt_9 ⟨rfl, rfl⟩))))
theorem c_dropped (n m i : Int32) : CtrP l ω M_X7_dropped [.int n, .int m, .int i] μ (iDrp n m i) := Ct_X7_dropped ⟨fun h => ⟨fun h2 => ex_p (c_full _) (Tr_X7_dropped_43 ⟨by rw [iDrp, if_neg h, if_neg h2], rfl⟩), fun h2 => ex_p (c_full _) (Tr_X7_dropped_20 ⟨by rw [iDrp, if_neg h, if_pos (dnn h2)], rfl⟩)⟩, fun h => ⟨by rw [iDrp, if_pos (dnn h)], rfl⟩⟩
theorem c_greater (a b : Int32) : CtrP l ω M_X7_greater [.int a, .int b] μ (iGr a b) := Ct_X7_greater ⟨fun h => ⟨by rw [iGr, if_pos h], rfl⟩, fun h => ⟨by rw [iGr, if_neg h], rfl⟩⟩
theorem c_squeezed (a b : Int32) : CtrP l ω M_X7_squeezed [.int a, .int b] μ (iSq a b 6).1 := by
  refine Ct_X7_squeezed ?_
  refine upto0 (G := fun i => Good l ω M_X7_squeezed 7 [.int a, .int b, .int (iSq a b i).1, .int (iSq a b i).2, .int (nI i)] [] μ (fun v μ' => v = some (.int (iSq a b 6).1) ∧ μ' = μ)) 6 ?_ ?_ 0 (by omega)
  · exact Tr_X7_squeezed_7 ⟨fun _ => ⟨rfl, rfl⟩, fun h => absurd (show nI 6 ≤ nI 6 by decide) h⟩
  · intro i hi k
    rw [← nI_1] at k
    refine Tr_X7_squeezed_7 ⟨fun h => absurd h (nI_ge hi (by omega)), fun _ => ⟨fun h => ?_, fun h => ?_⟩⟩
    · rw [show iSq a b (i + 1) = iSq a b i by simp only [iSq, iSqS, h, if_false]] at k; exact k
    · rw [show iSq a b (i + 1) = ((iSq a b i).1 ||| (((a >>> (nI i &&& 31)) &&& nI 1) <<< ((iSq a b i).2 &&& 31)), (iSq a b i).2 + nI 1) by simp only [iSq, iSqS, dnn h, if_true]] at k; exact k
theorem c_has {t : Nat} {a : Int32} (h0 : oCl t 0 = true) : CtrP l ω M_X0_has [.ref t, .int a] μ (iHasC (ss_i μ t 2) a) := Ct_X0_has ⟨fun h => ⟨by rw [iHasC, if_pos h], rfl⟩, fun h => ⟨h0, fun h2 => ⟨by rw [iHasC, if_neg h, if_pos h2], rfl⟩, fun h2 => ⟨by rw [iHasC, if_neg h, if_neg h2], rfl⟩⟩⟩
theorem c_isMask {t : Nat} {c n m : Int32} (h0 : oCl t 0 = true) (h1 : inb (ss_r μ t 0) 1 c = true) : CtrP l ω M_X0_isMask [.ref t, .int c, .int n, .int m] μ (iIsM n m (ss_i μ (ss_r μ t 0) (Int32.toNatClampNeg c))) := Ct_X0_isMask ⟨fun h => ⟨by rw [iIsM, if_pos h], rfl⟩, fun h => ex_p (c_lowBits _) (Tr_X0_isMask_9 ⟨fun h2 => ⟨by rw [iIsM, if_neg h, if_pos h2], rfl⟩, fun h2 => ex_p (c_bitCount _) (Tr_X0_isMask_16 ⟨h0, h1, fun h3 => ⟨by rw [iIsM, if_neg h, if_neg h2, if_neg h3], rfl⟩, fun h3 => ⟨by rw [iIsM, if_neg h, if_neg h2, if_pos (dnn h3)], rfl⟩⟩)⟩)⟩
/-- face k of cell c lies in the rows of the cells at place t, and c is a stored cell -/
def fAt (μ : Mm) (t : Nat) (c k : Int32) : Bool := inb (ss_r μ t 1) 1 (c * (nI 5) + k) && (decide (¬ iHasC (ss_i μ t 2) c = 0) && (decide (¬ k < 0) && decide (¬ nI 5 ≤ k)))
theorem fAt_i {t : Nat} {c k : Int32} (h1 : inb (ss_r μ t 1) 1 (c * (nI 5) + k) = true) (h2 : ¬ iHasC (ss_i μ t 2) c = 0) (h3 : ¬ k < 0) (h4 : ¬ nI 5 ≤ k) : fAt μ t c k = true := by
  simp only [fAt, Bool.and_eq_true, decide_eq_true_eq]
  exact ⟨h1, h2, h3, h4⟩
theorem c_faceAt {t : Nat} {c k : Int32} (h0 : oCl t 0 = true) (h1 : fAt μ t c k = true) : CtrP l ω M_X0_faceAt [.ref t, .int c, .int k] μ (ss_i μ (ss_r μ t 1) (Int32.toNatClampNeg (c * (nI 5) + k))) := by
  simp only [fAt, Bool.and_eq_true, decide_eq_true_eq] at h1
  exact Ct_X0_faceAt ⟨h0, ex_p (c_has h0) (Tr_X0_faceAt_5 ⟨fun g => absurd g h1.2.1, fun _ => ⟨fun g => absurd g h1.2.2.1, fun _ => ⟨fun g => absurd g h1.2.2.2, fun _ => ⟨h0, h1.1, rfl, rfl⟩⟩⟩⟩)⟩
theorem c_exists : CtrP l ω M_X1_exists [.ref 10] μ (iPos (ss_i μ 10 1)) := Ct_X1_exists ⟨fun h => ⟨by rw [iPos, if_pos h], rfl⟩, fun h => ⟨by rw [iPos, if_neg h], rfl⟩⟩
theorem c_noCell {a : Int32} : CtrP l ω M_X7_noCell [.ref 29, .int a] μ (iNot (iIn a (nI 0) ((ss_i μ 29 0) - (nI 1)))) := Ct_X7_noCell (ex_p (c_in _ _ _) (Tr_X7_noCell_11 ⟨fun h => ⟨by rw [iNot, if_neg h], rfl⟩, fun h => ⟨by rw [iNot, if_pos (dnn h)], rfl⟩⟩))
theorem c_isMask7 {c n m : Int32} (h1 : inb 30 1 c = true) : CtrP l ω M_X7_isMask [.ref 29, .int c, .int n, .int m] μ (iIsM7 n m (ss_i μ 30 (Int32.toNatClampNeg c))) := Ct_X7_isMask (ex_p (c_full _) (Tr_X7_isMask_6 (ex_p (c_in _ _ _) (Tr_X7_isMask_9 ⟨fun h => ⟨by rw [iIsM7, if_pos h], rfl⟩, fun h => ex_p (c_bits _) (Tr_X7_isMask_16 ⟨h1, fun h2 => ⟨by rw [iIsM7, if_neg h, if_neg h2], rfl⟩, fun h2 => ⟨by rw [iIsM7, if_neg h, if_pos (dnn h2)], rfl⟩⟩)⟩))))
theorem c_at {a b : Int32} (h : inb 24 2 ((a * (ss_i μ 22 3)) + b) = true) : CtrL l ω M_X5_at [.ref 22, .int a, .int b] μ (ss_l μ 24 (Int32.toNatClampNeg ((a * (ss_i μ 22 3)) + b))) := Ct_X5_at ⟨h, rfl, rfl⟩
theorem c_residue {a : Int64} (h : decide (¬ ss_l μ 22 4 = 0) = true) : CtrL l ω M_X5_residue [.ref 22, .long a] μ (iRes a (ss_l μ 22 4)) := Ct_X5_residue ⟨h, fun h2 => ⟨by rw [iRes, if_pos h2], rfl⟩, fun h2 => ⟨by rw [iRes, if_neg h2], rfl⟩⟩
theorem c_rest {a m : Int64} (h : decide (¬ m = 0) = true) : CtrL l ω M_X7_rest [.long a, .long m] μ (iRes a m) := Ct_X7_rest ⟨h, fun h2 => ⟨by rw [iRes, if_pos h2], rfl⟩, fun h2 => ⟨by rw [iRes, if_neg h2], rfl⟩⟩
theorem c_times {a b : Int64} (h : decide (¬ ss_l μ 22 4 = 0) = true) : CtrL l ω M_X5_times [.ref 22, .long a, .long b] μ (iTms a b (ss_l μ 22 4)) := Ct_X5_times (Tr_X5_times_7 ⟨fun h2 => absurd h2 (by decide), fun _ => ⟨h, Tr_X5_times_7 ⟨fun h2 => absurd h2 (by decide), fun _ => ⟨h, Tr_X5_times_7 ⟨fun h2 => absurd h2 (by decide), fun _ => ⟨h, Tr_X5_times_7 ⟨fun _ => ⟨rfl, rfl⟩, fun h2 => absurd (by decide) h2⟩⟩⟩⟩⟩⟩⟩)
theorem c_nlz (a : Int32) : CtrP l ω M_J6_numberOfLeadingZeros_0f7a4 [.int a] μ (iNlz a) := by
  have k0 : ∀ a k, Good l ω M_J6_numberOfLeadingZeros_0f7a4 73 [.int a, .int k] [] μ (fun v μ' => v = some (.int (iNlz0 a k)) ∧ μ' = μ) := fun a k => Tr_J6_numberOfLeadingZeros_0f7a4_73 ⟨rfl, rfl⟩
  have k1 : ∀ a k, Good l ω M_J6_numberOfLeadingZeros_0f7a4 61 [.int a, .int k] [] μ (fun v μ' => v = some (.int (iNlz1 a k)) ∧ μ' = μ) := fun a k => Tr_J6_numberOfLeadingZeros_0f7a4_61 ⟨fun h => by rw [iNlz1, if_pos h]; exact k0 _ _, fun h => by rw [iNlz1, if_neg h]; exact k0 _ _⟩
  have k2 : ∀ a k, Good l ω M_J6_numberOfLeadingZeros_0f7a4 48 [.int a, .int k] [] μ (fun v μ' => v = some (.int (iNlz2 a k)) ∧ μ' = μ) := fun a k => Tr_J6_numberOfLeadingZeros_0f7a4_48 ⟨fun h => by rw [iNlz2, if_pos h]; exact k1 _ _, fun h => by rw [iNlz2, if_neg h]; exact k1 _ _⟩
  have k3 : ∀ a k, Good l ω M_J6_numberOfLeadingZeros_0f7a4 33 [.int a, .int k] [] μ (fun v μ' => v = some (.int (iNlz3 a k)) ∧ μ' = μ) := fun a k => Tr_J6_numberOfLeadingZeros_0f7a4_33 ⟨fun h => by rw [iNlz3, if_pos h]; exact k2 _ _, fun h => by rw [iNlz3, if_neg h]; exact k2 _ _⟩
  refine Ct_J6_numberOfLeadingZeros_0f7a4 ⟨fun h => ⟨fun h2 => ?_, fun h2 => ?_⟩, fun h => ⟨fun h2 => ⟨?_, rfl⟩, fun h2 => ⟨?_, rfl⟩⟩⟩
  · rw [iNlz, if_pos h, if_pos h2]; exact k3 _ _
  · rw [iNlz, if_pos h, if_neg h2]; exact k3 _ _
  · rw [iNlz, if_neg h, if_neg h2]
  · rw [iNlz, if_neg h, if_pos (dnn h2)]
theorem c_highestOneBit (a : Int32) : CtrP l ω M_J6_highestOneBit_0f7a4 [.int a] μ (iHob a) := Ct_J6_highestOneBit_0f7a4 (ex_p (c_nlz _) (Tr_J6_highestOneBit_0f7a4_7 ⟨rfl, rfl⟩))
end PD
section GDP
variable {l : Launch} {ω : Wd} {M : MD} {pc : Nat} {L st : List Value} {μ : Mm} {Q : Option Value → Mm → Prop}
theorem gd_pSI {M' : MD} {idx n : Nat} {r : Int32} (as : List Value) (hs : StS M.2.2.2.2.1 idx M' n) (hd : decode M.2.1 pc = .ok (.invokestatic idx, 3)) (hn : as.length = n) (hR : rmOk (rmM M) M' st = true) {st0 : List Value} (h0 : st0 = as.reverse ++ st) (K : CtrP l ω M' as μ r) (k : Good l ω M (pc + 3) L (.int r :: st) μ Q) : Good l ω M pc L st0 μ Q := gd_callS as hs hd hn hR h0 K (fun v μ' h => by obtain ⟨rfl, rfl⟩ := h; exact k)
theorem gd_pSJ {M' : MD} {idx n : Nat} {r : Int64} (as : List Value) (hs : StS M.2.2.2.2.1 idx M' n) (hd : decode M.2.1 pc = .ok (.invokestatic idx, 3)) (hn : as.length = n) (hR : rmOk (rmM M) M' st = true) {st0 : List Value} (h0 : st0 = as.reverse ++ st) (K : CtrL l ω M' as μ r) (k : Good l ω M (pc + 3) L (.long r :: st) μ Q) : Good l ω M pc L st0 μ Q := gd_callS as hs hd hn hR h0 K (fun v μ' h => by obtain ⟨rfl, rfl⟩ := h; exact k)
theorem gd_pNI {M' : MD} {idx n : Nat} {r : Int32} (as : List Value) (hs : StN M.2.2.2.2.1 idx M' n) (hd : decode M.2.1 pc = .ok (.invokestatic idx, 3)) (hn : as.length = n) (hR : rmOk (rmM M) M' st = true) {st0 : List Value} (h0 : st0 = as.reverse ++ st) (K : CtrP l ω M' as μ r) (k : Good l ω M (pc + 3) L (.int r :: st) μ Q) : Good l ω M pc L st0 μ Q := gd_callN as hs hd hn hR h0 K (fun v μ' h => by obtain ⟨rfl, rfl⟩ := h; exact k)
theorem gd_pVI {M' : MD} {idx n q : Nat} {r : Int32} (as : List Value) (hs : StV M.2.2.2.2.1 idx M' n) (hd : decode M.2.1 pc = .ok (.invokevirtual idx, 3)) (hn : as.length = n) (hR : rmOk (rmM M) M' st = true) {st0 : List Value} (h0 : st0 = as.reverse ++ .ref q :: st) (ho : oCl q M'.2.2.2.2.1 = true) (K : CtrP l ω M' (.ref q :: as) μ r) (k : Good l ω M (pc + 3) L (.int r :: st) μ Q) : Good l ω M pc L st0 μ Q := gd_callV as hs hd hn hR h0 ho K (fun v μ' h => by obtain ⟨rfl, rfl⟩ := h; exact k)
theorem gd_pVJ {M' : MD} {idx n q : Nat} {r : Int64} (as : List Value) (hs : StV M.2.2.2.2.1 idx M' n) (hd : decode M.2.1 pc = .ok (.invokevirtual idx, 3)) (hn : as.length = n) (hR : rmOk (rmM M) M' st = true) {st0 : List Value} (h0 : st0 = as.reverse ++ .ref q :: st) (ho : oCl q M'.2.2.2.2.1 = true) (K : CtrL l ω M' (.ref q :: as) μ r) (k : Good l ω M (pc + 3) L (.long r :: st) μ Q) : Good l ω M pc L st0 μ Q := gd_callV as hs hd hn hR h0 ho K (fun v μ' h => by obtain ⟨rfl, rfl⟩ := h; exact k)
end GDP

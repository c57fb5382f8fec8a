/-! pure contracts; loops upwards; numbers -/
section PB
variable {l : Launch} {ω : Wd} {M : MD} {as : List Value} {μ : Mm}
abbrev CtrP (l : Launch) (ω : Wd) (M : MD) (as : List Value) (μ : Mm) (r : Int32) : Prop := Ctr l ω M as μ (fun v μ' => v = some (.int r) ∧ μ' = μ)
abbrev CtrL (l : Launch) (ω : Wd) (M : MD) (as : List Value) (μ : Mm) (r : Int64) : Prop := Ctr l ω M as μ (fun v μ' => v = some (.long r) ∧ μ' = μ)
theorem ex_p {r : Int32} {G : Option Value → Mm → Prop} (c : CtrP l ω M as μ r) (k : G (some (.int r)) μ) : ∃ Q1, Ctr l ω M as μ Q1 ∧ ∀ v μ1, Q1 v μ1 → G v μ1 := ⟨_, c, fun v μ1 h => by obtain ⟨rfl, rfl⟩ := h; exact k⟩
theorem ex_l {r : Int64} {G : Option Value → Mm → Prop} (c : CtrL l ω M as μ r) (k : G (some (.long r)) μ) : ∃ Q1, Ctr l ω M as μ Q1 ∧ ∀ v μ1, Q1 v μ1 → G v μ1 := ⟨_, c, fun v μ1 h => by obtain ⟨rfl, rfl⟩ := h; exact k⟩
theorem ex_q {Q1 : Option Value → Mm → Prop} {G : Option Value → Mm → Prop} (c : Ctr l ω M as μ Q1) (k : ∀ v μ1, Q1 v μ1 → G v μ1) : ∃ Q1, Ctr l ω M as μ Q1 ∧ ∀ v μ1, Q1 v μ1 → G v μ1 := ⟨_, c, k⟩
end PB
theorem upto0 {G : Nat → Prop} (e : Nat) (hd : G e) (hs : ∀ i, i < e → G (i + 1) → G i) : ∀ i, i ≤ e → G i := by
  intro i hi
  obtain ⟨d, rfl⟩ : ∃ d, e = i + d := ⟨e - i, by omega⟩
  clear hi
  induction d generalizing i with
  | zero => exact hd
  | succ d ih => exact hs i (by omega) (ih (i + 1) (by rw [show i + 1 + d = i + (d + 1) by omega]; exact hd) (fun j hj => hs j (by omega)))
theorem upto1 {σ : Type} {G I : Nat → σ → Prop} (e : Nat) (hd : ∀ s, I e s → G e s) (hs : ∀ i s, i < e → I i s → (∀ s', I (i + 1) s' → G (i + 1) s') → G i s) : ∀ i, i ≤ e → ∀ s, I i s → G i s := by
  refine upto0 (G := fun i => ∀ s, I i s → G i s) e hd (fun i hi k s h => hs i s hi h k)
theorem dnn {p : Prop} (h : ¬ ¬ p) : p := Classical.byContradiction h
theorem nI_sub1 {n : Nat} (h : 0 < n) : nI n - nI 1 = nI (n - 1) := pk_sub h
theorem inb_n {p t n j : Nat} (hs : shA p = (t, n)) (hj : j < n) (hn : n < 2 ^ 31) : inb p t (nI j) = true := by
  unfold inb
  rw [hs]
  refine fa (decide_eq_true rfl) (decide_eq_true ?_)
  exact nI_in hj hn
theorem cl_n {n : Nat} (h : n < 2 ^ 31) : Int32.toNatClampNeg (nI n) = n := nI_clamp h
theorem oCl_n {p c : Nat} (h : shA p = (0, c)) : oCl p c = true := decide_eq_true h
/-! reads over writes -/
theorem ri_wi (μ : Mm) (p k : Nat) (v : Int32) (q j : Nat) : ss_i (ss_wi μ p k v) q j = if q = p ∧ j = k then v else ss_i μ q j := rfl
theorem ri_wl (μ : Mm) (p k : Nat) (v : Int64) (q j : Nat) : ss_i (ss_wl μ p k v) q j = ss_i μ q j := rfl
theorem ri_wr (μ : Mm) (k v : Nat) (q j : Nat) : ss_i (ss_wr μ k v) q j = ss_i μ q j := rfl
theorem rl_wi (μ : Mm) (p k : Nat) (v : Int32) (q j : Nat) : ss_l (ss_wi μ p k v) q j = ss_l μ q j := rfl
theorem rl_wl (μ : Mm) (p k : Nat) (v : Int64) (q j : Nat) : ss_l (ss_wl μ p k v) q j = if q = p ∧ j = k then v else ss_l μ q j := rfl
theorem rl_wr (μ : Mm) (k v : Nat) (q j : Nat) : ss_l (ss_wr μ k v) q j = ss_l μ q j := rfl
theorem rr_wi (μ : Mm) (p k : Nat) (v : Int32) (q j : Nat) : ss_r (ss_wi μ p k v) q j = ss_r μ q j := rfl
theorem rr_wl (μ : Mm) (p k : Nat) (v : Int64) (q j : Nat) : ss_r (ss_wl μ p k v) q j = ss_r μ q j := rfl
theorem ri_cp (μ : Mm) (q sp p dp n a b : Nat) : ss_i (ss_cp μ q sp p dp n) a b = if a = p ∧ dp ≤ b ∧ b < dp + n then ss_i μ q (sp + (b - dp)) else ss_i μ a b := rfl
theorem rl_cp (μ : Mm) (q sp p dp n a b : Nat) : ss_l (ss_cp μ q sp p dp n) a b = ss_l μ a b := rfl
theorem rr_cp (μ : Mm) (q sp p dp n a b : Nat) : ss_r (ss_cp μ q sp p dp n) a b = ss_r μ a b := rfl
/-! small functions, as the machine counts them -/
def iLow (a : Int32) : Int32 := (nI 1 <<< (a &&& 31)) - nI 1
def iUs (a : Int32) (k : Nat) : Int32 := (Int32.toUInt32 a >>> (Int32.toUInt32 (nI k) &&& Int32.toUInt32 31)).toInt32
def iB1 (a : Int32) : Int32 := a - (iUs a 1 &&& nI 1431655765)
def iB2 (a : Int32) : Int32 := (a &&& nI 858993459) + (iUs a 2 &&& nI 858993459)
def iB3 (a : Int32) : Int32 := (a + iUs a 4) &&& nI 252645135
def iBc (a : Int32) : Int32 := let b := iB3 (iB2 (iB1 a)); let c := b + iUs b 8; let d := c + iUs c 16; d &&& nI 63
def iHas (a b : Int32) : Int32 := if (a >>> (b &&& 31)) &&& nI 1 = nI 1 then nI 1 else nI 0
def iNum (a b : Int32) : Int32 := iBc (a &&& iLow b)
def iWo (a b : Int32) : Int32 := (a &&& iLow b) ||| ((a >>> ((b + nI 1) &&& 31)) <<< (b &&& 31))
def iWc (a b : Int32) : Int32 := (a &&& iLow b) ||| ((a >>> (b &&& 31)) <<< ((b + nI 1) &&& 31))
def iPack (a b : Int32) : Int32 := (a <<< (nI 6 &&& 31)) ||| b
def iCell (a : Int32) : Int32 := a >>> (nI 6 &&& 31)
def iMask (a : Int32) : Int32 := a &&& iLow (nI 6)
def iGaS (a b acc k : Int32) : Int32 := if iHas b k = 0 then acc else if iHas a k = 0 then acc else acc ||| (nI 1 <<< (iNum b k &&& 31))
def iGa (a b : Int32) : Nat → Int32
  | 0 => nI 0
  | n + 1 => iGaS a b (iGa a b n) (nI n)
def iSpS (a b acc k : Int32) : Int32 := if iHas b k = 0 then acc else if iHas a (iNum b k) = 0 then acc else acc ||| (nI 1 <<< (k &&& 31))
def iSp (a b : Int32) : Nat → Int32
  | 0 => nI 0
  | n + 1 => iSpS a b (iSp a b n) (nI n)
def iSign (a : Int32) : Int32 := if a - a / nI 2 * nI 2 = 0 then nI 1 else -1
section PC
variable {l : Launch} {ω : Wd} {μ : Mm}
theorem c_lowBits (a : Int32) : CtrP l ω M_X6_lowBits [.int a] μ (iLow a) := Ct_X6_lowBits ⟨rfl, rfl⟩
theorem c_full (a : Int32) : CtrP l ω M_X7_full [.int a] μ (iLow a) := Ct_X7_full ⟨rfl, rfl⟩
theorem c_pack (a b : Int32) : CtrP l ω M_X6_pack [.int a, .int b] μ (iPack a b) := Ct_X6_pack ⟨rfl, rfl⟩
theorem c_cellOf (a : Int32) : CtrP l ω M_X6_cellOf [.int a] μ (iCell a) := Ct_X6_cellOf ⟨rfl, rfl⟩
theorem c_maskOf (a : Int32) : CtrP l ω M_X6_maskOf [.int a] μ (iMask a) := Ct_X6_maskOf (ex_p (c_lowBits _) (Tr_X6_maskOf_6 ⟨rfl, rfl⟩))
theorem c_bitCount (a : Int32) : CtrP l ω M_J6_bitCount_0f7a4 [.int a] μ (iBc a) := Ct_J6_bitCount_0f7a4 (Tr_J6_bitCount_0f7a4_10 (Tr_J6_bitCount_0f7a4_24 (Tr_J6_bitCount_0f7a4_34 (Tr_J6_bitCount_0f7a4_41 (Tr_J6_bitCount_0f7a4_48 ⟨rfl, rfl⟩)))))
theorem c_numberAt (a b : Int32) : CtrP l ω M_X6_numberAt [.int a, .int b] μ (iNum a b) := Ct_X6_numberAt (ex_p (c_lowBits _) (Tr_X6_numberAt_5 (ex_p (c_bitCount _) (Tr_X6_numberAt_9 ⟨rfl, rfl⟩))))
theorem c_hasBit (a b : Int32) : CtrP l ω M_X6_hasBit [.int a, .int b] μ (iHas a b) := Ct_X6_hasBit ⟨fun h => ⟨by rw [iHas, if_neg h], rfl⟩, fun h => ⟨by rw [iHas, if_pos (dnn h)], rfl⟩⟩
theorem c_withoutBit (a b : Int32) : CtrP l ω M_X6_withoutBit [.int a, .int b] μ (iWo a b) := Ct_X6_withoutBit (ex_p (c_lowBits _) (Tr_X6_withoutBit_5 ⟨rfl, rfl⟩))
theorem c_withClearBit (a b : Int32) : CtrP l ω M_X6_withClearBit [.int a, .int b] μ (iWc a b) := Ct_X6_withClearBit (ex_p (c_lowBits _) (Tr_X6_withClearBit_5 ⟨rfl, rfl⟩))
theorem c_sign (a : Int32) : CtrP l ω M_X6_sign [.int a] μ (iSign a) := Ct_X6_sign ⟨fun h => ⟨by rw [iSign, if_neg h], rfl⟩, fun h => ⟨by rw [iSign, if_pos (dnn h)], rfl⟩⟩
theorem c_gatherBits (a b : Int32) : CtrP l ω M_X6_gatherBits [.int a, .int b] μ (iGa a b 6) := by
  refine Ct_X6_gatherBits ?_
  refine upto0 (G := fun i => Good l ω M_X6_gatherBits 4 [.int a, .int b, .int (iGa a b i), .int (nI i)] [] μ (fun v μ' => v = some (.int (iGa a b 6)) ∧ μ' = μ)) 6 ?_ ?_ 0 (by omega)
  · exact Tr_X6_gatherBits_4 ⟨fun _ => ⟨rfl, rfl⟩, fun h => absurd (show nI 6 ≤ nI 6 by decide) h⟩
  · intro i hi k
    rw [← nI_1] at k
    refine Tr_X6_gatherBits_4 ⟨fun h => absurd h (nI_ge hi (by omega)), fun _ => ex_p (c_hasBit _ _) (Tr_X6_gatherBits_15 ⟨fun h => ?_, fun h => ex_p (c_hasBit _ _) (Tr_X6_gatherBits_23 ⟨fun h2 => ?_, fun h2 => ex_p (c_numberAt _ _) (Tr_X6_gatherBits_33 ?_)⟩)⟩)⟩
    · rw [show iGa a b (i + 1) = iGa a b i by simp only [iGa, iGaS, h, if_true]] at k; exact k
    · rw [show iGa a b (i + 1) = iGa a b i by simp only [iGa, iGaS, h, h2, if_true, if_false]] at k; exact k
    · rw [show iGa a b (i + 1) = iGa a b i ||| (nI 1 <<< (iNum b (nI i) &&& 31)) by simp only [iGa, iGaS, h, h2, if_false]] at k; exact k
theorem c_spreadBits (a b : Int32) : CtrP l ω M_X6_spreadBits [.int a, .int b] μ (iSp a b 6) := by
  refine Ct_X6_spreadBits ?_
  refine upto0 (G := fun i => Good l ω M_X6_spreadBits 4 [.int a, .int b, .int (iSp a b i), .int (nI i)] [] μ (fun v μ' => v = some (.int (iSp a b 6)) ∧ μ' = μ)) 6 ?_ ?_ 0 (by omega)
  · exact Tr_X6_spreadBits_4 ⟨fun _ => ⟨rfl, rfl⟩, fun h => absurd (show nI 6 ≤ nI 6 by decide) h⟩
  · intro i hi k
    rw [← nI_1] at k
    refine Tr_X6_spreadBits_4 ⟨fun h => absurd h (nI_ge hi (by omega)), fun _ => ex_p (c_hasBit _ _) (Tr_X6_spreadBits_15 ⟨fun h => ?_, fun h => ex_p (c_numberAt _ _) (Tr_X6_spreadBits_24 (ex_p (c_hasBit _ _) (Tr_X6_spreadBits_27 ⟨fun h2 => ?_, fun h2 => ?_⟩)))⟩)⟩
    · rw [show iSp a b (i + 1) = iSp a b i by simp only [iSp, iSpS, h, if_true]] at k; exact k
    · rw [show iSp a b (i + 1) = iSp a b i by simp only [iSp, iSpS, h, h2, if_true, if_false]] at k; exact k
    · rw [show iSp a b (i + 1) = iSp a b i ||| (nI 1 <<< (nI i &&& 31)) by simp only [iSp, iSpS, h, h2, if_false]] at k; exact k
end PC

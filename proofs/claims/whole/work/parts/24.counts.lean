/-! counts -/
def cntN (S : SS) (d : Nat) : Nat → Nat
  | 0 => 0
  | c + 1 => cntN S d c + if sd S c = d then 1 else 0
theorem cnt_le (S : SS) (d : Nat) : ∀ c, cntN S d c ≤ c
  | 0 => Nat.le_refl 0
  | c + 1 => by
    have := cnt_le S d c
    unfold cntN
    split <;> omega
theorem RM_d {g b : Nat} {S : SS} {μ : Mm} (h : RM g b S μ) {c : Nat} (hc : c < sn S) : ss_i μ 30 (b + c) = nI (sd S c) := (h.2 c hc).1
theorem RM_d0 {g : Nat} {S : SS} {μ : Mm} (h : RM g 0 S μ) {c : Nat} (hc : c < sn S) : ss_i μ 30 c = nI (sd S c) := by
  have := (h.2 c hc).1
  rwa [Nat.zero_add] at this
theorem RM_f0 {g : Nat} {S : SS} {μ : Mm} (h : RM g 0 S μ) {c k : Nat} (hc : c < sn S) (h1 : 1 ≤ sd S c) (hk : k ≤ sd S c) : ss_i μ 31 (5 * c + k) = nI (sf S c k) := by
  have := ((h.2 c hc).2 h1 k hk).1
  rwa [Nat.zero_add] at this
section CQ
variable {l : Launch} {ω : Wd} {μ : Mm} {S T : SS} {D : DD}
theorem c_countOf {t d : Nat} (ht : cel t) (hV : VS S) (hR : RC t S μ) (hd : d < 7) : CtrP l ω M_X0_countOf [.ref t, .int (nI d)] μ (nI (cntN S d (sn S))) := by
  have h48 := hV.1
  refine Ct_X0_countOf ?_
  refine upto0 (G := fun c => Good l ω M_X0_countOf 4 [.ref t, .int (nI d), .int (nI (cntN S d c)), .int (nI c)] [] μ (fun v μ' => v = some (.int (nI (cntN S d (sn S)))) ∧ μ' = μ)) (sn S) ?_ ?_ 0 (by omega)
  · refine Tr_X0_countOf_4 ⟨cel_o ht, ?_⟩
    rw [hR.1]
    exact ⟨fun _ => ⟨rfl, rfl⟩, fun g => absurd (nI_le (Nat.le_refl _) (by omega)) g⟩
  · intro c hc k
    rw [← nI_1] at k
    refine Tr_X0_countOf_4 ⟨cel_o ht, ?_⟩
    rw [hR.1, cel_r0 ht, cl_n (by omega), (hR.2 c hc).1]
    have hsd := (hV.2 c hc).1
    refine ⟨fun g => absurd g (nI_ge hc (by omega)), fun _ => ⟨cel_o ht, inb_n (cel_1 ht) (by omega) (by decide), fun g => ?_, fun g => ?_⟩⟩
    · rw [nI_eq (by omega) (by omega)] at g
      rw [show cntN S d (c + 1) = cntN S d c by rw [cntN, if_neg g]; rfl] at k
      exact k
    · have g := dnn g
      rw [nI_eq (by omega) (by omega)] at g
      rw [show cntN S d (c + 1) = cntN S d c + 1 by rw [cntN, if_pos g], ← nI_1] at k
      exact k
theorem c_countOf7 {d : Nat} (hV : VS S) (hR : RM 0 0 S μ) (hd : d < 7) : CtrP l ω M_X7_countOf [.ref 29, .int (nI d)] μ (nI (cntN S d (sn S))) := by
  have h48 := hV.1
  refine Ct_X7_countOf ?_
  refine upto0 (G := fun c => Good l ω M_X7_countOf 4 [.ref 29, .int (nI d), .int (nI (cntN S d c)), .int (nI c)] [] μ (fun v μ' => v = some (.int (nI (cntN S d (sn S)))) ∧ μ' = μ)) (sn S) ?_ ?_ 0 (by omega)
  · refine Tr_X7_countOf_4 ?_
    rw [hR.1]
    exact ⟨fun _ => ⟨rfl, rfl⟩, fun g => absurd (nI_le (Nat.le_refl _) (by omega)) g⟩
  · intro c hc k
    rw [← nI_1] at k
    refine Tr_X7_countOf_4 ?_
    rw [hR.1, cl_n (by omega), RM_d0 hR hc]
    have hsd := (hV.2 c hc).1
    refine ⟨fun g => absurd g (nI_ge hc (by omega)), fun _ => ⟨inb_n (n := 96) rfl (by omega) (by decide), fun g => ?_, fun g => ?_⟩⟩
    · rw [nI_eq (by omega) (by omega)] at g
      rw [show cntN S d (c + 1) = cntN S d c by rw [cntN, if_neg g]; rfl] at k
      rw [nI_add]
      exact k
    · have g := dnn g
      rw [nI_eq (by omega) (by omega)] at g
      rw [show cntN S d (c + 1) = cntN S d c + 1 by rw [cntN, if_pos g], ← nI_1] at k
      exact k
def A_cnt (S : SS) (a : Int32) : Int32 := if a < 0 then -102 else if a ≤ nI 4 then nI (cntN S a.toNatClampNeg (sn S)) else -102
theorem x_cellCount (hV : VS S) (hI : IC S T D μ) (a : Int32) : CtrP l ω M_X6_cellCount [.ref 0, .int a] μ (A_cnt S a) := by
  obtain ⟨p, hp, hr, hR⟩ := IC_pl hI
  refine Ct_X6_cellCount ⟨fun g => ⟨by unfold A_cnt; rw [if_pos g], rfl⟩, fun g => ⟨fun g2 => ?_, fun g2 => ⟨by unfold A_cnt; rw [if_neg g, if_neg g2], rfl⟩⟩⟩
  rw [hr]
  obtain ⟨d, hd, rfl⟩ := nI_of2 (M := nI 4) (n := 4) (by decide) g g2
  refine ⟨cel_o hp, ex_p (c_countOf hp hV hR (by omega)) (Tr_X6_cellCount_20 ⟨?_, rfl⟩)⟩
  unfold A_cnt
  rw [if_neg g, if_pos g2, cl_n (by omega)]
theorem m_cellCount (hV : VS S) (hI : IM S T D μ) (a : Int32) : CtrP l ω M_X7_cellCount [.ref 29, .int a] μ (A_cnt S a) := by
  refine Ct_X7_cellCount ?_
  rcases rng_c (lo := 0) (hi := 4) (by decide) (by decide) a with ⟨d, -, hd, rfl⟩ | h | h
  · rw [in_t (by decide) (by omega) hd]
    refine ⟨fun g => absurd g nI1_ne, fun _ => ex_p (c_countOf7 hV hI.1 (by omega)) (Tr_X7_cellCount_14 ⟨?_, rfl⟩)⟩
    unfold A_cnt
    rw [if_neg (nI_pos (by omega)), if_pos (nI_le hd (by decide)), cl_n (by omega)]
  · rw [in_f (Or.inl h)]
    exact ⟨fun _ => ⟨by unfold A_cnt; rw [if_pos (show a < 0 from h)], rfl⟩, fun g => absurd nI0_eq g⟩
  · rw [in_f (Or.inr h)]
    refine ⟨fun _ => ⟨?_, rfl⟩, fun g => absurd nI0_eq g⟩
    unfold A_cnt
    rw [if_neg (Int32.not_le.mpr h : ¬ a ≤ nI 4)]
    split <;> rfl
def A_dim (S : SS) (a : Int32) : Int32 := if iHasC (nI (sn S)) a = 0 then -101 else nI (sd S a.toNatClampNeg)
theorem x_dimension (hV : VS S) (hI : IC S T D μ) (a : Int32) : CtrP l ω M_X6_dimension [.ref 0, .int a] μ (A_dim S a) := by
  obtain ⟨p, hp, hr, hR⟩ := IC_pl hI
  have h48 := hV.1
  refine Ct_X6_dimension ?_
  rw [hr, hR.1]
  refine ⟨cel_o hp, fun g => ⟨by unfold A_dim; rw [if_pos g], rfl⟩, fun g => ?_⟩
  rcases cell_c hV.1 a with ⟨x, hx, rfl⟩ | ⟨h, -⟩
  · rw [cel_r0 hp, cl_n (by omega), (hR.2 x hx).1]
    exact ⟨cel_o hp, inb_n (cel_1 hp) (by omega) (by decide), by unfold A_dim; rw [if_neg g, cl_n (by omega)], rfl⟩
  · exact absurd (by rw [h]; exact nI0_eq) g
theorem m_dimension (hV : VS S) (hI : IM S T D μ) (a : Int32) : CtrP l ω M_X7_dimension [.ref 29, .int a] μ (A_dim S a) := by
  have h48 := hV.1
  refine Ct_X7_dimension ?_
  rw [hI.1.1]
  rcases cell_c hV.1 a with ⟨x, hx, rfl⟩ | ⟨h, h'⟩
  · rw [not_t hV.1 hx, cl_n (by omega), RM_d0 hI.1 hx]
    refine ⟨fun _ => ⟨inb_n (n := 96) rfl (by omega) (by decide), ?_, rfl⟩, fun g => absurd nI0_eq g⟩
    unfold A_dim
    rw [has_t hV.1 hx, if_neg nI1_ne, cl_n (by omega)]
  · rw [h']
    exact ⟨fun g => absurd g nI1_ne, fun _ => ⟨by unfold A_dim; rw [h, if_pos nI0_eq], rfl⟩⟩
/-! simplices of a dimension -/
def binR (n : Nat) : Nat → Int32
  | 0 => nI 1
  | k + 1 => (binR n k * ((nI n - nI (k + 1)) + nI 1)) / nI (k + 1)
def choR (n : Nat) (w : Int32) : Nat → Int32
  | 0 => w
  | k + 1 => (choR n w k * (nI n - nI k)) / (nI k + nI 1)
theorem d_cho : ∀ n, n < 7 → ∀ m, m < 5 → choR n (if m ≤ n then nI 1 else nI 0) (min m n) = binR n m := by decide +kernel
theorem c_binomial {n m : Nat} (hn : n < 7) (hm : m < 5) : CtrP l ω M_X6_binomial [.int (nI n), .int (nI m)] μ (binR n m) := by
  refine Ct_X6_binomial ?_
  refine upto0 (G := fun k => Good l ω M_X6_binomial 4 [.int (nI n), .int (nI m), .int (binR n k), .int (nI (k + 1))] [] μ (fun v μ' => v = some (.int (binR n m)) ∧ μ' = μ)) m ?_ ?_ 0 (by omega)
  · exact Tr_X6_binomial_4 ⟨fun _ => ⟨rfl, rfl⟩, fun g => absurd (nI_lt (by omega) (by omega)) g⟩
  · intro k hk h
    rw [← nI_1] at h
    exact Tr_X6_binomial_4 ⟨fun g => absurd g (nI_nlt (by omega) (by omega)), fun _ => ⟨decide_eq_true (nI_ne0 (by omega) (by omega)), h⟩⟩
theorem c_choose {n m : Nat} (hn : n < 7) (hm : m < 5) : CtrP l ω M_X7_choose [.int (nI n), .int (nI m)] μ (binR n m) := by
  have key : ∀ w, Good l ω M_X7_choose 13 [.int (nI n), .int (nI m), .int w, .int (nI 0)] [] μ (fun v μ' => v = some (.int (choR n w (min m n))) ∧ μ' = μ) := by
    intro w
    refine upto0 (G := fun k => Good l ω M_X7_choose 13 [.int (nI n), .int (nI m), .int (choR n w k), .int (nI k)] [] μ (fun v μ' => v = some (.int (choR n w (min m n))) ∧ μ' = μ)) (min m n) ?_ ?_ 0 (by omega)
    · refine Tr_X7_choose_13 ⟨fun _ => ⟨rfl, rfl⟩, fun g => ⟨fun _ => ⟨rfl, rfl⟩, fun g2 => ?_⟩⟩
      rcases Nat.le_total m n with q | q
      · exact absurd (nI_le (by omega) (by omega)) g
      · exact absurd (nI_le (by omega) (by omega)) g2
    · intro k hk h
      rw [← nI_1] at h
      refine Tr_X7_choose_13 ⟨fun g => absurd g (nI_ge (by omega) (by omega)), fun _ => ⟨fun g => absurd g (nI_ge (by omega) (by omega)), fun _ => ⟨?_, h⟩⟩⟩
      rw [nI_add]
      exact decide_eq_true (nI_ne0 (by omega) (by omega))
  have e := d_cho n hn m hm
  refine Ct_X7_choose ⟨fun g => ?_, fun g => ?_⟩
  · have hmn : m ≤ n := by
      rcases Nat.lt_or_ge n m with q | q
      · exact absurd g (nI_ge q (by omega))
      · exact q
    rw [if_pos hmn] at e
    rw [← e]
    exact key _
  · have hmn : ¬ m ≤ n := fun q => g (nI_le q (by omega))
    rw [if_neg hmn] at e
    rw [← e]
    exact key _
def scN (S : SS) (n : Nat) : Nat → Int32
  | 0 => nI 0
  | c + 1 => scN S n c + binR n (sd S c)
def A_sc (S : SS) (a : Int32) : Int32 := if a < 0 then -102 else if a ≤ nI 6 then scN S a.toNatClampNeg (sn S) else -102
theorem x_simplexCount (hV : VS S) (hI : IC S T D μ) (a : Int32) : CtrP l ω M_X6_simplexCount [.ref 0, .int a] μ (A_sc S a) := by
  obtain ⟨p, hp, hr, hR⟩ := IC_pl hI
  have h48 := hV.1
  refine Ct_X6_simplexCount ⟨fun g => ⟨by unfold A_sc; rw [if_pos g], rfl⟩, fun g => ⟨fun g2 => ?_, fun g2 => ⟨by unfold A_sc; rw [if_neg g, if_neg g2], rfl⟩⟩⟩
  obtain ⟨n, hn, rfl⟩ := nI_of2 (M := nI 6) (n := 6) (by decide) g g2
  rw [show A_sc S (nI n) = scN S n (sn S) by unfold A_sc; rw [if_neg g, if_pos g2, cl_n (by omega)]]
  refine upto0 (G := fun c => Good l ω M_X6_simplexCount 17 [.ref 0, .int (nI n), .int (scN S n c), .int (nI c)] [] μ (fun v μ' => v = some (.int (scN S n (sn S))) ∧ μ' = μ)) (sn S) ?_ ?_ 0 (by omega)
  · refine Tr_X6_simplexCount_17 ?_
    rw [hr, hR.1]
    exact ⟨cel_o hp, fun _ => ⟨rfl, rfl⟩, fun g => absurd (nI_le (Nat.le_refl _) (by omega)) g⟩
  · intro c hc k
    rw [← nI_1] at k
    refine Tr_X6_simplexCount_17 ?_
    rw [hr, hR.1, cel_r0 hp, cl_n (by omega), (hR.2 c hc).1]
    have hsd := (hV.2 c hc).1
    exact ⟨cel_o hp, fun g => absurd g (nI_ge hc (by omega)), fun _ => ⟨cel_o hp, inb_n (cel_1 hp) (by omega) (by decide), ex_p (c_binomial (by omega) (by omega)) (Tr_X6_simplexCount_42 k)⟩⟩
theorem m_simplexCount (hV : VS S) (hI : IM S T D μ) (a : Int32) : CtrP l ω M_X7_simplexCount [.ref 29, .int a] μ (A_sc S a) := by
  have hR := hI.1
  have h48 := hV.1
  refine Ct_X7_simplexCount ?_
  rcases rng_c (lo := 0) (hi := 6) (by decide) (by decide) a with ⟨n, -, hn, rfl⟩ | h | h
  · rw [in_t (by decide) (by omega) hn]
    refine ⟨fun _ => ?_, fun g => absurd nI1_ne g⟩
    rw [show A_sc S (nI n) = scN S n (sn S) by unfold A_sc; rw [if_neg (nI_pos (by omega)), if_pos (nI_le hn (by decide)), cl_n (by omega)]]
    refine upto0 (G := fun c => Good l ω M_X7_simplexCount 17 [.ref 29, .int (nI n), .int (scN S n c), .int (nI c)] [] μ (fun v μ' => v = some (.int (scN S n (sn S))) ∧ μ' = μ)) (sn S) ?_ ?_ 0 (by omega)
    · refine Tr_X7_simplexCount_17 ?_
      rw [hR.1]
      exact ⟨fun _ => ⟨rfl, rfl⟩, fun g => absurd (nI_le (Nat.le_refl _) (by omega)) g⟩
    · intro c hc k
      rw [← nI_1] at k
      refine Tr_X7_simplexCount_17 ?_
      rw [hR.1, cl_n (by omega), RM_d0 hR hc]
      have hsd := (hV.2 c hc).1
      exact ⟨fun g => absurd g (nI_ge hc (by omega)), fun _ => ⟨inb_n (n := 96) rfl (by omega) (by decide), ex_p (c_choose (by omega) (by omega)) (Tr_X7_simplexCount_36 k)⟩⟩
  · rw [in_f (Or.inl h)]
    exact ⟨fun g => absurd nI0_eq g, fun _ => ⟨by unfold A_sc; rw [if_pos (show a < 0 from h)], rfl⟩⟩
  · rw [in_f (Or.inr h)]
    refine ⟨fun g => absurd nI0_eq g, fun _ => ⟨?_, rfl⟩⟩
    unfold A_sc
    rw [if_neg (Int32.not_le.mpr h : ¬ a ≤ nI 6)]
    split <;> rfl
def euN (S : SS) : Nat → Int32
  | 0 => nI 0
  | c + 1 => euN S c + iSign (nI (sd S c))
theorem x_euler (hV : VS S) (hI : IC S T D μ) : CtrP l ω M_X6_eulerCharacteristic [.ref 0] μ (euN S (sn S)) := by
  obtain ⟨p, hp, hr, hR⟩ := IC_pl hI
  have h48 := hV.1
  refine Ct_X6_eulerCharacteristic ?_
  refine upto0 (G := fun c => Good l ω M_X6_eulerCharacteristic 4 [.ref 0, .int (euN S c), .int (nI c)] [] μ (fun v μ' => v = some (.int (euN S (sn S))) ∧ μ' = μ)) (sn S) ?_ ?_ 0 (by omega)
  · refine Tr_X6_eulerCharacteristic_4 ?_
    rw [hr, hR.1]
    exact ⟨cel_o hp, fun _ => ⟨rfl, rfl⟩, fun g => absurd (nI_le (Nat.le_refl _) (by omega)) g⟩
  · intro c hc k
    rw [← nI_1] at k
    refine Tr_X6_eulerCharacteristic_4 ?_
    rw [hr, hR.1, cel_r0 hp, cl_n (by omega), (hR.2 c hc).1]
    exact ⟨cel_o hp, fun g => absurd g (nI_ge hc (by omega)), fun _ => ⟨cel_o hp, inb_n (cel_1 hp) (by omega) (by decide), k⟩⟩
theorem m_euler (hV : VS S) (hI : IM S T D μ) : CtrP l ω M_X7_eulerCharacteristic [.ref 29] μ (euN S (sn S)) := by
  have hR := hI.1
  have h48 := hV.1
  refine Ct_X7_eulerCharacteristic ?_
  refine upto0 (G := fun c => Good l ω M_X7_eulerCharacteristic 4 [.ref 29, .int (euN S c), .int (nI c)] [] μ (fun v μ' => v = some (.int (euN S (sn S))) ∧ μ' = μ)) (sn S) ?_ ?_ 0 (by omega)
  · refine Tr_X7_eulerCharacteristic_4 ?_
    rw [hR.1]
    exact ⟨fun _ => ⟨rfl, rfl⟩, fun g => absurd (nI_le (Nat.le_refl _) (by omega)) g⟩
  · intro c hc k
    rw [← nI_1] at k
    refine Tr_X7_eulerCharacteristic_4 ?_
    rw [hR.1, cl_n (by omega), RM_d0 hR hc]
    refine ⟨fun g => absurd g (nI_ge hc (by omega)), fun _ => ⟨inb_n (n := 96) rfl (by omega) (by decide), fun g => ?_, fun g => ?_⟩⟩
    · rw [show euN S (c + 1) = euN S c + (-1) by rw [euN, iSign, if_neg g]] at k; exact k
    · rw [show euN S (c + 1) = euN S c + nI 1 by rw [euN, iSign, if_pos (dnn g)]] at k; exact k
end CQ

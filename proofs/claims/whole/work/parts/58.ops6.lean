/-! grids of longs; rows and columns of the class's matrix -/
def GR (p w R C : Nat) (F : MX) (μ : Mm) : Prop := ∀ r c, r < R → c < C → ss_l μ p (r * w + c) = lI (F r c)
theorem GR_wl {p w R C a j : Nat} {F : MX} {μ : Mm} {v : Int} (h : GR p w R C F μ) (hw : C ≤ w) (hj : j < C) : GR p w R C (fun r c => if r = a ∧ c = j then v else F r c) (ss_wl μ p (a * w + j) (lI v)) := by
  intro r c hr hc
  rw [rl_wl]
  by_cases hq : r = a ∧ c = j
  · obtain ⟨rfl, rfl⟩ := hq
    dsimp only
    rw [if_pos ⟨rfl, rfl⟩, if_pos ⟨rfl, rfl⟩]
  · dsimp only
    rw [if_neg (fun q => hq (idx_ne (by omega) (by omega) q.2)), if_neg hq]; exact h r c hr hc
theorem GR_c {p w R C : Nat} {F F' : MX} {μ : Mm} (h : GR p w R C F μ) (he : ∀ r c, r < R → c < C → F r c = F' r c) : GR p w R C F' μ := fun r c hr hc => by rw [h r c hr hc, he r c hr hc]
theorem swp_l (a b : Nat) : swp a b a = b := by unfold swp; rw [if_pos rfl]
theorem swp_r (a b : Nat) : swp a b b = a := by unfold swp; by_cases h : b = a <;> simp [h]
theorem swp_o {a b r : Nat} (ha : r ≠ a) (hb : r ≠ b) : swp a b r = r := by unfold swp; rw [if_neg ha, if_neg hb]
/-- bounds of a matrix of the class -/
def HB (R C m : Nat) : Prop := R * C ≤ 576 ∧ R ≤ 48 ∧ C ≤ 48 ∧ 0 < m ∧ m ≤ 2 ^ 46
section SW
variable {l : Launch} {ω : Wd} {μ : Mm} {R C m : Nat} {E : MX}
theorem RX_g (h : RX R C m E μ) : GR 24 C R C E μ := fun r c hr hc => (h.2.2.2 r c hr hc).1
theorem RX_b (h : RX R C m E μ) {r c : Nat} (hr : r < R) (hc : c < C) : 0 ≤ E r c ∧ E r c < m := (h.2.2.2 r c hr hc).2
theorem RX_n {E' : MX} {μ' : Mm} (h : RX R C m E μ) (hk : kE μ μ') (hg : GR 24 C R C E' μ') (hb : ∀ r c, r < R → c < C → 0 ≤ E' r c ∧ E' r c < m) : RX R C m E' μ' := RX_E h hk (fun r c hr hc => ⟨hg r c hr hc, hb r c hr hc⟩)
theorem c_swap {F : MX} {ra ca rb cb : Nat} (hRC : R * C ≤ 576) (g : GR 24 C R C F μ) (h1 : ra < R) (h2 : ca < C) (h3 : rb < R) (h4 : cb < C) : Ctr l ω M_X5_swap [.ref 22, .int (nI (ra * C + ca)), .int (nI (rb * C + cb))] μ (fun v μ' => v = none ∧ kE μ μ' ∧ GR 24 C R C (fun r c => if r = rb ∧ c = cb then F ra ca else if r = ra ∧ c = ca then F rb cb else F r c) μ') := by
  have ia := rc_ix hRC h1 h2
  have ib := rc_ix hRC h3 h4
  refine Ct_X5_swap ?_
  rw [cl_n (by omega), cl_n (by omega), g ra ca h1 h2, g rb cb h3 h4]
  have na : inb 24 2 (nI (ra * C + ca)) = true := inb_n (n := 576) rfl ia (by decide)
  have nb : inb 24 2 (nI (rb * C + cb)) = true := inb_n (n := 576) rfl ib (by decide)
  exact ⟨na, nb, na, nb, rfl, kE_tr kE_wl kE_wl, GR_wl (GR_wl g (Nat.le_refl _) h2) (Nat.le_refl _) h4⟩
theorem c_swapRows {a b : Nat} (H : HB R C m) (h : RX R C m E μ) (ha : a < R) (hb : b < R) : Ctr l ω M_X5_swapRows [.ref 22, .int (nI a), .int (nI b)] μ (fun v μ' => v = none ∧ RX R C m (fun r c => E (swp a b r) c) μ' ∧ kE μ μ') := by
  obtain ⟨hRC, hR, hC, m0, m46⟩ := H
  refine Ct_X5_swapRows ?_
  refine upto1 (G := fun i μ1 => Good l ω M_X5_swapRows 2 [.ref 22, .int (nI a), .int (nI b), .int (nI i)] [] μ1 _) (I := fun i μ1 => kE μ μ1 ∧ GR 24 C R C (fun r c => if c < i then E (swp a b r) c else E r c) μ1) C ?_ ?_ 0 (by omega) μ ⟨kE_rf, GR_c (RX_g h) (fun r c _ _ => by rw [if_neg (by omega)])⟩
  · intro μ1 ⟨k1, k2⟩
    refine Tr_X5_swapRows_2 ?_
    rw [kE_i k1, h.2.1]
    refine ⟨fun _ => ⟨rfl, RX_n h k1 (GR_c k2 (fun r c _ hc => by rw [if_pos hc])) (fun r c hr hc => RX_b h (swp_lt ha hb hr) hc), k1⟩, fun g => absurd (nI_le (Nat.le_refl _) (by omega)) g⟩
  · intro i μ1 hi ⟨k1, k2⟩ ih
    refine Tr_X5_swapRows_2 ?_
    rw [kE_i k1, h.2.1, pk_mul, pk_mul, nI_add, nI_add]
    refine ⟨fun g => absurd g (nI_ge hi (by omega)), fun _ => ?_⟩
    refine ex_q (c_swap hRC k2 ha hi hb hi) (fun v μ2 hq => ?_)
    obtain ⟨rfl, d1, d2⟩ := hq
    refine Tr_X5_swapRows_30 ?_
    rw [nI_add]
    refine ih μ2 ⟨kE_tr k1 d1, GR_c d2 (fun r c hr hc => ?_)⟩
    
    by_cases hci : c = i
    · subst hci
      rw [if_neg (Nat.lt_irrefl c), if_neg (Nat.lt_irrefl c), if_neg (Nat.lt_irrefl c), if_pos (Nat.lt_succ_self c)]
      by_cases hrb : r = b
      · rw [if_pos ⟨hrb, rfl⟩, hrb, swp_r]
      · rw [if_neg (fun q => hrb q.1)]
        by_cases hra : r = a
        · rw [if_pos ⟨hra, rfl⟩, hra, swp_l]
        · rw [if_neg (fun q => hra q.1), swp_o hra hrb]
    · rw [if_neg (fun q => hci q.2), if_neg (fun q => hci q.2)]
      by_cases hlt : c < i
      · rw [if_pos hlt, if_pos (by omega)]
      · rw [if_neg hlt, if_neg (by omega)]
theorem c_swapColumns {a b : Nat} (H : HB R C m) (h : RX R C m E μ) (ha : a < C) (hb : b < C) : Ctr l ω M_X5_swapColumns [.ref 22, .int (nI a), .int (nI b)] μ (fun v μ' => v = none ∧ RX R C m (fun r c => E r (swp a b c)) μ' ∧ kE μ μ') := by
  obtain ⟨hRC, hR, hC, m0, m46⟩ := H
  refine Ct_X5_swapColumns ?_
  refine upto1 (G := fun i μ1 => Good l ω M_X5_swapColumns 2 [.ref 22, .int (nI a), .int (nI b), .int (nI i)] [] μ1 _) (I := fun i μ1 => kE μ μ1 ∧ GR 24 C R C (fun r c => if r < i then E r (swp a b c) else E r c) μ1) R ?_ ?_ 0 (by omega) μ ⟨kE_rf, GR_c (RX_g h) (fun r c _ _ => by rw [if_neg (by omega)])⟩
  · intro μ1 ⟨k1, k2⟩
    refine Tr_X5_swapColumns_2 ?_
    rw [kE_i k1, h.1]
    refine ⟨fun _ => ⟨rfl, RX_n h k1 (GR_c k2 (fun r c hr _ => by rw [if_pos hr])) (fun r c hr hc => RX_b h hr (swp_lt ha hb hc)), k1⟩, fun g => absurd (nI_le (Nat.le_refl _) (by omega)) g⟩
  · intro i μ1 hi ⟨k1, k2⟩ ih
    refine Tr_X5_swapColumns_2 ?_
    rw [kE_i k1, kE_i k1, h.1, h.2.1, pk_mul, nI_add, nI_add]
    refine ⟨fun g => absurd g (nI_ge hi (by omega)), fun _ => ?_⟩
    refine ex_q (c_swap hRC k2 hi ha hi hb) (fun v μ2 hq => ?_)
    obtain ⟨rfl, d1, d2⟩ := hq
    refine Tr_X5_swapColumns_30 ?_
    rw [nI_add]
    refine ih μ2 ⟨kE_tr k1 d1, GR_c d2 (fun r c hr hc => ?_)⟩
    
    by_cases hri : r = i
    · subst hri
      rw [if_neg (Nat.lt_irrefl r), if_neg (Nat.lt_irrefl r), if_neg (Nat.lt_irrefl r), if_pos (Nat.lt_succ_self r)]
      by_cases hcb : c = b
      · rw [if_pos ⟨rfl, hcb⟩, hcb, swp_r]
      · rw [if_neg (fun q => hcb q.2)]
        by_cases hca : c = a
        · rw [if_pos ⟨rfl, hca⟩, hca, swp_l]
        · rw [if_neg (fun q => hca q.2), swp_o hca hcb]
    · rw [if_neg (fun q => hri q.1), if_neg (fun q => hri q.1)]
      by_cases hlt : r < i
      · rw [if_pos hlt, if_pos (by omega)]
      · rw [if_neg hlt, if_neg (by omega)]
theorem sub_mm (x y m : Int) : (x - y % m) % m = (x - y) % m := by rw [Int.sub_emod, Int.emod_emod, ← Int.sub_emod]
theorem c_subtract {F : MX} {ra ca rb cb f : Nat} (H : HB R C m) (hm : ss_l μ 22 4 = lI m) (g : GR 24 C R C F μ) (h1 : ra < R) (h2 : ca < C) (h3 : rb < R) (h4 : cb < C) (ba : 0 ≤ F ra ca ∧ F ra ca < m) (bb : 0 ≤ F rb cb ∧ F rb cb < m) (hf : f < m) : Ctr l ω M_X5_subtract [.ref 22, .int (nI (ra * C + ca)), .int (nI (rb * C + cb)), .long (lI f)] μ (fun v μ' => v = none ∧ kE μ μ' ∧ GR 24 C R C (fun r c => if r = ra ∧ c = ca then (F ra ca - f * F rb cb) % m else F r c) μ') := by
  obtain ⟨hRC, hR, hC, m0, m46⟩ := H
  have ia := rc_ix hRC h1 h2
  have ib := rc_ix hRC h3 h4
  have na : inb 24 2 (nI (ra * C + ca)) = true := inb_n (n := 576) rfl ia (by decide)
  have nb : inb 24 2 (nI (rb * C + cb)) = true := inb_n (n := 576) rfl ib (by decide)
  refine Ct_X5_subtract ?_
  obtain ⟨y, hy⟩ := Int.eq_ofNat_of_zero_le bb.1
  have hyl : y < m := by have := bb.2; omega
  rw [cl_n (by omega), cl_n (by omega), g ra ca h1 h2, g rb cb h3 h4, hy, lN_I, cmp_0 (by omega) (by omega) (by decide) (by decide), hm, lI_tms hf hyl m46, lI_sub]
  have hmod : f * y % m < m := Nat.mod_lt _ m0
  rw [lI_res (by omega) (by omega) (by omega) (by omega)]
  refine ⟨nb, fun g0 => ⟨rfl, kE_rf, GR_c g (fun r c hr hc => ?_)⟩, fun _ => ⟨na, nb, lI_n0 m0 (by omega), lI_n0 m0 (by omega), na, rfl, kE_wl, ?_⟩⟩
  · by_cases hq : r = ra ∧ c = ca
    · rw [if_pos hq, hq.1, hq.2, g0, show (((0 : Nat) : Int)) = 0 from rfl, Int.mul_zero, Int.sub_zero, Int.emod_eq_of_lt ba.1 ba.2]
    · rw [if_neg hq]
  · have e : (F ra ca - (f : Int) * (y : Int)) % (m : Int) = (F ra ca - ((f * y % m : Nat) : Int)) % m := by
      rw [Int.natCast_emod, Int.natCast_mul, sub_mm]
    rw [e]
    exact GR_wl g (Nat.le_refl _) h2
theorem c_subtractRow {a b f : Nat} (H : HB R C m) (h : RX R C m E μ) (ha : a < R) (hb : b < R) (hab : a ≠ b) (hf : f < m) : Ctr l ω M_X5_subtractRow [.ref 22, .int (nI a), .int (nI b), .long (lI f)] μ (fun v μ' => v = none ∧ RX R C m (fun r c => if r = a then (E a c - f * E b c) % m else E r c) μ' ∧ kE μ μ') := by
  have H' := H
  obtain ⟨hRC, hR, hC, m0, m46⟩ := H
  refine Ct_X5_subtractRow ?_
  have hz : ∀ r c, r < R → c < C → 0 ≤ (if r = a then (E a c - f * E b c) % m else E r c) ∧ (if r = a then (E a c - f * E b c) % m else E r c) < m := by
    intro r c hr hc
    by_cases hra : r = a
    · rw [if_pos hra]; exact ⟨Int.emod_nonneg _ (by omega), Int.emod_lt_of_pos _ (by omega)⟩
    · rw [if_neg hra]; exact RX_b h hr hc
  have c0 : lg_cmp (lI f) (lN 0) = 0 ↔ (f : Int) = 0 := by rw [lN_I]; exact cmp_0 (by omega) (by omega) (by decide) (by decide)
  by_cases hf0 : f = 0
  · refine Tr_X5_subtractRow_3 ⟨fun _ => ⟨rfl, RX_n h kE_rf (GR_c (RX_g h) (fun r c hr hc => ?_)) hz, kE_rf⟩, fun g => absurd (c0.mpr (by omega)) g⟩
    by_cases hra : r = a
    · have := RX_b h ha hc
      rw [if_pos hra, hra, hf0]
      show E a c = (E a c - 0 * E b c) % m
      rw [Int.zero_mul, Int.sub_zero, Int.emod_eq_of_lt this.1 this.2]
    · rw [if_neg hra]
  · refine upto1 (G := fun i μ1 => Good l ω M_X5_subtractRow 3 [.ref 22, .int (nI a), .int (nI b), .long (lI f), .null, .int (nI i)] [] μ1 _) (I := fun i μ1 => kE μ μ1 ∧ GR 24 C R C (fun r c => if r = a ∧ c < i then (E a c - f * E b c) % m else E r c) μ1) C ?_ ?_ 0 (by omega) μ ⟨kE_rf, GR_c (RX_g h) (fun r c _ _ => by rw [if_neg (by omega)])⟩
    · intro μ1 ⟨k1, k2⟩
      refine Tr_X5_subtractRow_3 ⟨fun g => absurd (c0.mp g) (by omega), fun _ => ?_⟩
      rw [kE_i k1, h.2.1]
      refine ⟨fun _ => ⟨rfl, RX_n h k1 (GR_c k2 (fun r c hr hc => ?_)) hz, k1⟩, fun g => absurd (nI_le (Nat.le_refl _) (by omega)) g⟩
      by_cases hra : r = a
      · rw [if_pos ⟨hra, hc⟩, if_pos hra]
      · rw [if_neg (fun q => hra q.1), if_neg hra]
    · intro i μ1 hi ⟨k1, k2⟩ ih
      refine Tr_X5_subtractRow_3 ⟨fun g => absurd (c0.mp g) (by omega), fun _ => ?_⟩
      rw [kE_i k1, h.2.1, pk_mul, pk_mul, nI_add, nI_add]
      refine ⟨fun g => absurd g (nI_ge hi (by omega)), fun _ => ?_⟩
      have ea : (if a = a ∧ i < i then (E a i - f * E b i) % m else E a i) = E a i := if_neg (by omega)
      have eb : (if b = a ∧ i < i then (E a i - f * E b i) % m else E b i) = E b i := if_neg (by omega)
      refine ex_q (c_subtract H' (by rw [k1.2.2 22 4 (by decide)]; exact h.2.2.1) k2 ha hi hb hi (by rw [ea]; exact RX_b h ha hi) (by rw [eb]; exact RX_b h hb hi) hf) (fun v μ2 hq => ?_)
      obtain ⟨rfl, d1, d2⟩ := hq
      refine Tr_X5_subtractRow_41 ?_
      rw [nI_add]
      refine ih μ2 ⟨kE_tr k1 d1, GR_c d2 (fun r c hr hc => ?_)⟩
      rw [ea, eb]
      by_cases hra : r = a
      · by_cases hci : c = i
        · rw [if_pos ⟨hra, hci⟩, if_pos ⟨hra, by omega⟩, hci]
        · rw [if_neg (fun q => hci q.2)]
          by_cases hlt : c < i
          · rw [if_pos ⟨hra, hlt⟩, if_pos ⟨hra, by omega⟩]
          · rw [if_neg (fun q => hlt q.2), if_neg (by omega)]
      · rw [if_neg (fun q => hra q.1), if_neg (fun q => hra q.1), if_neg (fun q => hra q.1)]
theorem c_subtractColumn {a b f : Nat} (H : HB R C m) (h : RX R C m E μ) (ha : a < C) (hb : b < C) (hab : a ≠ b) (hf : f < m) : Ctr l ω M_X5_subtractColumn [.ref 22, .int (nI a), .int (nI b), .long (lI f)] μ (fun v μ' => v = none ∧ RX R C m (fun r c => if c = a then (E r a - f * E r b) % m else E r c) μ' ∧ kE μ μ') := by
  have H' := H
  obtain ⟨hRC, hR, hC, m0, m46⟩ := H
  refine Ct_X5_subtractColumn ?_
  have hz : ∀ r c, r < R → c < C → 0 ≤ (if c = a then (E r a - f * E r b) % m else E r c) ∧ (if c = a then (E r a - f * E r b) % m else E r c) < m := by
    intro r c hr hc
    by_cases hca : c = a
    · rw [if_pos hca]; exact ⟨Int.emod_nonneg _ (by omega), Int.emod_lt_of_pos _ (by omega)⟩
    · rw [if_neg hca]; exact RX_b h hr hc
  have c0 : lg_cmp (lI f) (lN 0) = 0 ↔ (f : Int) = 0 := by rw [lN_I]; exact cmp_0 (by omega) (by omega) (by decide) (by decide)
  by_cases hf0 : f = 0
  · refine Tr_X5_subtractColumn_3 ⟨fun _ => ⟨rfl, RX_n h kE_rf (GR_c (RX_g h) (fun r c hr hc => ?_)) hz, kE_rf⟩, fun g => absurd (c0.mpr (by omega)) g⟩
    by_cases hca : c = a
    · have := RX_b h hr ha
      rw [if_pos hca, hca, hf0]
      show E r a = (E r a - 0 * E r b) % m
      rw [Int.zero_mul, Int.sub_zero, Int.emod_eq_of_lt this.1 this.2]
    · rw [if_neg hca]
  · refine upto1 (G := fun i μ1 => Good l ω M_X5_subtractColumn 3 [.ref 22, .int (nI a), .int (nI b), .long (lI f), .null, .int (nI i)] [] μ1 _) (I := fun i μ1 => kE μ μ1 ∧ GR 24 C R C (fun r c => if c = a ∧ r < i then (E r a - f * E r b) % m else E r c) μ1) R ?_ ?_ 0 (by omega) μ ⟨kE_rf, GR_c (RX_g h) (fun r c _ _ => by rw [if_neg (by omega)])⟩
    · intro μ1 ⟨k1, k2⟩
      refine Tr_X5_subtractColumn_3 ⟨fun g => absurd (c0.mp g) (by omega), fun _ => ?_⟩
      rw [kE_i k1, h.1]
      refine ⟨fun _ => ⟨rfl, RX_n h k1 (GR_c k2 (fun r c hr hc => ?_)) hz, k1⟩, fun g => absurd (nI_le (Nat.le_refl _) (by omega)) g⟩
      by_cases hca : c = a
      · rw [if_pos ⟨hca, hr⟩, if_pos hca]
      · rw [if_neg (fun q => hca q.1), if_neg hca]
    · intro i μ1 hi ⟨k1, k2⟩ ih
      refine Tr_X5_subtractColumn_3 ⟨fun g => absurd (c0.mp g) (by omega), fun _ => ?_⟩
      rw [kE_i k1, kE_i k1, h.1, h.2.1, pk_mul, nI_add, nI_add]
      refine ⟨fun g => absurd g (nI_ge hi (by omega)), fun _ => ?_⟩
      have ea : (if a = a ∧ i < i then (E i a - f * E i b) % m else E i a) = E i a := if_neg (by omega)
      have eb : (if b = a ∧ i < i then (E i a - f * E i b) % m else E i b) = E i b := if_neg (by omega)
      refine ex_q (c_subtract H' (by rw [k1.2.2 22 4 (by decide)]; exact h.2.2.1) k2 hi ha hi hb (by rw [ea]; exact RX_b h hi ha) (by rw [eb]; exact RX_b h hi hb) hf) (fun v μ2 hq => ?_)
      obtain ⟨rfl, d1, d2⟩ := hq
      refine Tr_X5_subtractColumn_41 ?_
      rw [nI_add]
      refine ih μ2 ⟨kE_tr k1 d1, GR_c d2 (fun r c hr hc => ?_)⟩
      rw [ea, eb]
      by_cases hca : c = a
      · by_cases hri : r = i
        · rw [if_pos ⟨hri, hca⟩, if_pos ⟨hca, by omega⟩, hri]
        · rw [if_neg (fun q => hri q.1)]
          by_cases hlt : r < i
          · rw [if_pos ⟨hca, hlt⟩, if_pos ⟨hca, by omega⟩]
          · rw [if_neg (fun q => hlt q.2), if_neg (by omega)]
      · rw [if_neg (fun q => hca q.2), if_neg (fun q => hca q.1), if_neg (fun q => hca q.1)]
end SW

/-! the reference's work on the matrix modulo the minor -/
def HW (R C m : Nat) : Prop := R ≤ 48 ∧ C ≤ 48 ∧ 0 < m ∧ m ≤ 2 ^ 46
def RW (R C m : Nat) (W : MX) (μ : Mm) : Prop := ss_i μ 29 22 = nI R ∧ ss_i μ 29 23 = nI C ∧ ss_l μ 29 19 = lI m ∧ GR 37 48 R C W μ ∧ ∀ r c, r < R → c < C → 0 ≤ W r c ∧ W r c < m
def BD (g : Int) (W : MX) (t R C : Nat) : Prop := ∀ r c, t ≤ r → r < R → t ≤ c → c < C → g ∣ W r c
def PB (m : Int) (W W' : MX) (t R C : Nat) : Prop := ∀ g, g ∣ m → BD g W t R C → BD g W' t R C
theorem PB_rf {m : Int} {W : MX} {t R C : Nat} : PB m W W t R C := fun _ _ h => h
theorem PB_tr {m : Int} {W W1 W2 : MX} {t R C : Nat} (h : PB m W W1 t R C) (k : PB m W1 W2 t R C) : PB m W W2 t R C := fun g hg q => k g hg (h g hg q)
theorem dv_em {g m x : Int} (hg : g ∣ m) (hx : g ∣ x) : g ∣ x % m := by
  have h1 := Int.dvd_trans hg (em_d x m)
  have h2 := Int.dvd_add h1 hx
  rwa [Int.sub_add_cancel] at h2
section WK
variable {l : Launch} {ω : Wd} {μ : Mm} {R C m : Nat} {W : MX}
theorem RW_n {W' : MX} {μ' : Mm} (h : RW R C m W μ) (hk : kL 37 μ μ') (hg : GR 37 48 R C W' μ') (hb : ∀ r c, r < R → c < C → 0 ≤ W' r c ∧ W' r c < m) : RW R C m W' μ' := ⟨by rw [kL_i hk]; exact h.1, by rw [kL_i hk]; exact h.2.1, by rw [hk.2.2 29 19 (by decide)]; exact h.2.2.1, hg, hb⟩
theorem RW_g (h : RW R C m W μ) : GR 37 48 R C W μ := h.2.2.2.1
theorem RW_b (h : RW R C m W μ) {r c : Nat} (hr : r < R) (hc : c < C) : 0 ≤ W r c ∧ W r c < m := h.2.2.2.2 r c hr hc
theorem c_addRow {a b f : Nat} (H : HW R C m) (h : RW R C m W μ) (ha : a < R) (hb : b < R) (hab : a ≠ b) (hf : f ≤ m) : Ctr l ω M_X7_addRow [.ref 29, .int (nI a), .int (nI b), .long (lI f)] μ (fun v μ' => v = none ∧ kL 37 μ μ' ∧ RW R C m (fun r c => if r = a then (W a c + f * W b c) % m else W r c) μ') := by
  obtain ⟨hR, hC, m0, m46⟩ := H
  have hz : ∀ r c, r < R → c < C → 0 ≤ (if r = a then (W a c + f * W b c) % m else W r c) ∧ (if r = a then (W a c + f * W b c) % m else W r c) < m := by
    intro r c hr hc
    by_cases hra : r = a
    · rw [if_pos hra]; exact ⟨Int.emod_nonneg _ (by omega), Int.emod_lt_of_pos _ (by omega)⟩
    · rw [if_neg hra]; exact RW_b h hr hc
  refine Ct_X7_addRow ?_
  refine upto1 (G := fun i μ1 => Good l ω M_X7_addRow 3 [.ref 29, .int (nI a), .int (nI b), .long (lI f), .null, .int (nI i)] [] μ1 _) (I := fun i μ1 => kL 37 μ μ1 ∧ GR 37 48 R C (fun r c => if r = a ∧ c < i then (W a c + f * W b c) % m else W r c) μ1) C ?_ ?_ 0 (by omega) μ ⟨kL_rf, GR_c (RW_g h) (fun r c _ _ => by rw [if_neg (by omega)])⟩
  · intro μ1 ⟨k1, k2⟩
    refine Tr_X7_addRow_3 ?_
    rw [kL_i k1, h.2.1]
    refine ⟨fun _ => ⟨rfl, k1, RW_n h k1 (GR_c k2 (fun r c hr hc => ?_)) hz⟩, fun g => absurd (nI_le (Nat.le_refl _) (by omega)) g⟩
    by_cases hra : r = a
    · rw [if_pos ⟨hra, hc⟩, if_pos hra]
    · rw [if_neg (fun q => hra q.1), if_neg hra]
  · intro i μ1 hi ⟨k1, k2⟩ ih
    have e19 : ss_l μ1 29 19 = lI m := by rw [k1.2.2 29 19 (by decide)]; exact h.2.2.1
    have ga := k2 a i ha hi
    have gb := k2 b i hb hi
    dsimp only at ga gb
    rw [if_neg (by omega)] at ga gb
    have ba := RW_b h ha hi
    have bb := RW_b h hb hi
    obtain ⟨y, hy⟩ := Int.eq_ofNat_of_zero_le bb.1
    have hml := Nat.mod_lt (f * y) m0
    refine Tr_X7_addRow_3 ?_
    rw [kL_i k1, h.2.1, pk_mul, pk_mul, nI_add, nI_add, Nat.mul_comm 48, Nat.mul_comm 48, cl_n (n := a * 48 + i) (by omega), cl_n (n := b * 48 + i) (by omega), ga, gb, hy]
    refine ⟨fun g => absurd g (nI_ge hi (by omega)), fun _ => ⟨inb_n (n := 2304) rfl (by omega) (by decide), inb_n (n := 2304) rfl (by omega) (by decide), ex_l (c_prod64 e19 m0 m46 (by omega) (by omega)) (Tr_X7_addRow_52 ?_)⟩⟩
    have ev : lI (W a i) + lI ((f * y % m : Nat) : Int) - (lI (W a i) + lI ((f * y % m : Nat) : Int)) / lI (m : Int) * lI (m : Int) = lI ((W a i + f * W b i) % m) := by
      rw [lI_add, lI_mod (by omega) (by omega) (by omega) (by omega), hy, Int.natCast_emod, Int.natCast_mul, Int.add_emod_emod]
    rw [e19, cl_n (by omega), ev, nI_add]
    refine ⟨lI_n0 m0 (by omega), inb_n (n := 2304) rfl (by omega) (by decide), ih _ ⟨kL_tr k1 kL_wl, GR_c (GR_wl k2 hC hi) (fun r c hr hc => ?_)⟩⟩
    by_cases hq : r = a ∧ c = i
    · rw [if_pos hq, if_pos ⟨hq.1, by omega⟩, hq.2]
    · rw [if_neg hq]
      by_cases hq2 : r = a ∧ c < i
      · rw [if_pos hq2, if_pos ⟨hq2.1, by omega⟩]
      · rw [if_neg hq2, if_neg (by omega)]
theorem c_addColumn {a b f : Nat} (H : HW R C m) (h : RW R C m W μ) (ha : a < C) (hb : b < C) (hab : a ≠ b) (hf : f ≤ m) : Ctr l ω M_X7_addColumn [.ref 29, .int (nI a), .int (nI b), .long (lI f)] μ (fun v μ' => v = none ∧ kL 37 μ μ' ∧ RW R C m (fun r c => if c = a then (W r a + f * W r b) % m else W r c) μ') := by
  obtain ⟨hR, hC, m0, m46⟩ := H
  have hz : ∀ r c, r < R → c < C → 0 ≤ (if c = a then (W r a + f * W r b) % m else W r c) ∧ (if c = a then (W r a + f * W r b) % m else W r c) < m := by
    intro r c hr hc
    by_cases hca : c = a
    · rw [if_pos hca]; exact ⟨Int.emod_nonneg _ (by omega), Int.emod_lt_of_pos _ (by omega)⟩
    · rw [if_neg hca]; exact RW_b h hr hc
  refine Ct_X7_addColumn ?_
  refine upto1 (G := fun i μ1 => Good l ω M_X7_addColumn 3 [.ref 29, .int (nI a), .int (nI b), .long (lI f), .null, .int (nI i)] [] μ1 _) (I := fun i μ1 => kL 37 μ μ1 ∧ GR 37 48 R C (fun r c => if c = a ∧ r < i then (W r a + f * W r b) % m else W r c) μ1) R ?_ ?_ 0 (by omega) μ ⟨kL_rf, GR_c (RW_g h) (fun r c _ _ => by rw [if_neg (by omega)])⟩
  · intro μ1 ⟨k1, k2⟩
    refine Tr_X7_addColumn_3 ?_
    rw [kL_i k1, h.1]
    refine ⟨fun _ => ⟨rfl, k1, RW_n h k1 (GR_c k2 (fun r c hr hc => ?_)) hz⟩, fun g => absurd (nI_le (Nat.le_refl _) (by omega)) g⟩
    by_cases hca : c = a
    · rw [if_pos ⟨hca, hr⟩, if_pos hca]
    · rw [if_neg (fun q => hca q.1), if_neg hca]
  · intro i μ1 hi ⟨k1, k2⟩ ih
    have e19 : ss_l μ1 29 19 = lI m := by rw [k1.2.2 29 19 (by decide)]; exact h.2.2.1
    have ga := k2 i a hi ha
    have gb := k2 i b hi hb
    dsimp only at ga gb
    rw [if_neg (by omega)] at ga gb
    have ba := RW_b h hi ha
    have bb := RW_b h hi hb
    obtain ⟨y, hy⟩ := Int.eq_ofNat_of_zero_le bb.1
    have hml := Nat.mod_lt (f * y) m0
    refine Tr_X7_addColumn_3 ?_
    rw [kL_i k1, h.1, pk_mul, nI_add, nI_add, Nat.mul_comm 48, cl_n (n := i * 48 + a) (by omega), cl_n (n := i * 48 + b) (by omega), ga, gb, hy]
    refine ⟨fun g => absurd g (nI_ge hi (by omega)), fun _ => ⟨inb_n (n := 2304) rfl (by omega) (by decide), inb_n (n := 2304) rfl (by omega) (by decide), ex_l (c_prod64 e19 m0 m46 (by omega) (by omega)) (Tr_X7_addColumn_52 ?_)⟩⟩
    have ev : lI (W i a) + lI ((f * y % m : Nat) : Int) - (lI (W i a) + lI ((f * y % m : Nat) : Int)) / lI (m : Int) * lI (m : Int) = lI ((W i a + f * W i b) % m) := by
      rw [lI_add, lI_mod (by omega) (by omega) (by omega) (by omega), hy, Int.natCast_emod, Int.natCast_mul, Int.add_emod_emod]
    rw [e19, cl_n (by omega), ev, nI_add]
    refine ⟨lI_n0 m0 (by omega), inb_n (n := 2304) rfl (by omega) (by decide), ih _ ⟨kL_tr k1 kL_wl, GR_c (GR_wl k2 hC ha) (fun r c hr hc => ?_)⟩⟩
    by_cases hq : r = i ∧ c = a
    · rw [if_pos hq, if_pos ⟨hq.2, by omega⟩, hq.1]
    · rw [if_neg hq]
      by_cases hq2 : c = a ∧ r < i
      · rw [if_pos hq2, if_pos ⟨hq2.1, by omega⟩]
      · rw [if_neg hq2, if_neg (by omega)]
theorem d48 : ∀ x, x < 2304 → nI x / nI 48 = nI (x / 48) := by decide +kernel
theorem c_takesLeast {t : Nat} (H : HW R C m) (h : RW R C m W μ) (htR : t < R) (htC : t < C) : Ctr l ω M_X7_takesLeast [.ref 29, .int (nI t)] μ (fun v μ' => (v = some (.int (nI 0)) ∧ μ' = μ ∧ ∀ r c, t ≤ r → r < R → t ≤ c → c < C → W r c = 0) ∨ (v = some (.int (nI 1)) ∧ kL 37 μ μ' ∧ ∃ a b, t ≤ a ∧ a < R ∧ t ≤ b ∧ b < C ∧ W a b ≠ 0 ∧ (∀ r c, t ≤ r → r < R → t ≤ c → c < C → W r c ≠ 0 → W a b ≤ W r c) ∧ (W t t ≠ 0 → (a = t ∧ b = t) ∨ W a b < W t t) ∧ RW R C m (fun r c => W (swp t a r) (swp t b c)) μ')) := by
  obtain ⟨hR, hC, m0, m46⟩ := H
  let Q : Option Value → Mm → Prop := fun v μ' => (v = some (.int (nI 0)) ∧ μ' = μ ∧ ∀ r c, t ≤ r → r < R → t ≤ c → c < C → W r c = 0) ∨ (v = some (.int (nI 1)) ∧ kL 37 μ μ' ∧ ∃ a b, t ≤ a ∧ a < R ∧ t ≤ b ∧ b < C ∧ W a b ≠ 0 ∧ (∀ r c, t ≤ r → r < R → t ≤ c → c < C → W r c ≠ 0 → W a b ≤ W r c) ∧ (W t t ≠ 0 → (a = t ∧ b = t) ∨ W a b < W t t) ∧ RW R C m (fun r c => W (swp t a r) (swp t b c)) μ')
  let bst : (Nat → Nat → Prop) → Int32 → Prop := fun P x => (x = -109 ∧ ∀ r c, t ≤ r → r < R → t ≤ c → c < C → P r c → W r c = 0) ∨ ∃ a b, x = nI (a * 48 + b) ∧ t ≤ a ∧ a < R ∧ t ≤ b ∧ b < C ∧ (W a b ≠ 0 ∧ P a b) ∧ (∀ r c, t ≤ r → r < R → t ≤ c → c < C → P r c → W r c ≠ 0 → W a b ≤ W r c) ∧ (P t t → W t t ≠ 0 → (a = t ∧ b = t) ∨ W a b < W t t)
  have bst_c : ∀ (P P' : Nat → Nat → Prop) x, (∀ r c, t ≤ r → r < R → t ≤ c → c < C → (P' r c ↔ P r c)) → bst P x → bst P' x := by
    intro P P' x hp hb
    rcases hb with ⟨h1, h2⟩ | ⟨a, b, h1, h2, h3, h4, h5, h6, h7, h8⟩
    · exact Or.inl ⟨h1, fun r c q1 q2 q3 q4 q5 => h2 r c q1 q2 q3 q4 ((hp r c q1 q2 q3 q4).mp q5)⟩
    · exact Or.inr ⟨a, b, h1, h2, h3, h4, h5, ⟨h6.1, (hp a b h2 h3 h4 h5).mpr h6.2⟩, fun r c q1 q2 q3 q4 q5 => h7 r c q1 q2 q3 q4 ((hp r c q1 q2 q3 q4).mp q5), fun q => h8 ((hp t t (Nat.le_refl _) htR (Nat.le_refl _) htC).mp q)⟩
  show Ctr l ω M_X7_takesLeast [.ref 29, .int (nI t)] μ Q
  refine Ct_X7_takesLeast ?_
  -- the swaps
  have swaps : ∀ a b, t ≤ a → a < R → t ≤ b → b < C → W a b ≠ 0 → (∀ r c, t ≤ r → r < R → t ≤ c → c < C → W r c ≠ 0 → W a b ≤ W r c) → (W t t ≠ 0 → (a = t ∧ b = t) ∨ W a b < W t t) → Good l ω M_X7_takesLeast 106 [.ref 29, .int (nI t), .null, .int (nI a), .int (nI b), .int (nI 0), .null, .null] [] μ Q := by
    intro a b a1 a2 a3 a4 a5 a6 a7
    refine upto1 (G := fun i μ1 => Good l ω M_X7_takesLeast 106 [.ref 29, .int (nI t), .null, .int (nI a), .int (nI b), .int (nI i), .null, .null] [] μ1 Q) (I := fun i μ1 => kL 37 μ μ1 ∧ GR 37 48 R C (fun r c => if c < i then W (swp t a r) c else W r c) μ1) C ?_ ?_ 0 (by omega) μ ⟨kL_rf, GR_c (RW_g h) (fun r c _ _ => by rw [if_neg (by omega)])⟩
    · intro μ1 ⟨k1, k2⟩
      refine Tr_X7_takesLeast_106 ?_
      rw [kL_i k1, h.2.1]
      refine ⟨fun _ => ?_, fun g => absurd (nI_le (Nat.le_refl _) (by omega)) g⟩
      refine upto1 (G := fun i μ2 => Good l ω M_X7_takesLeast 176 [.ref 29, .int (nI t), .null, .null, .int (nI b), .int (nI i), .null, .null] [] μ2 Q) (I := fun i μ2 => kL 37 μ μ2 ∧ GR 37 48 R C (fun r c => if r < i then W (swp t a r) (swp t b c) else W (swp t a r) c) μ2) R ?_ ?_ 0 (by omega) μ1 ⟨k1, GR_c k2 (fun r c _ hc => by rw [if_pos hc, if_neg (by omega)])⟩
      · intro μ2 ⟨j1, j2⟩
        refine Tr_X7_takesLeast_176 ?_
        rw [kL_i j1, h.1]
        exact ⟨fun _ => Or.inr ⟨rfl, j1, a, b, a1, a2, a3, a4, a5, a6, a7, RW_n h j1 (GR_c j2 (fun r c hr _ => by rw [if_pos hr])) (fun r c hr hc => RW_b h (swp_lt htR a2 hr) (swp_lt htC a4 hc))⟩, fun g => absurd (nI_le (Nat.le_refl _) (by omega)) g⟩
      · intro i μ2 hi ⟨j1, j2⟩ ih
        have ga := j2 i b hi a4
        have gt := j2 i t hi htC
        refine Tr_X7_takesLeast_176 ?_
        rw [kL_i j1, h.1, pk_mul, nI_add, nI_add, nI_add, Nat.mul_comm 48, cl_n (n := i * 48 + b) (by omega), cl_n (n := i * 48 + t) (by omega), ga, gt]
        have n1 : inb 37 2 (nI (i * 48 + b)) = true := inb_n (n := 2304) rfl (by omega) (by decide)
        have n2 : inb 37 2 (nI (i * 48 + t)) = true := inb_n (n := 2304) rfl (by omega) (by decide)
        refine ⟨fun g => absurd g (nI_ge hi (by omega)), fun _ => ⟨n1, n2, n1, n2, ih _ ⟨kL_tr j1 (kL_tr kL_wl kL_wl), GR_c (GR_wl (GR_wl j2 hC a4) hC htC) (fun r c hr hc => ?_)⟩⟩⟩
        by_cases hri : r = i
        · subst hri
          dsimp only
          rw [if_neg (Nat.lt_irrefl r), if_neg (Nat.lt_irrefl r), if_neg (Nat.lt_irrefl r), if_pos (Nat.lt_succ_self r)]
          by_cases hct : c = t
          · rw [if_pos ⟨rfl, hct⟩, hct, swp_l]
          · rw [if_neg (fun q => hct q.2)]
            by_cases hcb : c = b
            · rw [if_pos ⟨rfl, hcb⟩, hcb, swp_r]
            · rw [if_neg (fun q => hcb q.2), swp_o hct hcb]
        · rw [if_neg (fun q => hri q.1), if_neg (fun q => hri q.1)]
          by_cases hlt : r < i
          · rw [if_pos hlt, if_pos (by omega)]
          · rw [if_neg hlt, if_neg (by omega)]
    · intro i μ1 hi ⟨k1, k2⟩ ih
      have ga := k2 a i a2 hi
      have gt := k2 t i htR hi
      refine Tr_X7_takesLeast_106 ?_
      rw [kL_i k1, h.2.1, pk_mul, pk_mul, nI_add, nI_add, nI_add, Nat.mul_comm 48, Nat.mul_comm 48, cl_n (n := a * 48 + i) (by omega), cl_n (n := t * 48 + i) (by omega), ga, gt]
      have n1 : inb 37 2 (nI (a * 48 + i)) = true := inb_n (n := 2304) rfl (by omega) (by decide)
      have n2 : inb 37 2 (nI (t * 48 + i)) = true := inb_n (n := 2304) rfl (by omega) (by decide)
      refine ⟨fun g => absurd g (nI_ge hi (by omega)), fun _ => ⟨n1, n2, n1, n2, ih _ ⟨kL_tr k1 (kL_tr kL_wl kL_wl), GR_c (GR_wl (GR_wl k2 hC hi) hC hi) (fun r c hr hc => ?_)⟩⟩⟩
      by_cases hci : c = i
      · subst hci
        dsimp only
        rw [if_neg (Nat.lt_irrefl c), if_neg (Nat.lt_irrefl c), if_neg (Nat.lt_irrefl c), if_pos (Nat.lt_succ_self c)]
        by_cases hct : r = t
        · rw [if_pos ⟨hct, rfl⟩, hct, swp_l]
        · rw [if_neg (fun q => hct q.1)]
          by_cases hcb : r = a
          · rw [if_pos ⟨hcb, rfl⟩, hcb, swp_r]
          · rw [if_neg (fun q => hcb q.1), swp_o hct hcb]
      · rw [if_neg (fun q => hci q.2), if_neg (fun q => hci q.2)]
        by_cases hlt : c < i
        · rw [if_pos hlt, if_pos (by omega)]
        · rw [if_neg hlt, if_neg (by omega)]
  -- the scan
  refine upto1 (σ := Int32) (G := fun i x => t ≤ i → Good l ω M_X7_takesLeast 5 [.ref 29, .int (nI t), .int x, .int (nI i), .null, .null, .null, .null] [] μ Q) (I := fun i x => bst (fun r _ => r < i) x) R ?_ ?_ t (by omega) (-109) (Or.inl ⟨rfl, fun r c q1 _ _ _ q5 => absurd q5 (by omega)⟩) (Nat.le_refl _)
  · intro x hb _
    refine Tr_X7_takesLeast_5 ?_
    rw [h.1]
    refine ⟨fun _ => ?_, fun g => absurd (nI_le (Nat.le_refl _) (by omega)) g⟩
    rcases hb with ⟨h1, h2⟩ | ⟨a, b, h1, h2, h3, h4, h5, h6, h7, h8⟩
    · rw [h1]
      exact ⟨fun g => absurd g (by decide), fun _ => Or.inl ⟨rfl, rfl, fun r c q1 q2 q3 q4 => h2 r c q1 q2 q3 q4 q2⟩⟩
    · rw [h1, d48 _ (by omega), show (a * 48 + b) / 48 = a by omega, pk_mul, pk_sub (by omega), show a * 48 + b - a * 48 = b by omega]
      exact ⟨fun _ => swaps a b h2 h3 h4 h5 h6.1 (fun r c q1 q2 q3 q4 q5 => h7 r c q1 q2 q3 q4 q2 q5) (h8 htR), fun g => absurd (nI_pos' (by omega)) g⟩
  · intro i x hi hb ih hti
    refine Tr_X7_takesLeast_5 ?_
    rw [h.1]
    refine ⟨fun g => absurd g (nI_ge hi (by omega)), fun _ => ?_⟩
    refine upto1 (σ := Int32) (G := fun j x => t ≤ j → Good l ω M_X7_takesLeast 16 [.ref 29, .int (nI t), .int x, .int (nI i), .int (nI j), .null, .null, .null] [] μ Q) (I := fun j x => bst (fun r c => r < i ∨ (r = i ∧ c < j)) x) C ?_ ?_ t (by omega) x (bst_c _ _ x (fun r c _ _ _ _ => by omega) hb) (Nat.le_refl _)
    · intro x hb2 _
      refine Tr_X7_takesLeast_16 ?_
      rw [h.2.1, nI_add]
      exact ⟨fun _ => ih x (bst_c _ _ x (fun r c _ _ _ _ => by omega) hb2) (by omega), fun g => absurd (nI_le (Nat.le_refl _) (by omega)) g⟩
    · intro j x hj hb2 ih2 htj
      have gj := RW_g h i j hi hj
      have bj := RW_b h hi hj
      have keep : W i j = 0 → bst (fun r c => r < i ∨ (r = i ∧ c < j + 1)) x := by
        intro hz
        rcases hb2 with ⟨h1, h2⟩ | ⟨a, b, h1, h2, h3, h4, h5, h6, h7, h8⟩
        · refine Or.inl ⟨h1, fun r c q1 q2 q3 q4 q5 => ?_⟩
          by_cases hq : r = i ∧ c = j
          · rw [hq.1, hq.2]; exact hz
          · exact h2 r c q1 q2 q3 q4 (by omega)
        · refine Or.inr ⟨a, b, h1, h2, h3, h4, h5, ⟨h6.1, by have := h6.2; omega⟩, fun r c q1 q2 q3 q4 q5 q6 => ?_, fun q5 q6 => ?_⟩
          · by_cases hq : r = i ∧ c = j
            · rw [hq.1, hq.2] at q6; exact absurd hz q6
            · exact h7 r c q1 q2 q3 q4 (by omega) q6
          · by_cases hq : t = i ∧ t = j
            · have e : W t t = W i j := by rw [← hq.1, ← hq.2]
              rw [e] at q6; exact absurd hz q6
            · exact h8 (by omega) q6
      refine Tr_X7_takesLeast_16 ?_
      have c0 : lg_cmp (lI (W i j)) (lN 0) = 0 ↔ W i j = ((0 : Nat) : Int) := by rw [lN_I]; exact cmp_0 (by omega) (by omega) (by decide) (by decide)
      have n1 : inb 37 2 (nI (i * 48 + j)) = true := inb_n (n := 2304) rfl (by omega) (by decide)
      rw [h.2.1, pk_mul, nI_add, nI_add, nI_add, Nat.mul_comm 48, cl_n (by omega), gj, c0]
      refine ⟨fun g => absurd g (nI_ge hj (by omega)), fun _ => ⟨n1, fun g => ih2 x (keep g) (by omega), fun g => ?_⟩⟩
      rcases hb2 with ⟨h1, h2⟩ | ⟨a, b, h1, h2, h3, h4, h5, h6, h7, h8⟩
      · rw [h1]
        refine ⟨fun _ => ih2 _ (Or.inr ⟨i, j, rfl, hti, hi, htj, hj, ⟨g, by omega⟩, fun r c q1 q2 q3 q4 q5 q6 => ?_, fun q5 q6 => ?_⟩) (by omega), fun w => absurd (by decide) w⟩
        · by_cases hq : r = i ∧ c = j
          · rw [hq.1, hq.2]; exact Int.le_refl _
          · exact absurd (h2 r c q1 q2 q3 q4 (by omega)) q6
        · by_cases hq : t = i ∧ t = j
          · exact Or.inl ⟨hq.1.symm, hq.2.symm⟩
          · exact absurd (h2 t t (Nat.le_refl _) htR (Nat.le_refl _) htC (by omega)) q6
      · have gb := RW_g h a b h3 h5
        have bb := RW_b h h3 h5
        rw [h1, cl_n (by omega), gb, cmp_ge (by omega) (by omega) (by omega) (by omega)]
        refine ⟨fun w => absurd w (nI_pos (by omega)), fun _ => ⟨n1, inb_n (n := 2304) rfl (by omega) (by decide), fun w => ?_, fun w => ?_⟩⟩
        · refine ih2 _ (Or.inr ⟨a, b, rfl, h2, h3, h4, h5, ⟨h6.1, by have := h6.2; omega⟩, fun r c q1 q2 q3 q4 q5 q6 => ?_, fun q5 q6 => ?_⟩) (by omega)
          · by_cases hq : r = i ∧ c = j
            · rw [hq.1, hq.2]; exact w
            · exact h7 r c q1 q2 q3 q4 (by omega) q6
          · by_cases hq : t = i ∧ t = j
            · have := h6.2; omega
            · exact h8 (by omega) q6
        · refine ih2 _ (Or.inr ⟨i, j, rfl, hti, hi, htj, hj, ⟨g, by omega⟩, fun r c q1 q2 q3 q4 q5 q6 => ?_, fun q5 q6 => ?_⟩) (by omega)
          · by_cases hq : r = i ∧ c = j
            · rw [hq.1, hq.2]; exact Int.le_refl _
            · have := h7 r c q1 q2 q3 q4 (by omega) q6; omega
          · by_cases hq : t = i ∧ t = j
            · exact Or.inl ⟨hq.1.symm, hq.2.symm⟩
            · rcases h8 (by omega) q6 with w2 | w2
              · right; rw [w2.1, w2.2] at w; omega
              · right; omega
end WK

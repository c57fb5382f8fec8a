/-! the factors below the rank -/
def isFac (S : SS) (n d : Nat) (f : Nat → Nat) : Prop := 0 < d ∧ (∃ π J : Nat → Nat, (∀ i, i < rkN S n → π i < nR S n ∧ J i < nC S n) ∧ (det (rkN S n) (fun i c => bdM S n (π i) (J c))).natAbs = d) ∧ (∀ i, i < rkN S n → f i ∣ d) ∧ (∀ i j, i < j → j < rkN S n → f i ∣ f j) ∧ ∀ (t i : Nat), i < rkN S n → t ∣ d → (t ∣ f i ↔ Phi t i (nR S n) (nC S n) (bdM S n))
theorem fac_dv {S : SS} {n d d' : Nat} {f f' : Nat → Nat} (h : isFac S n d f) (h' : isFac S n d' f') {i : Nat} (hi : i < rkN S n) : f i ∣ f' i := by
  obtain ⟨-, -, a3, a4, a5⟩ := h
  obtain ⟨-, ⟨π, J, b1, b2⟩, b3, b4, b5⟩ := h'
  have p1 := (a5 (f i) i hi (a3 i hi)).mp (Nat.dvd_refl _)
  have p2 := Int.natAbs_dvd_natAbs.mpr (sub_dvd p1 hi b1)
  rw [Int.natAbs_natCast, b2] at p2
  exact (b5 (f i) i hi p2).mpr p1
theorem fac_un {S : SS} {n d d' : Nat} {f f' : Nat → Nat} (h : isFac S n d f) (h' : isFac S n d' f') {i : Nat} (hi : i < rkN S n) : f i = f' i := Nat.dvd_antisymm (fac_dv h h' hi) (fac_dv h' h hi)
noncomputable def facN (S : SS) (n : Nat) : Nat → Nat := @dite (Nat → Nat) (∃ f d, isFac S n d f) (Classical.propDecidable _) (fun h => Classical.choose h) (fun _ _ => 1)
theorem fac_is {S : SS} {n d : Nat} {f : Nat → Nat} (h : isFac S n d f) {i : Nat} (hi : i < rkN S n) : facN S n i = f i := by
  have hh : ∃ f d, isFac S n d f := ⟨f, d, h⟩
  have e : facN S n = Classical.choose hh := dif_pos hh
  obtain ⟨d', h'⟩ := Classical.choose_spec hh
  rw [e]
  exact fac_un h' h hi
theorem chain_iff {R C n : Nat} {h : Nat → Nat} (hn : n ≤ R) (hn' : n ≤ C) (hch : ∀ i j, i < j → j < n → h i ∣ h j) (t : Nat) {i : Nat} (hi : i < n) : t ∣ h i ↔ Phi t i R C (dgM (wf h n)) := by
  constructor
  · intro q
    refine Phi_zer (w := wf h n) (fun r c hr hc => ?_)
    unfold dgM
    by_cases hrc : r = c
    · rw [if_pos hrc]
      by_cases hri : r < i
      · rw [if_pos ⟨hrc, hri⟩]; exact ⟨0, by omega⟩
      · rw [if_neg (fun w => hri w.2), Int.sub_zero]
        unfold wf
        by_cases hrn : r < n
        · rw [if_pos hrn]
          have : t ∣ h r := by
            by_cases hie : i = r
            · rw [← hie]; exact q
            · exact Nat.dvd_trans q (hch i r (by omega) hrn)
          exact Int.ofNat_dvd.mpr this
        · rw [if_neg hrn]; exact ⟨0, by omega⟩
    · rw [if_neg hrc, if_neg (fun w => hrc w.1)]; exact ⟨0, by omega⟩
  · intro q
    have := Phi_fac (F := (h i : Int)) (w := wf h n) (by omega) (by omega) q (fun r c _ _ => ⟨0, by omega⟩) (fun j hj => ⟨((h i / h j : Nat) : Int), ⟨0, by
      unfold wf
      rw [if_pos (by omega), ← Int.natCast_mul]
      have : h j ∣ h i := by
        by_cases hie : j = i
        · rw [hie]; exact Nat.dvd_refl _
        · exact hch j i (by omega) hi
      rw [Nat.div_mul_cancel this]; omega⟩⟩)
    exact Int.ofNat_dvd.mp this
theorem diag_gcd {R C n m : Nat} {e : Nat → Nat} (hm : 0 < m) (hn : ∀ i, i < R → i < C → i < n) : EQ m R C (dgM (fun i => (e i : Int))) (dgM (wf (fun i => Nat.gcd m (e i)) n)) := by
  intro t ht j
  constructor
  · intro q
    obtain ⟨s, hs⟩ := cho (n := R) (P := fun i s => (m : Int) ∣ ((Nat.gcd m (e i) : Nat) : Int) - s * e i) (fun i _ => by
      obtain ⟨x, y, hxy⟩ := bez (e i) m
      exact ⟨y, ⟨x, by rw [← hxy]; grind⟩⟩)
    refine Phi_row (fun r => r) (fun r => r) s (fun _ => 0) (fun r hr => ⟨hr, hr⟩) (fun r c hr hc => ?_) q
    unfold dgM
    by_cases hrc : r = c
    · subst hrc
      simp only [if_true]
      unfold wf
      rw [if_pos (hn r hr hc), Int.zero_mul, Int.add_zero]
      exact Int.dvd_trans ht (hs r hr)
    · simp only [hrc, if_false]; exact ⟨0, by grind⟩
  · intro q
    refine Phi_row (fun r => r) (fun r => r) (fun r => ((e r / Nat.gcd m (e r) : Nat) : Int)) (fun _ => 0) (fun r hr => ⟨hr, hr⟩) (fun r c hr hc => ?_) q
    unfold dgM
    by_cases hrc : r = c
    · subst hrc
      simp only [if_true]
      unfold wf
      rw [if_pos (hn r hr hc), Int.zero_mul, Int.add_zero, ← Int.natCast_mul, Nat.div_mul_cancel (Nat.gcd_dvd_right _ _)]
      exact ⟨0, by omega⟩
    · simp only [hrc, if_false]; exact ⟨0, by grind⟩
section FF
variable {l : Launch} {ω : Wd} {μ : Mm} {S T : SS} {D : DD}
theorem RX_w23 {R C m k : Nat} {E : MX} {v : Int64} (h : RX R C m E μ) : RX R C m E (ss_wl μ 23 k v) := ⟨h.1, h.2.1, by rw [rl_wl, if_neg (by omega)]; exact h.2.2.1, fun r c hr hc => ⟨by rw [rl_wl, if_neg (by omega)]; exact (h.2.2.2 r c hr hc).1, (h.2.2.2 r c hr hc).2⟩⟩
theorem kL_X {p : Nat} {μ' : Mm} (h : kL p μ μ') : kX μ μ' := ⟨fun q k _ => kL_i h q k, h.2.1⟩
theorem min_n {a b : Nat} (ha : a < 2 ^ 31) (hb : b < 2 ^ 31) : (if nI a < nI b then nI a else nI b) = nI (min a b) := by
  by_cases h : a < b
  · rw [if_pos (nI_lt h hb), Nat.min_eq_left (by omega)]
  · rw [if_neg (nI_nlt (by omega) ha), Nat.min_eq_right (by omega)]
theorem c_findFactors {t n : Nat} (ht : cel t) (hV : VS S) (hR : RC t S μ) (h1 : 1 ≤ n) (h5 : n ≤ 5) : Ctr l ω M_X2_findFactors [.ref 21, .ref t, .int (nI n)] μ (fun v μ' => v = none ∧ kX μ μ' ∧ ss_i μ' 21 2 = nI (rkN S n) ∧ rkN S n ≤ 24 ∧ (∀ i, i < rkN S n → ss_l μ' 23 i = lI (facN S n i)) ∧ (n ≤ 4 → ∃ d f, isFac S n d f)) := by
  refine Ct_X2_findFactors ?_
  rw [lN_I]
  by_cases h4 : n ≤ 4
  · refine ex_q (c_load ht hV hR h1 h4 (by decide) (by decide)) (fun v μ1 hq => ?_)
    obtain ⟨rfl, a1, a2, -⟩ := hq
    refine Tr_X2_findFactors_12 (ex_q (c_elim rfl hV h1 h4 a1) (fun v μ2 hq => ?_))
    obtain ⟨rfl, b1, b2, b3, π, J, b4, b5, b6⟩ := hq
    have ht9 : t + 2 < 21 := by rcases ht with rfl | rfl | rfl <;> decide
    have bd := bd_bound S (m := rkN S n) h1 h4 π J
    have b24 := pow_24 b2.1.1
    have d0 : 0 < (det (rkN S n) (fun i c => bdM S n (π i) (J c))).natAbs := Int.natAbs_pos.mpr b5
    have eD : ∃ d, (det (rkN S n) (fun i c => bdM S n (π i) (J c))).natAbs = d := ⟨_, rfl⟩
    obtain ⟨d, hd⟩ := eD
    rw [hd] at b6 d0 bd
    refine Tr_X2_findFactors_16 ?_
    rw [b6]
    refine ex_q (c_load (m := d) ht hV (RC_same hR (fun q k hq => by rw [b1.1 q k (by omega), a2.1 q k (by omega)])) h1 h4 d0 (by omega)) (fun v μ3 hq => ?_)
    obtain ⟨rfl, c1, c2, c3⟩ := hq
    refine Tr_X2_findFactors_29 ?_
    have h48 := hV.1
    have hRC : nR S n + nC S n ≤ sn S := cnt_two S n h1 (sn S)
    have HBd : HB (nR S n) (nC S n) d := HB_n hV h1 d0 (by omega)
    rw [show ss_i μ3 22 2 = nI (nR S n) from c1.1, show ss_i μ3 22 3 = nI (nC S n) from c1.2.1, min_n (a := nC S n) (b := nR S n) (by omega) (by omega)]
    refine Tr_X2_findFactors_46 ?_
    have hmn1 : min (nC S n) (nR S n) ≤ nC S n := Nat.min_le_left _ _
    have hmn2 : min (nC S n) (nR S n) ≤ nR S n := Nat.min_le_right _ _
    have hmn3 : ∀ i, i < nR S n → i < nC S n → i < min (nC S n) (nR S n) := fun i q w => Nat.lt_min.mpr ⟨w, q⟩
    generalize hsz : min (nC S n) (nR S n) = sz at *
    refine upto1 (G := fun i μ4 => Good l ω M_X2_findFactors 50 [.ref 21, .null, .null, .int (nI sz), .int (nI i)] [] μ4 _) (I := fun i μ4 => kX μ μ4 ∧ ss_i μ4 21 2 = nI (rkN S n) ∧ ss_l μ4 21 3 = lI d ∧ ∃ E : MX, RX (nR S n) (nC S n) d E μ4 ∧ EQ d (nR S n) (nC S n) (bdM S n) E ∧ ClE E i (nR S n) (nC S n) ∧ ∀ j, j < i → ss_l μ4 23 j = lI ((Nat.gcd d (E j j).toNat : Nat) : Int)) sz ?_ ?_ 0 (by omega) μ3 ⟨kX_tr a2 (kX_tr b1 c2), by rw [c3.1]; exact b3, by rw [c3.2]; exact b6, _, c1, EQ_sy (EQ_mod (fun r c _ _ => bdR_d n d r c)), fun r c _ _ _ w => absurd w (by omega), fun j hj => absurd hj (Nat.not_lt_zero j)⟩
    · intro μ4 ⟨k1, k2, k3, E, k4, k5, k6, k7⟩
      refine Tr_X2_findFactors_50 ⟨fun _ => ex_q (c_order (m := d) (f := fun j => Nat.gcd d (E j j).toNat) (by omega) d0 (by omega) k7 (fun j _ => Nat.gcd_dvd_left _ _)) (fun v μ5 hq => ?_), fun g => absurd (nI_le (Nat.le_refl _) (by omega)) g⟩
      obtain ⟨rfl, g1, h, g2, g3, g4, g5⟩ := hq
      have eE : EQ d (nR S n) (nC S n) E (dgM (fun i => ((E i i).toNat : Int))) := EQ_c (fun r c hr hc => by
        unfold dgM
        by_cases hrc : r = c
        · subst hrc
          rw [if_pos rfl]
          exact (Int.toNat_of_nonneg (RX_b k4 hr hc).1).symm
        · rw [if_neg hrc]
          refine k6 r c hr hc hrc ?_
          rcases Nat.lt_or_ge r sz with q | q
          · exact Or.inl q
          · rcases Nat.lt_or_ge c sz with w | w
            · exact Or.inr w
            · omega)
      have fac : isFac S n d h := ⟨d0, ⟨π, J, b4, hd⟩, fun i hi => g3 i (by have := b2.1; omega), fun i j hij hj => g4 i j hij (by have := b2.1; omega), fun t' i hi ht' => by
        have hi' : i < sz := by have := b2.1; omega
        rw [chain_iff hmn2 hmn1 g4 t' hi']
        have td : (t' : Int) ∣ (d : Int) := Int.ofNat_dvd.mpr ht'
        exact (g5 _ _ hmn2 hmn1 t' i).symm.trans (((diag_gcd d0 hmn3) t' td i).symm.trans ((eE t' td i).symm.trans (k5 t' td i).symm))⟩
      refine Tr_X2_findFactors_98 ⟨rfl, kX_tr k1 (kL_X g1), by rw [kL_i g1]; exact k2, b2.1.1, fun i hi => by rw [fac_is fac hi]; exact g2 i (by have := b2.1; omega), fun _ => ⟨d, h, fac⟩⟩
    · intro i μ4 hi ⟨k1, k2, k3, E, k4, k5, k6, k7⟩ ih
      have hiR : i < nR S n := by omega
      have hiC : i < nC S n := by omega
      refine Tr_X2_findFactors_50 ⟨fun g => absurd g (nI_ge hi (by omega)), fun _ => ex_q (c_isolatePivot HBd (by omega) k4 hiR hiC k6) (fun v μ5 hq => ?_)⟩
      obtain ⟨rfl, g1, E', g2, g3, g4, g5⟩ := hq
      have ix := rc_ix HBd.1 hiR hiC
      have be := RX_b g2 hiR hiC
      have ee : E' i i = ((E' i i).toNat : Int) := (Int.toNat_of_nonneg be.1).symm
      refine Tr_X2_findFactors_62 ?_
      have e21 : ss_l μ5 21 3 = lI d := by rw [g1.2.2 21 3 (by decide)]; exact k3
      rw [g2.2.1, pk_mul, nI_add, cl_n (by omega), RX_g g2 i i hiR hiC, e21, ee]
      refine ⟨inb_n (n := 576) rfl ix (by decide), ex_l (c_gcd (by omega) (by omega)) (Tr_X2_findFactors_86 ?_)⟩
      rw [cl_n (by omega), nI_add]
      refine ⟨inb_n (n := 48) rfl (by omega) (by decide), ih _ ⟨kX_tr k1 (kX_tr (kE_X g1) kX_wl), by rw [ri_wl, kE_i g1]; exact k2, by rw [rl_wl, if_neg (by omega)]; exact e21, E', RX_w23 g2, EQ_tr k5 g3, fun r c hr hc hne hw => ?_, fun j hj => ?_⟩⟩
      · by_cases hw' : r < i ∨ c < i
        · rw [g5 r c hr hc hw']; exact k6 r c hr hc hne hw'
        · by_cases hri : r = i
          · rw [hri]; exact g4.2 c (by omega) hc
          · rw [show c = i by omega]; exact g4.1 r (by omega) hr
      · rw [rl_wl]
        by_cases hji : j = i
        · rw [if_pos ⟨rfl, hji⟩, hji]
        · rw [if_neg (fun q => hji q.2), g1.2.2 23 j (by decide), g5 j j (by omega) (by omega) (by omega)]
          exact k7 j (by omega)
  · have h' : n = 0 ∨ n = 5 := by omega
    have rk0 : rkN S n = 0 := rkN_0 h'
    refine ex_q (c_loadX ht hV hR h' (by decide) (by decide)) (fun v μ1 hq => ?_)
    obtain ⟨rfl, ⟨R, C, z1, z2, z3, a1⟩, a2, -⟩ := hq
    refine Tr_X2_findFactors_12 (ex_q (elim_X rfl z1 z2 z3 a1) (fun v μ2 hq => ?_))
    obtain ⟨rfl, b1, b3, b4⟩ := hq
    have ht9 : t + 2 < 21 := by rcases ht with rfl | rfl | rfl <;> decide
    refine Tr_X2_findFactors_16 ?_
    rw [b4]
    refine ex_q (c_loadX (m := 1) ht hV (RC_same hR (fun q k hq => by rw [b1.1 q k (by omega), a2.1 q k (by omega)])) h' (by decide) (by decide)) (fun v μ3 hq => ?_)
    obtain ⟨rfl, ⟨R', C', y1, y2, y3, c1⟩, c2, c3⟩ := hq
    refine Tr_X2_findFactors_29 ?_
    have hmn : min C' R' = 0 := by
      rcases Nat.mul_eq_zero.mp y1 with q | q
      · rw [q]; exact Nat.min_zero _
      · rw [q]; exact Nat.zero_min _
    rw [c1.1, c1.2.1, min_n (by omega) (by omega), hmn]
    refine Tr_X2_findFactors_46 (Tr_X2_findFactors_50 ⟨fun _ => ex_q (c_order (m := 1) (n := 0) (f := fun _ => 1) (by omega) (by omega) (by decide) (fun j hj => absurd hj (Nat.not_lt_zero j)) (fun j hj => absurd hj (Nat.not_lt_zero j))) (fun v μ5 hq => ?_), fun g => absurd (by decide) g⟩)
    obtain ⟨rfl, g1, -⟩ := hq
    exact Tr_X2_findFactors_98 ⟨rfl, kX_tr a2 (kX_tr b1 (kX_tr c2 (kL_X g1))), by rw [kL_i g1, c3.1, b3, rk0], by omega, fun i hi => by omega, fun q => absurd q h4⟩
/-- how many are 1 -/
def unN (f : Nat → Nat) : Nat → Nat
  | 0 => 0
  | k + 1 => unN f k + if f k = 1 then 1 else 0
theorem un_le (f : Nat → Nat) : ∀ k, unN f k ≤ k
  | 0 => Nat.le_refl _
  | k + 1 => by have := un_le f k; rw [unN]; split <;> omega
theorem un_ch {f : Nat → Nat} : ∀ {k : Nat}, (∀ i j, i < j → j < k → f i ∣ f j) → (∀ i, i < unN f k → f i = 1) ∧ ∀ i, unN f k ≤ i → i < k → f i ≠ 1
  | 0, _ => ⟨fun i hi => absurd hi (Nat.not_lt_zero i), fun i _ hi => absurd hi (Nat.not_lt_zero i)⟩
  | k + 1, h => by
    obtain ⟨h1, h2⟩ := un_ch (k := k) (fun i j a b => h i j a (by omega))
    rw [unN]
    by_cases hk : f k = 1
    · rw [if_pos hk]
      have hu : unN f k = k := by
        rcases Nat.lt_or_ge (unN f k) k with q | q
        · have h3 := h2 _ (Nat.le_refl _) q
          have h4 := h _ k q (by omega)
          rw [hk] at h4
          exact absurd (Nat.dvd_one.mp h4) h3
        · have := un_le f k; omega
      refine ⟨fun i hi => ?_, fun i hi => by omega⟩
      by_cases hik : i = k
      · rw [hik]; exact hk
      · exact h1 i (by omega)
    · rw [if_neg hk]
      refine ⟨fun i hi => h1 i hi, fun i hi hi2 => ?_⟩
      by_cases hik : i = k
      · rw [hik]; exact hk
      · exact h2 i hi (by omega)
theorem c_unitFactors {k : Nat} {f : Nat → Nat} (hk : k ≤ 24) (hr : ss_i μ 21 2 = nI k) (hf : ∀ i, i < k → ss_l μ 23 i = lI (f i)) (hb : ∀ i, i < k → f i < 2 ^ 46) : CtrP l ω M_X2_unitFactors [.ref 21] μ (nI (unN f k)) := by
  refine Ct_X2_unitFactors ?_
  refine upto0 (G := fun i => Good l ω M_X2_unitFactors 4 [.ref 21, .int (nI (unN f i)), .int (nI i)] [] μ (fun v μ' => v = some (.int (nI (unN f k))) ∧ μ' = μ)) k ?_ ?_ 0 (by omega)
  · refine Tr_X2_unitFactors_4 ?_
    rw [hr]
    exact ⟨fun _ => ⟨rfl, rfl⟩, fun g => absurd (nI_le (Nat.le_refl _) (by omega)) g⟩
  · intro i hi h
    have b := hb i hi
    refine Tr_X2_unitFactors_4 ?_
    rw [hr, cl_n (by omega), hf i hi, lN_I, cmp_0 (by omega) (by omega) (by decide) (by decide), nI_add, nI_add]
    refine ⟨fun g => absurd g (nI_ge hi (by omega)), fun _ => ⟨inb_n (n := 48) rfl (by omega) (by decide), fun g => ?_, fun g => ?_⟩⟩
    · rw [unN, if_neg (by omega), Nat.add_zero] at h; exact h
    · have g' := Decidable.not_not.mp g
      rw [unN, if_pos (by omega)] at h; exact h
end FF

/-! the rank of a boundary matrix; the class's -/
theorem cnt_z {S : SS} {d : Nat} : ∀ {e : Nat}, (∀ c, c < e → sd S c ≠ d) → cntN S d e = 0
  | 0, _ => rfl
  | e + 1, h => by rw [cntN, if_neg (h e (by omega)), cnt_z (fun c hc => h c (by omega))]
section LX
variable {l : Launch} {ω : Wd} {μ : Mm} {S T : SS} {D : DD}
theorem c_loadX {t n m : Nat} (ht : cel t) (hV : VS S) (hR : RC t S μ) (hn : n = 0 ∨ n = 5) (m0 : 0 < m) (m47 : m < 2 ^ 47) : Ctr l ω M_X5_load [.ref 22, .ref t, .int (nI n), .long (lI m)] μ (fun v μ' => v = none ∧ (∃ R C, R * C = 0 ∧ R ≤ 48 ∧ C ≤ 48 ∧ RX R C m (fun _ _ => 0) μ') ∧ kX μ μ' ∧ k21 μ μ') := by
  have h48 := hV.1
  have ht9 : t + 2 < 10 := by rcases ht with rfl | rfl | rfl <;> decide
  have hC48 := cnt_le S n (sn S)
  obtain ⟨dR, hdR, hz⟩ : ∃ dR, (∀ c, c < sn S → (nI (sd S c) = nI n - nI 1 ↔ sd S c = dR)) ∧ cntN S dR (sn S) * cntN S n (sn S) = 0 := by
    rcases hn with rfl | rfl
    · refine ⟨7, fun c hc => ?_, ?_⟩
      · have h1 := (hV.2 c hc).1
        have h2 : ∀ k, k < 5 → ¬ nI k = nI 0 - nI 1 := by decide
        exact ⟨fun q => absurd q (h2 _ (by omega)), fun q => by omega⟩
      · rw [cnt_z (fun c hc => by have := (hV.2 c hc).1; omega), Nat.zero_mul]
    · refine ⟨4, fun c hc => ?_, ?_⟩
      · have h1 := (hV.2 c hc).1
        rw [nI_sub1 (by omega), nI_eq (by omega) (by omega)]
      · rw [cnt_z (d := 5) (fun c hc => by have := (hV.2 c hc).1; omega), Nat.mul_zero]
  have hR48 := cnt_le S dR (sn S)
  have hmx : (if lI (m : Int) < lN 1 then lN 1 else lI (m : Int)) = lI m := by
    rw [lN_I]
    by_cases h : m = 1
    · subst h; split <;> rfl
    · rw [if_neg (fun q => by have := (lI_lt (by omega) (by omega) (by decide) (by decide)).mp q; omega)]
  refine Ct_X5_load ?_
  rw [hmx]
  refine Tr_X5_load_6 ⟨rfl, ?_⟩
  have hRa : RC t S (ss_wl μ 22 4 (lI m)) := RC_same hR (fun q k _ => rfl)
  refine ex_q (c_numberCells (d := dR) ht hV hRa hdR) (fun v μ1 hq => ?_)
  obtain ⟨rfl, a1, a2, a3, a4⟩ := hq
  refine Tr_X5_load_18 ⟨rfl, ?_⟩
  have hRb : RC t S (ss_wi μ1 22 2 (nI (cntN S dR (sn S)))) := RC_same hR (fun q k hq => by rw [ri_wi, if_neg (by omega), a1 q k (by omega)]; rfl)
  refine ex_q (c_numberCells (d := n) ht hV hRb (fun c hc => by have := (hV.2 c hc).1; rw [nI_eq (by omega) (by omega)])) (fun v μ2 hq => ?_)
  obtain ⟨rfl, b1, b2, b3, b4⟩ := hq
  refine Tr_X5_load_28 ⟨rfl, ?_⟩
  refine ex_q (c_fillL (n := 576) rfl (by decide)) (fun v μ3 hq => ?_)
  obtain ⟨rfl, c1, c2, c3, c4⟩ := hq
  refine Tr_X5_load_39 ?_
  have i3 : ∀ q k, ss_i μ3 q k = ss_i (ss_wi μ2 22 3 (nI (cntN S n (sn S)))) q k := fun q k => by unfold ss_i; rw [c1]
  have out : ∀ q k, (q < 21 ∨ 25 < q) → ss_i μ3 q k = ss_i μ q k := by
    intro q k hq
    rw [i3, ri_wi, if_neg (by omega), b1 q k (by omega), ri_wi, if_neg (by omega), a1 q k (by omega)]; rfl
  have o21 : ∀ k, ss_i μ3 21 k = ss_i μ 21 k := by
    intro k
    rw [i3, ri_wi, if_neg (by omega), b1 21 k (by omega), ri_wi, if_neg (by omega), a1 21 k (by omega)]; rfl
  have l21 : ∀ k, ss_l μ3 21 k = ss_l μ 21 k := by
    intro k
    rw [c3 21 k (by decide)]
    show μ2.2.1 21 k = _
    rw [b2]
    show μ1.2.1 21 k = _
    rw [a2]
    show ss_l (ss_wl μ 22 4 (lI m)) 21 k = _
    rw [rl_wl, if_neg (by omega)]
  have r3 : μ3.2.2 = μ.2.2 := by rw [c2]; show μ2.2.2 = _; rw [b2]; show μ1.2.2 = _; rw [a2]; rfl
  have e2 : ss_i μ3 22 2 = nI (cntN S dR (sn S)) := by rw [i3, ri_wi, if_neg (by omega), b1 22 2 (by decide), ri_wi, if_pos ⟨rfl, rfl⟩]
  have e3 : ss_i μ3 22 3 = nI (cntN S n (sn S)) := by rw [i3, ri_wi, if_pos ⟨rfl, rfl⟩]
  have e4 : ss_l μ3 22 4 = lI m := by
    rw [c3 22 4 (by decide)]
    show μ2.2.1 22 4 = _
    rw [b2]
    show μ1.2.1 22 4 = _
    rw [a2]
    show ss_l (ss_wl μ 22 4 (lI m)) 22 4 = _
    rw [rl_wl, if_pos ⟨rfl, rfl⟩]
  rw [e2, e3, pk_mul]
  refine ⟨fun _ => ?_, fun g => absurd (nI_le (show cntN S dR (sn S) * cntN S n (sn S) ≤ 576 by omega) (by decide)) g⟩
  refine upto0 (G := fun c => Good l ω M_X5_load 68 [.ref 22, .ref t, .int (nI n), .null, .null, .int (nI c)] [] μ3 _) (sn S) ?_ ?_ 0 (by omega)
  · refine Tr_X5_load_68 ?_
    rw [out t 2 (by omega), hR.1]
    refine ⟨cel_o ht, fun _ => ⟨rfl, ⟨_, _, hz, by omega, by omega, e2, e3, e4, fun r c hr hc => ?_⟩, ⟨out, r3⟩, o21, l21⟩, fun g => absurd (nI_le (Nat.le_refl _) (by omega)) g⟩
    have := Nat.mul_pos (show 0 < cntN S dR (sn S) by omega) (show 0 < cntN S n (sn S) by omega)
    omega
  · intro c hc ih
    have hsd := (hV.2 c hc).1
    refine Tr_X5_load_68 ?_
    rw [out t 2 (by omega), hR.1, cel_r0 ht, cl_n (by omega), out (t + 1) c (by omega), (hR.2 c hc).1, nI_eq (by omega) (by omega)]
    refine ⟨cel_o ht, fun g => absurd g (nI_ge hc (by omega)), fun _ => ⟨cel_o ht, inb_n (cel_1 ht) (by omega) (by decide), fun g => Tr_X5_load_95 ?_, fun g => ?_⟩⟩
    · rw [nI_add]; exact ih
    · have hs : sd S c = 0 := by have := Decidable.not_not.mp g; omega
      have hcol : Ctr l ω M_X5_loadColumn [.ref 22, .ref t, .int (nI c)] μ3 (fun v μ' => v = none ∧ μ' = μ3) := by
        refine Ct_X5_loadColumn ?_
        rw [cel_r0 ht, cl_n (by omega), out (t + 1) c (by omega), (hR.2 c hc).1, hs]
        exact ⟨cel_o ht, inb_n (cel_1 ht) (by omega) (by decide), Tr_X5_loadColumn_10 ⟨fun _ => ⟨rfl, rfl⟩, fun g => absurd (by decide) g⟩⟩
      refine ex_q hcol (fun v μ5 hq => ?_)
      obtain ⟨rfl, rfl⟩ := hq
      refine Tr_X5_load_95 ?_
      rw [nI_add]; exact ih
end LX
/-! ranks -/
abbrev nR (S : SS) (n : Nat) : Nat := cntN S (n - 1) (sn S)
abbrev nC (S : SS) (n : Nat) : Nat := cntN S n (sn S)
def isRank (S : SS) (n k : Nat) : Prop := (k ≤ 24 ∧ k ≤ nR S n ∧ k ≤ nC S n) ∧ (∃ π J : Nat → Nat, (∀ i, i < k → π i < nR S n ∧ J i < nC S n) ∧ det k (fun i c => bdM S n (π i) (J c)) ≠ 0) ∧ ∀ (m : Nat) (π J : Nat → Nat), k < m → m ≤ 24 → (∀ i, i < m → π i < nR S n ∧ J i < nC S n) → det m (fun i c => bdM S n (π i) (J c)) = 0
theorem rank_un {S : SS} {n k k' : Nat} (h : isRank S n k) (h' : isRank S n k') : k = k' := by
  rcases Nat.lt_trichotomy k k' with q | q | q
  · obtain ⟨π, J, hb, hd⟩ := h'.2.1
    exact absurd (h.2.2 k' π J q h'.1.1 hb) hd
  · exact q
  · obtain ⟨π, J, hb, hd⟩ := h.2.1
    exact absurd (h'.2.2 k π J q h.1.1 hb) hd
noncomputable def rkN (S : SS) (n : Nat) : Nat := @dite Nat (1 ≤ n ∧ n ≤ 4 ∧ ∃ k, isRank S n k) (Classical.propDecidable _) (fun h => Classical.choose h.2.2) (fun _ => 0)
theorem rkN_is {S : SS} {n k : Nat} (h1 : 1 ≤ n) (h4 : n ≤ 4) (h : isRank S n k) : rkN S n = k := by
  have hh : 1 ≤ n ∧ n ≤ 4 ∧ ∃ k, isRank S n k := ⟨h1, h4, k, h⟩
  have : rkN S n = Classical.choose hh.2.2 := dif_pos hh
  rw [this]
  exact rank_un (Classical.choose_spec hh.2.2) h
theorem rkN_0 {S : SS} {n : Nat} (h : n = 0 ∨ n = 5) : rkN S n = 0 := dif_neg (by omega)
theorem sub_dvd {p k R C m : Nat} {M : MX} {π J : Nat → Nat} (h : Phi p k R C M) (hk : k < m) (hb : ∀ i, i < m → π i < R ∧ J i < C) : (p : Int) ∣ det m (fun i c => M (π i) (J c)) :=
  Phi_det hk (Phi_sub π J (fun r hr => (hb r hr).1) (fun c hc => (hb c hc).2) h)
theorem pow_24 {m : Nat} (h : m ≤ 24) : 3 ^ m ≤ 282429536481 := Nat.le_trans (Nat.pow_le_pow_right (by decide) h) (by decide)
theorem dvd_0 {p : Nat} {x : Int} (h : (p : Int) ∣ x) (hx : x.natAbs < p) : x = 0 := by
  have h1 := Int.natAbs_dvd_natAbs.mpr h
  rw [Int.natAbs_natCast] at h1
  have := Nat.eq_zero_of_dvd_of_lt h1 hx
  omega
theorem n24 {S : SS} (hV : VS S) {n k : Nat} (h1 : 1 ≤ n) (hr : k ≤ nR S n) (hc : k ≤ nC S n) : k ≤ 24 := by
  have : nR S n + nC S n ≤ sn S := cnt_two S n h1 (sn S)
  have := hV.1
  omega
theorem RK_rank {S : SS} {n p k : Nat} {π J : Nat → Nat} (hV : VS S) (h1 : 1 ≤ n) (h4 : n ≤ 4) (hp : 282429536481 < p) (h : RK p (nR S n) (nC S n) (bdM S n) k π J) : isRank S n k := by
  obtain ⟨a1, a2, a3, a4, a5⟩ := h
  refine ⟨⟨n24 hV h1 a1 a2, a1, a2⟩, ⟨π, J, a4, fun q => a5 (by rw [q]; exact ⟨0, by simp⟩)⟩, fun m π' J' hm hm24 hb => ?_⟩
  refine dvd_0 (sub_dvd a3 hm hb) ?_
  have := bd_bound S (m := m) h1 h4 π' J'
  have := pow_24 hm24
  omega
section RX6
variable {l : Launch} {ω : Wd} {μ : Mm} {S T : SS} {D : DD}
theorem HB_n (hV : VS S) {n m : Nat} (h1 : 1 ≤ n) (m0 : 0 < m) (hm : m ≤ 2 ^ 46) : HB (nR S n) (nC S n) m := by
  have h2 : nR S n + nC S n ≤ sn S := cnt_two S n h1 (sn S)
  have h48 := hV.1
  exact ⟨rc_48 (by omega), by omega, by omega, m0, hm⟩
theorem bdR_d (n m : Nat) (r c : Nat) : (m : Int) ∣ bdR S n m r c - bdM S n r c := by
  unfold bdR
  have := Int.emod_add_mul_ediv (bdM S n r c) m
  exact ⟨-(bdM S n r c / m), by rw [Int.mul_neg]; omega⟩
theorem min_d {m d : Nat} {x : Int} (hm : m = 35184372088777) (hd : d < m) (h : (m : Int) ∣ d - x) (hx : x.natAbs ≤ 282429536481) : (if m - d < d then m - d else d) = x.natAbs := by
  obtain ⟨q, hq⟩ := h
  have : q = 0 ∨ q = 1 := by
    rcases Int.lt_trichotomy q 0 with h | h | h
    · have := Int.mul_le_mul_of_nonneg_left (show q ≤ -1 by omega) (show (0 : Int) ≤ m by omega); omega
    · exact Or.inl h
    · rcases Int.lt_trichotomy q 1 with h' | h' | h'
      · omega
      · exact Or.inr h'
      · have := Int.mul_le_mul_of_nonneg_left (show 2 ≤ q by omega) (show (0 : Int) ≤ m by omega); omega
  rcases this with rfl | rfl
  · rw [if_neg (by omega)]; omega
  · rw [if_pos (by omega)]; omega
/-- load and eliminate, dimensions 1 to 4 -/
theorem c_elim {n m : Nat} (hm : m = 35184372088777) (hV : VS S) (h1 : 1 ≤ n) (h4 : n ≤ 4) (h : RX (nR S n) (nC S n) m (bdR S n m) μ) : Ctr l ω M_X2_eliminate [.ref 21] μ (fun v μ' => v = none ∧ kX μ μ' ∧ isRank S n (rkN S n) ∧ ss_i μ' 21 2 = nI (rkN S n) ∧ ∃ (π J : Nat → Nat), (∀ i, i < rkN S n → π i < nR S n ∧ J i < nC S n) ∧ det (rkN S n) (fun i c => bdM S n (π i) (J c)) ≠ 0 ∧ ss_l μ' 21 3 = lI ((det (rkN S n) (fun i c => bdM S n (π i) (J c))).natAbs : Int)) := by
  obtain ⟨Q, hQ, k⟩ := ex_q (G := fun v μ' => v = none ∧ kX μ μ' ∧ isRank S n (rkN S n) ∧ ss_i μ' 21 2 = nI (rkN S n) ∧ ∃ (π J : Nat → Nat), (∀ i, i < rkN S n → π i < nR S n ∧ J i < nC S n) ∧ det (rkN S n) (fun i c => bdM S n (π i) (J c)) ≠ 0 ∧ ss_l μ' 21 3 = lI ((det (rkN S n) (fun i c => bdM S n (π i) (J c))).natAbs : Int)) (c_eliminate (l := l) (ω := ω) (M := bdM S n) hm (HB_n hV h1 (by omega) (by omega)) h (fun r c _ _ => bdR_d n m r c)) (fun v μ' hq => by
    obtain ⟨rfl, a1, k, π, J, d, a2, a3, a4, a5, a6⟩ := hq
    have hr := RK_rank hV h1 h4 (by omega) a2
    have hk := rkN_is h1 h4 hr
    rw [hk]
    have hb := bd_bound S (m := k) h1 h4 π J
    have h24 := pow_24 hr.1.1
    rw [min_d hm a4 a5 (by omega)] at a6
    exact ⟨rfl, a1, hr, a3, π, J, a2.2.2.2.1, fun q => a2.2.2.2.2 (by rw [q]; exact ⟨0, by simp⟩), a6⟩)
  exact ctr_mono hQ k
theorem elim_X {R C m : Nat} (hm : m = 35184372088777) (hz : R * C = 0) (hR : R ≤ 48) (hC : C ≤ 48) (h : RX R C m (fun _ _ => 0) μ) : Ctr l ω M_X2_eliminate [.ref 21] μ (fun v μ' => v = none ∧ kX μ μ' ∧ ss_i μ' 21 2 = nI 0 ∧ ss_l μ' 21 3 = lI 1) := by
  refine ctr_mono (c_eliminate (l := l) (ω := ω) (M := fun _ _ => 0) hm ⟨by omega, hR, hC, by omega, by omega⟩ h (fun r c _ _ => ⟨0, by simp⟩)) (fun v μ' hq => ?_)
  obtain ⟨rfl, a1, k, π, J, d, a2, a3, a4, a5, a6⟩ := hq
  have hk : k = 0 := by
    rcases Nat.mul_eq_zero.mp hz with q | q
    · have := a2.1; omega
    · have := a2.2.1; omega
  subst hk
  rw [min_d hm a4 a5 (by show (1 : Int).natAbs ≤ _; decide)] at a6
  exact ⟨rfl, a1, a3, a6⟩
theorem c_rankOf {t n : Nat} (ht : cel t) (hV : VS S) (hR : RC t S μ) (hn : n ≤ 5) : Ctr l ω M_X2_rankOf [.ref 21, .ref t, .int (nI n)] μ (fun v μ' => v = some (.int (nI (rkN S n))) ∧ kX μ μ') := by
  refine Ct_X2_rankOf ?_
  rw [lN_I]
  by_cases h : 1 ≤ n ∧ n ≤ 4
  · refine ex_q (c_load ht hV hR h.1 h.2 (by decide) (by decide)) (fun v μ1 hq => ?_)
    obtain ⟨rfl, a1, a2, -⟩ := hq
    refine Tr_X2_rankOf_12 (ex_q (c_elim rfl hV h.1 h.2 a1) (fun v μ2 hq => ?_))
    obtain ⟨rfl, b1, b2, b3, b4⟩ := hq
    refine Tr_X2_rankOf_16 ?_
    rw [b3]
    exact ⟨rfl, kX_tr a2 b1⟩
  · have h' : n = 0 ∨ n = 5 := by omega
    refine ex_q (c_loadX ht hV hR h' (by decide) (by decide)) (fun v μ1 hq => ?_)
    obtain ⟨rfl, ⟨R, C, z1, z2, z3, a1⟩, a2, -⟩ := hq
    refine Tr_X2_rankOf_12 (ex_q (elim_X rfl z1 z2 z3 a1) (fun v μ2 hq => ?_))
    obtain ⟨rfl, b1, b3, b4⟩ := hq
    refine Tr_X2_rankOf_16 ?_
    rw [b3, rkN_0 h']
    exact ⟨rfl, kX_tr a2 b1⟩
noncomputable def A_bet (S : SS) (a : Int32) : Int32 := if a < 0 then -102 else if a ≤ nI 4 then nI (cntN S a.toNatClampNeg (sn S)) - nI (rkN S a.toNatClampNeg) - nI (rkN S (a.toNatClampNeg + 1)) else -102
theorem x_betti (hV : VS S) (hI : IC S T D μ) (a : Int32) : Ctr l ω M_X6_betti [.ref 0, .int a] μ (fun v μ' => v = some (.int (A_bet S a)) ∧ kC μ μ') := by
  obtain ⟨p, hp, hr, hR⟩ := IC_pl hI
  have hp9 : p + 2 < 21 := by rcases hp with rfl | rfl | rfl <;> decide
  refine Ct_X6_betti ⟨fun g => ⟨by unfold A_bet; rw [if_pos g], kC_rf⟩, fun g => ⟨fun g2 => ?_, fun g2 => ⟨by unfold A_bet; rw [if_neg g, if_neg g2], kC_rf⟩⟩⟩
  rw [hr]
  obtain ⟨d, hd, rfl⟩ := nI_of2 (M := nI 4) (n := 4) (by decide) g g2
  have eA : A_bet S (nI d) = nI (cntN S d (sn S)) - nI (rkN S d) - nI (rkN S (d + 1)) := by unfold A_bet; rw [if_neg g, if_pos g2, cl_n (by omega)]
  rw [eA]
  refine ⟨cel_o hp, ex_p (c_countOf hp hV hR (by omega)) (Tr_X6_betti_20 ?_)⟩
  rw [hr]
  refine ex_q (c_rankOf hp hV hR (by omega)) (fun v μ1 hq => ?_)
  obtain ⟨rfl, k1⟩ := hq
  refine Tr_X6_betti_32 ?_
  have hr1 : ss_r μ1 0 0 = p := by rw [← hr]; show μ1.2.2 0 = μ.2.2 0; rw [k1.2]
  rw [hr1, nI_add]
  refine ex_q (c_rankOf hp hV (RC_same hR (fun q k hq => k1.1 q k (by omega))) (by omega)) (fun v μ2 hq => ?_)
  obtain ⟨rfl, k2⟩ := hq
  exact Tr_X6_betti_47 ⟨rfl, kX_k (kX_tr k1 k2)⟩
end RX6

/-! the reference's rank; betti -/
theorem RK_un {p R C k k' : Nat} {M : MX} {π J π' J' : Nat → Nat} (h : RK p R C M k π J) (h' : RK p R C M k' π' J') : k = k' := by
  rcases Nat.lt_trichotomy k k' with q | q | q
  · exact absurd (sub_dvd h.2.2.1 q h'.2.2.2.1) h'.2.2.2.2
  · exact q
  · exact absurd (sub_dvd h'.2.2.1 q h.2.2.2.1) h.2.2.2.2
theorem rr_le (S : SS) (n : Nat) : rr S n ≤ nR S n := by
  by_cases h : nC S n = 0
  · have : rr S n = 0 := if_pos h
    rw [this]; exact Nat.zero_le _
  · have : rr S n = nR S n := if_neg h
    rw [this]; exact Nat.le_refl _
theorem RK2_rank {S : SS} {n p q k k' : Nat} {π J π' J' : Nat → Nat} (hV : VS S) (h1 : 1 ≤ n) (h4 : n ≤ 4) (hcp : Nat.Coprime p q) (hpq : 282429536481 < p * q) (h : RK p (rr S n) (nC S n) (bdM S n) k π J) (h' : RK q (rr S n) (nC S n) (bdM S n) k' π' J') (hk : k' ≤ k) : isRank S n k := by
  have hrr := rr_le S n
  obtain ⟨a1, a2, a3, a4, a5⟩ := h
  refine ⟨⟨n24 hV h1 (by omega) a2, by omega, a2⟩, ⟨π, J, fun i hi => ⟨by have := (a4 i hi).1; omega, (a4 i hi).2⟩, fun q => a5 (by rw [q]; exact ⟨0, by simp⟩)⟩, fun m π1 J1 hm hm24 hb => ?_⟩
  have hc0 : nC S n ≠ 0 := fun q => by have := (hb 0 (by omega)).2; omega
  have er : rr S n = nR S n := if_neg hc0
  rw [er] at a3 h'
  have d1 := sub_dvd a3 hm hb
  have d2 := sub_dvd (Phi_le hk h'.2.2.1) hm hb
  have n1 := Int.natAbs_dvd_natAbs.mpr d1
  have n2 := Int.natAbs_dvd_natAbs.mpr d2
  rw [Int.natAbs_natCast] at n1 n2
  have n3 := Nat.Coprime.mul_dvd_of_dvd_of_dvd hcp n1 n2
  have b1 := bd_bound S (m := m) h1 h4 π1 J1
  have b2 := pow_24 hm24
  have := Nat.eq_zero_of_dvd_of_lt n3 (by omega)
  omega
section RO7
variable {l : Launch} {ω : Wd} {μ : Mm} {S T : SS} {D : DD}
/-- the pivots that the rank leaves -/
def PV (S : SS) (n k : Nat) (μ : Mm) : Prop := MT S n μ ∧ ss_i μ 29 12 = nI (rr S n) ∧ ss_i μ 29 13 = nI (nC S n) ∧ ∃ π J : Nat → Nat, (∀ i, i < k → π i < nR S n ∧ J i < nC S n) ∧ (∀ i, i < k → ss_i μ 39 i = nI (π i) ∧ ss_i μ 40 i = nI (J i)) ∧ det k (fun i c => bdM S n (π i) (J c)) ≠ 0
theorem c_rankOf7 {n : Nat} (hV : VS S) (hR : RM 0 0 S μ) (hn : n ≤ 5) : Ctr l ω M_X7_rankOf [.ref 29, .int (nI n)] μ (fun v μ' => v = some (.int (nI (rkN S n))) ∧ kH μ μ' ∧ (1 ≤ n → n ≤ 4 → isRank S n (rkN S n) ∧ PV S n (rkN S n) μ')) := by
  refine Ct_X7_rankOf ?_
  rw [show nI n = 0 ↔ n = 0 by rw [i0]; exact nI_eq (by omega) (by decide), nI_eq (show n < 2 ^ 31 by omega) (show 5 < 2 ^ 31 by decide)]
  refine ⟨fun g => ⟨by rw [rkN_0 (Or.inl g)], kH_rf, fun _ => by omega⟩, fun g => ⟨fun g2 => ?_, fun g2 => ⟨by rw [rkN_0 (Or.inr (Decidable.not_not.mp g2))], kH_rf, fun _ => by omega⟩⟩⟩
  have h1 : 1 ≤ n := by omega
  have h4 : n ≤ 4 := by omega
  have h48 := hV.1
  have hRC : nR S n + nC S n ≤ sn S := cnt_two S n h1 (sn S)
  have hrr := rr_le S n
  refine ex_q (c_layMatrix hV hR h1 h4) (fun v μ1 hq => ?_)
  obtain ⟨rfl, a1, a2, a3, a4⟩ := hq
  refine Tr_X7_rankOf_16 ?_
  have mi : ∀ μ2, kB μ1 μ2 → MI (rr S n) (nC S n) (bdM S n) μ2 := fun μ2 hk r c hr hc => ⟨by rw [hk.1 36 _ (by decide) (by decide) (by decide)]; exact a2 r c (by omega) hc, bd_ab S h4 r c⟩
  have e12 : ∀ μ2, kB μ1 μ2 → ss_i μ2 29 12 = nI (rr S n) := fun μ2 hk => by rw [hk.1 29 12 (by decide) (by decide) (by decide)]; exact a3
  have e13 : ∀ μ2, kB μ1 μ2 → ss_i μ2 29 13 = nI (nC S n) := fun μ2 hk => by rw [hk.1 29 13 (by decide) (by decide) (by decide)]; exact a4
  have mt : ∀ μ2, kB μ1 μ2 → MT S n μ2 := fun μ2 hk r c hr hc => by rw [hk.1 36 _ (by decide) (by decide) (by decide)]; exact a2 r c hr hc
  have fin : ∀ μ2 p k (π J : Nat → Nat), kB μ1 μ2 → isRank S n k → RK p (rr S n) (nC S n) (bdM S n) k π J → (∀ i, i < k → ss_i μ2 39 i = nI (π i) ∧ ss_i μ2 40 i = nI (J i)) → (some (Value.int (nI k)) = some (.int (nI (rkN S n))) ∧ kH μ μ2 ∧ (1 ≤ n → n ≤ 4 → isRank S n (rkN S n) ∧ PV S n (rkN S n) μ2)) := by
    intro μ2 p k π J hk hi hrk hm
    rw [rkN_is h1 h4 hi]
    refine ⟨rfl, kH_tr a1 (kB_H hk), fun _ _ => ⟨hi, mt μ2 hk, e12 μ2 hk, e13 μ2 hk, π, J, fun i hi' => ⟨by have := (hrk.2.2.2.1 i hi').1; omega, (hrk.2.2.2.1 i hi').2⟩, hm, fun q => hrk.2.2.2.2 (by rw [q]; exact ⟨0, by simp⟩)⟩⟩
  rw [lN_I]
  refine ex_q (c_rankBy prm_a (by decide) (e12 _ kB_rf) (e13 _ kB_rf) (by omega) (by omega) (mi _ kB_rf)) (fun v μ2 hq => ?_)
  obtain ⟨k1, π1, J1, rfl, b1, b2, b3⟩ := hq
  refine Tr_X7_rankOf_23 ?_
  rw [lN_I]
  refine ex_q (c_rankBy prm_b (by decide) (e12 _ b1) (e13 _ b1) (by omega) (by omega) (mi _ b1)) (fun v μ3 hq => ?_)
  obtain ⟨k2, π2, J2, rfl, c1, c2, c3⟩ := hq
  have bc := kB_tr b1 c1
  refine Tr_X7_rankOf_31 ?_
  have q1 := b2.2.1
  have q2 := c2.2.1
  rw [nI_leI (by omega) (by omega), lN_I]
  refine ⟨fun g => fin μ3 _ k2 π2 J2 bc (RK2_rank hV h1 h4 (by decide) (by decide) c2 b2 g) c2 c3, fun g => ?_⟩
  refine ex_q (c_rankBy prm_a (by decide) (e12 _ bc) (e13 _ bc) (by omega) (by omega) (mi _ bc)) (fun v μ4 hq => ?_)
  obtain ⟨k3, π3, J3, rfl, d1, d2, d3⟩ := hq
  have e := RK_un b2 d2
  exact Tr_X7_rankOf_44 (fin μ4 _ k3 π3 J3 (kB_tr bc d1) (RK2_rank hV h1 h4 (by decide) (by decide) d2 c2 (by omega)) d2 d3)
theorem m_betti (hV : VS S) (hI : IM S T D μ) (a : Int32) : Ctr l ω M_X7_betti [.ref 29, .int a] μ (fun v μ' => v = some (.int (A_bet S a)) ∧ kM μ μ') := by
  refine Ct_X7_betti ?_
  rcases rng_c (lo := 0) (hi := 4) (by decide) (by decide) a with ⟨d, -, hd, rfl⟩ | h | h
  · rw [in_t (by decide) (by omega) hd]
    have eA : A_bet S (nI d) = nI (cntN S d (sn S)) - nI (rkN S d) - nI (rkN S (d + 1)) := by unfold A_bet; rw [if_neg (nI_pos (by omega)), if_pos (nI_le hd (by decide)), cl_n (by omega)]
    rw [eA]
    refine ⟨fun g => absurd g nI1_ne, fun _ => ex_p (c_countOf7 hV hI.1 (by omega)) (Tr_X7_betti_14 ?_)⟩
    refine ex_q (c_rankOf7 hV hI.1 (by omega)) (fun v μ1 hq => ?_)
    obtain ⟨rfl, k1, -⟩ := hq
    refine Tr_X7_betti_19 ?_
    rw [nI_add]
    refine ex_q (c_rankOf7 hV (RM_H hI.1 k1) (by omega)) (fun v μ2 hq => ?_)
    obtain ⟨rfl, k2, -⟩ := hq
    exact Tr_X7_betti_27 ⟨rfl, kH_M (kH_tr k1 k2)⟩
  · rw [in_f (Or.inl h)]
    exact ⟨fun _ => ⟨by unfold A_bet; rw [if_pos (show a < 0 from h)], kM_rf⟩, fun g => absurd nI0_eq g⟩
  · rw [in_f (Or.inr h)]
    refine ⟨fun _ => ⟨?_, kM_rf⟩, fun g => absurd nI0_eq g⟩
    unfold A_bet
    rw [if_neg (Int32.not_le.mpr h : ¬ a ≤ nI 4)]
    split <;> rfl
end RO7

/-! torsion: the class -/
noncomputable def tcN (S : SS) (n : Nat) : Nat := rkN S n - unN (facN S n) (rkN S n)
noncomputable def A_tc (S : SS) (a : Int32) : Int32 := if a < 0 then -102 else if a ≤ nI 4 then nI (tcN S (a.toNatClampNeg + 1)) else -102
noncomputable def A_to (S : SS) (a b : Int32) : Int64 := if a < 0 then -102 else if a ≤ nI 4 then (if 0 ≤ b then (if nI (tcN S (a.toNatClampNeg + 1)) ≤ b then -109 else lI (facN S (a.toNatClampNeg + 1) (unN (facN S (a.toNatClampNeg + 1)) (rkN S (a.toNatClampNeg + 1)) + b.toNatClampNeg) : Nat)) else -104) else -102
theorem fac_b {S : SS} {n d : Nat} {f : Nat → Nat} (h1 : 1 ≤ n) (h4 : n ≤ 4) (h24 : rkN S n ≤ 24) (h : isFac S n d f) {i : Nat} (hi : i < rkN S n) : facN S n i ≤ 282429536481 := by
  rw [fac_is h hi]
  obtain ⟨d0, ⟨π, J, -, b⟩, c, -⟩ := h
  have h2 := Nat.le_of_dvd d0 (c i hi)
  have h3 := bd_bound S (m := rkN S n) h1 h4 π J
  have h5 := pow_24 h24
  omega
theorem fac_b5 {S : SS} {n : Nat} (h1 : 1 ≤ n) (h5 : n ≤ 5) (h24 : rkN S n ≤ 24) (h : n ≤ 4 → ∃ d f, isFac S n d f) {i : Nat} (hi : i < rkN S n) : facN S n i ≤ 282429536481 := by
  by_cases h4 : n ≤ 4
  · obtain ⟨d, f, hf⟩ := h h4
    exact fac_b h1 h4 h24 hf hi
  · rw [rkN_0 (by omega)] at hi; omega
section TX
variable {l : Launch} {ω : Wd} {μ : Mm} {S T : SS} {D : DD}
theorem x_torsionCount (hV : VS S) (hI : IC S T D μ) (a : Int32) : Ctr l ω M_X6_torsionCount [.ref 0, .int a] μ (fun v μ' => v = some (.int (A_tc S a)) ∧ kC μ μ') := by
  obtain ⟨p, hp, hr, hR⟩ := IC_pl hI
  refine Ct_X6_torsionCount ⟨fun g => ⟨by unfold A_tc; rw [if_pos g], kC_rf⟩, fun g => ⟨fun g2 => ?_, fun g2 => ⟨by unfold A_tc; rw [if_neg g, if_neg g2], kC_rf⟩⟩⟩
  rw [hr]
  obtain ⟨d, hd, rfl⟩ := nI_of2 (M := nI 4) (n := 4) (by decide) g g2
  have eA : A_tc S (nI d) = nI (tcN S (d + 1)) := by unfold A_tc; rw [if_neg g, if_pos g2, cl_n (by omega)]
  rw [eA, nI_add]
  refine ex_q (c_findFactors hp hV hR (by omega) (by omega)) (fun v μ1 hq => ?_)
  obtain ⟨rfl, k1, k2, k3, k4, k5⟩ := hq
  refine Tr_X6_torsionCount_26 (ex_p (c_unitFactors k3 k2 k4 (fun i hi => by have := fac_b5 (by omega) (by omega) k3 k5 hi; omega)) (Tr_X6_torsionCount_40 ?_))
  rw [k2, pk_sub (un_le _ _)]
  exact ⟨rfl, kX_k k1⟩
theorem x_torsion (hV : VS S) (hI : IC S T D μ) (a b : Int32) : Ctr l ω M_X6_torsion [.ref 0, .int a, .int b] μ (fun v μ' => v = some (.long (A_to S a b)) ∧ kC μ μ') := by
  obtain ⟨p, hp, hr, hR⟩ := IC_pl hI
  refine Ct_X6_torsion ⟨fun g => ⟨by unfold A_to; rw [if_pos g], kC_rf⟩, fun g => ⟨fun g2 => ⟨fun g3 => ?_, fun g3 => ⟨by unfold A_to; rw [if_neg g, if_pos g2, if_neg g3], kC_rf⟩⟩, fun g2 => ⟨by unfold A_to; rw [if_neg g, if_neg g2], kC_rf⟩⟩⟩
  rw [hr]
  obtain ⟨d, hd, rfl⟩ := nI_of2 (M := nI 4) (n := 4) (by decide) g g2
  have eA : A_to S (nI d) b = if nI (tcN S (d + 1)) ≤ b then -109 else lI (facN S (d + 1) (unN (facN S (d + 1)) (rkN S (d + 1)) + b.toNatClampNeg) : Nat) := by unfold A_to; rw [if_neg g, if_pos g2, if_pos g3, cl_n (by omega)]
  rw [eA, nI_add]
  refine ex_q (c_findFactors hp hV hR (by omega) (by omega)) (fun v μ1 hq => ?_)
  obtain ⟨rfl, k1, k2, k3, k4, k5⟩ := hq
  refine Tr_X6_torsion_35 (ex_p (c_unitFactors k3 k2 k4 (fun i hi => by have := fac_b5 (by omega) (by omega) k3 k5 hi; omega)) (Tr_X6_torsion_42 ?_))
  have hu := un_le (facN S (d + 1)) (rkN S (d + 1))
  rw [k2, pk_sub hu]
  refine ⟨fun g4 => ⟨by rw [if_pos (show nI (tcN S (d + 1)) ≤ b from g4)], kX_k k1⟩, fun g4 => ?_⟩
  rw [if_neg (show ¬ nI (tcN S (d + 1)) ≤ b from g4)]
  obtain ⟨j, hj, rfl⟩ : ∃ j, j < rkN S (d + 1) - unN (facN S (d + 1)) (rkN S (d + 1)) ∧ b = nI j := by
    rcases pk_ix b (n := rkN S (d + 1) - unN (facN S (d + 1)) (rkN S (d + 1))) (by omega) with q | q | ⟨j, q1, q2⟩
    · exact absurd q (Int32.not_lt.mpr g3)
    · exact absurd q g4
    · exact ⟨j, q1, q2⟩
  rw [nI_add, cl_n (by omega), cl_n (by omega), k4 _ (by omega)]
  exact ⟨inb_n (n := 48) rfl (by omega) (by decide), rfl, kX_k k1⟩
end TX

section LC
variable {l : Launch} {ω : Wd} {μ : Mm} {S T : SS} {D : DD}
def colS (S : SS) (n c r i : Nat) : Int := sumN (fun k => if sf S c k = cid S (n - 1) r then sg k else 0) i
theorem sgn_l : ∀ k, k < 5 → Int32.toInt64 (iSign (nI k)) = lI (sg k) := by decide +kernel
theorem sg_pm (k : Nat) : sg k = 1 ∨ sg k = -1 := by unfold sg; split <;> omega
theorem rc_48 {R C : Nat} (h : R + C ≤ 48) : R * C ≤ 576 := by
  have : R ≤ 48 := by omega
  have hC : C ≤ 48 - R := by omega
  have h1 : R * C ≤ R * (48 - R) := Nat.mul_le_mul_left _ hC
  have h2 : ∀ R, R < 49 → R * (48 - R) ≤ 576 := by decide
  exact Nat.le_trans h1 (h2 R (by omega))
theorem idx_ne {C r r' j j' : Nat} (hj : j < C) (hj' : j' < C) (h : r * C + j = r' * C + j') : r = r' ∧ j = j' := by
  have h1 : (r * C + j) / C = r := by rw [Nat.mul_comm, Nat.mul_add_div (by omega), Nat.div_eq_of_lt hj]; rfl
  have h2 : (r' * C + j') / C = r' := by rw [Nat.mul_comm, Nat.mul_add_div (by omega), Nat.div_eq_of_lt hj']; rfl
  have : r = r' := by rw [← h1, h, h2]
  subst this
  exact ⟨rfl, by omega⟩
theorem c_loadColumn {t n c m : Nat} (ht : cel t) (hV : VS S) (hR : RC t S μ) (hc : c < sn S) (hn : 1 ≤ n) (hs : sd S c = n) (hC : ss_i μ 22 3 = nI (cntN S n (sn S))) (hm : ss_l μ 22 4 = lI m) (m0 : 0 < m) (m47 : m < 2 ^ 47) (hRC : cntN S (n - 1) (sn S) * cntN S n (sn S) ≤ 576) (hp : ∀ f, f < sn S → sd S f = n - 1 → ss_i μ 25 f = nI (cntN S (n - 1) f)) (hpc : ss_i μ 25 c = nI (cntN S n c)) (hz : ∀ r, r < cntN S (n - 1) (sn S) → ss_l μ 24 (r * cntN S n (sn S) + cntN S n c) = lI 0) : Ctr l ω M_X5_loadColumn [.ref 22, .ref t, .int (nI c)] μ (fun v μ' => v = none ∧ μ'.1 = μ.1 ∧ μ'.2.2 = μ.2.2 ∧ (∀ q k, q ≠ 24 → ss_l μ' q k = ss_l μ q k) ∧ (∀ r j, j < cntN S n (sn S) → j ≠ cntN S n c → ss_l μ' 24 (r * cntN S n (sn S) + j) = ss_l μ 24 (r * cntN S n (sn S) + j)) ∧ ∀ r, r < cntN S (n - 1) (sn S) → ss_l μ' 24 (r * cntN S n (sn S) + cntN S n c) = lI (colS S n c r (n + 1) % m)) := by
  have h48 := hV.1
  obtain ⟨h4, hf⟩ := hV.2 c hc
  rw [hs] at h4 hf
  have hjC : cntN S n c < cntN S n (sn S) := cnt_lt hc hs
  have hC48 := cnt_le S n (sn S)
  have hR48 := cnt_le S (n - 1) (sn S)
  refine Ct_X5_loadColumn ?_
  rw [cel_r0 ht, cl_n (by omega), (hR.2 c hc).1, hs]
  refine ⟨cel_o ht, inb_n (cel_1 ht) (by omega) (by decide), ?_⟩
  have hpos : ¬ nI n ≤ 0 := fun g => by
    have := Int32.lt_of_lt_of_le (nI_lt (show 0 < n by omega) (by omega)) g
    exact absurd this (by decide)
  refine upto1 (G := fun k μ1 => Good l ω M_X5_loadColumn 10 [.ref 22, .ref t, .int (nI c), .int (nI n), .int (nI k), .null, .null] [] μ1 _) (I := fun i μ' => μ'.1 = μ.1 ∧ μ'.2.2 = μ.2.2 ∧ (∀ q k, q ≠ 24 → ss_l μ' q k = ss_l μ q k) ∧ (∀ r j, j < cntN S n (sn S) → j ≠ cntN S n c → ss_l μ' 24 (r * cntN S n (sn S) + j) = ss_l μ 24 (r * cntN S n (sn S) + j)) ∧ ∀ r, r < cntN S (n - 1) (sn S) → ss_l μ' 24 (r * cntN S n (sn S) + cntN S n c) = lI (colS S n c r i % m)) (n + 1) ?_ ?_ 0 (by omega) μ ⟨rfl, rfl, fun _ _ _ => rfl, fun _ _ _ _ => rfl, fun r hr => by rw [hz r hr]; show lI 0 = lI (0 % m); rw [Int.zero_emod]⟩
  · intro μ1 ⟨k1, k2, k3, k4, k5⟩
    exact Tr_X5_loadColumn_10 ⟨fun g => absurd g hpos, fun _ => ⟨fun _ => ⟨rfl, k1, k2, k3, k4, k5⟩, fun g => absurd (nI_lt (by omega) (by omega)) g⟩⟩
  · intro k μ1 hk ⟨k1, k2, k3, k4, k5⟩ ih
    have ri : ∀ q j, ss_i μ1 q j = ss_i μ q j := fun q j => by unfold ss_i; rw [k1]
    obtain ⟨f1, f2, f3⟩ := hf hn k (by omega)
    have hf48 : sf S c k < 48 := by omega
    have hm8 : sm S c k < 8 := Nat.lt_of_lt_of_le f2 (two_le (b := 3) (by omega))
    have hdf := (hV.2 _ f1).1
    have ef : ss_i μ1 (t + 2) (5 * c + k) = nI (64 * sf S c k + sm S c k) := by rw [ri, RC_k hR hc (by omega) (by omega)]
    refine Tr_X5_loadColumn_10 ⟨fun g => absurd g hpos, fun _ => ⟨fun g => absurd g (nI_nlt (by omega) (by omega)), fun _ => ?_⟩⟩
    rw [cel_r0 ht, cel_r1 ht, show nI c * nI 5 + nI k = nI (5 * c + k) by rw [pk_mul, nI_add]; congr 1; omega, cl_n (n := 5 * c + k) (by omega), ef, pk_cell hf48 (by omega), cl_n (n := sf S c k) (by omega), cl_n (n := c) (by omega), ri (t + 1), (hR.2 _ f1).1, nI_sub1 hn, nI_eq (by omega) (by omega), nI_add, ri t 2, hR.1]
    have hstep : ∀ r, colS S n c r (k + 1) = colS S n c r k + if sf S c k = cid S (n - 1) r then sg k else 0 := fun r => rfl
    refine ⟨cel_o ht, fAt_n ht hV (RC_same hR (fun q j _ => ri q j)) hc (by omega), cel_o ht, fun g => absurd g (has_n h48 f1), fun _ => ⟨cel_o ht, inb_n (cel_1 ht) (by omega) (by decide), fun g => ?_, fun g => ?_⟩⟩
    · refine ih μ1 ⟨k1, k2, k3, k4, fun r hr => ?_⟩
      have hne : sf S c k ≠ cid S (n - 1) r := fun q => g (by rw [q]; exact (cid_ok _ hr).2.1)
      rw [hstep, if_neg hne, Int.add_zero]; exact k5 r hr
    · have hsd : sd S (sf S c k) = n - 1 := Decidable.not_not.mp g
      have hr0 : cntN S (n - 1) (sf S c k) < cntN S (n - 1) (sn S) := cnt_lt f1 hsd
      have hix : cntN S (n - 1) (sf S c k) * cntN S n (sn S) + cntN S n c < 576 := by
        have := Nat.mul_le_mul_right (cntN S n (sn S)) (show cntN S (n - 1) (sf S c k) + 1 ≤ cntN S (n - 1) (sn S) by omega)
        rw [Nat.succ_mul] at this
        omega
      rw [ri 25, ri 22 3, hp _ f1 hsd, ri 25 c, hpc, hC, pk_mul, nI_add, cl_n (by omega), k3 22 4 (by decide), hm, k5 _ hr0, sgn_l k (by omega), lI_add]
      have hb := Int.emod_nonneg (colS S n c (cntN S (n - 1) (sf S c k)) k) (show (m : Int) ≠ 0 by omega)
      have hb2 := Int.emod_lt_of_pos (colS S n c (cntN S (n - 1) (sf S c k)) k) (show (0 : Int) < m by omega)
      have hsg := sg_pm k
      rw [lI_res (by omega) (by omega) (by omega) (by omega)]
      have hin : inb 24 2 (nI (cntN S (n - 1) (sf S c k) * cntN S n (sn S) + cntN S n c)) = true := inb_n (n := 576) rfl hix (by decide)
      refine ⟨inb_n (n := 48) rfl (by omega) (by decide), inb_n (n := 48) rfl (by omega) (by decide), hin, lI_n0 m0 (by omega), hin, ?_⟩
      have hcid : cid S (n - 1) (cntN S (n - 1) (sf S c k)) = sf S c k := cid_is _ f1 hsd
      refine ih _ ⟨k1, k2, fun q j hq => by rw [rl_wl, if_neg (fun r => hq r.1)]; exact k3 q j hq, fun r j hj hne => ?_, fun r hr => ?_⟩
      · rw [rl_wl, if_neg (fun q => hne (idx_ne hj hjC q.2).2)]; exact k4 r j hj hne
      · rw [rl_wl, hstep]
        by_cases hrr : r = cntN S (n - 1) (sf S c k)
        · subst hrr
          rw [if_pos ⟨rfl, rfl⟩, if_pos hcid.symm, Int.emod_add_emod]
        · rw [if_neg (fun q => hrr (idx_ne hjC hjC q.2).1), if_neg (fun q => hrr (by rw [q]; exact ((cid_ok _ hr).2.2).symm)), Int.add_zero]
          exact k5 r hr
end LC

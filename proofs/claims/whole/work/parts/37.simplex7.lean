section L7
variable {l : Launch} {ω : Wd} {μ : Mm} {S T : SS} {D : DD}
def K43 (n m : Nat) (μ : Mm) : Prop := ∀ c, c < m → ss_i μ 43 c = nI (subN n c)
theorem c_cellBy {n m u : Nat} (hn : n < 5) (hm : m ≤ 2 ^ (n + 1) - 1) (h0 : ss_i μ 29 0 = nI m) (hK : K43 n m μ) (hu1 : 1 ≤ u) (hu : u < 2 ^ (n + 1)) (hlt : idxN n u < m) : CtrP l ω M_X7_cellBy [.ref 29, .int (nI u)] μ (nI (idxN n u)) := by
  have hl := d_lim n hn
  refine Ct_X7_cellBy ?_
  have key : ∀ i, i ≤ m → Good l ω M_X7_cellBy 5 [.ref 29, .int (nI u), .int (if idxN n u < i then nI (idxN n u) else -109), .int (nI i)] [] μ (fun v μ' => v = some (.int (nI (idxN n u))) ∧ μ' = μ) := by
    refine upto0 m ?_ ?_
    · refine Tr_X7_cellBy_5 ?_
      rw [h0, if_pos hlt]
      exact ⟨fun _ => ⟨rfl, rfl⟩, fun g => absurd (nI_le (Nat.le_refl _) (by omega)) g⟩
    · intro i hi ih
      obtain ⟨c1, c2, c3⟩ := d_sub n hn i (by omega)
      refine Tr_X7_cellBy_5 ?_
      rw [h0, cl_n (by omega), hK i hi, nI_add]
      refine ⟨fun g => absurd g (nI_ge hi (by omega)), fun _ => ⟨inb_n (n := 48) rfl (by omega) (by decide), fun g => ?_, fun g => ?_⟩⟩
      · have hne : idxN n u ≠ i := fun q => g (by rw [← q, (d_idx n hn u hu hu1).1])
        have e : (if idxN n u < i then nI (idxN n u) else -109) = if idxN n u < i + 1 then nI (idxN n u) else -109 := by
          by_cases h : idxN n u < i
          · rw [if_pos h, if_pos (by omega)]
          · rw [if_neg h, if_neg (by omega)]
        rw [e]; exact ih
      · have heq : subN n i = u := (nI_eq (by omega) (by omega)).mp (Decidable.not_not.mp g)
        rw [heq] at c1
        rw [if_pos (by omega)] at ih
        rw [← c1] at ih ⊢
        rw [c1] at ih ⊢
        exact c1 ▸ ih
  have := key 0 (by omega)
  rw [if_neg (by omega)] at this
  exact this
theorem c_addSubset {n s w : Nat} (hn : n < 5) (hw : w < 2 ^ (n + 1)) (hp : popN w = s + 1) (hI : IM (preS n (posN n s w)) T eD μ) (hK : K43 n (posN n s w) μ) : Ctr l ω M_X7_addSubset [.ref 29, .int (nI w), .int (nI n), .int (nI (s + 1))] μ (fun v μ' => v = none ∧ IM (preS n (posN n s w + 1)) T eD μ' ∧ fC μ μ' ∧ K43 n (posN n s w + 1) μ') := by
  have hl := d_lim n hn
  have h5 := d_pop5 n hn w hw
  have hsn : sn (preS n (posN n s w)) = posN n s w := rfl
  obtain ⟨p1, p2, p3⟩ := d_posC n hn s (by omega) w hw hp
  have hle := d_posD n hn s (by omega) w hw
  have hVp := pre_V hn hle
  refine Ct_X7_addSubset ?_
  refine upto1 (G := fun i μ1 => Good l ω M_X7_addSubset 6 [.ref 29, .int (nI w), .int (nI n), .int (nI (s + 1)), .int (nI (rsN w i)), .int (nI i), .null] [] μ1 _) (I := fun i μ1 => IM (preS n (posN n s w)) T eD μ1 ∧ K43 n (posN n s w) μ1 ∧ fC μ μ1 ∧ (1 ≤ s → ∀ k, k < i → ss_i μ1 31 (5 * posN n s w + k) = nI (faX n w k) ∧ ss_i μ1 32 (5 * posN n s w + k) = nI (2 ^ (s - 1) - 1))) (s + 1) ?_ ?_ 0 (by omega) μ ⟨hI, hK, fC_rf, fun _ k hk => by omega⟩
  · intro μ1 ⟨k1, k2, k3, k4⟩
    refine Tr_X7_addSubset_6 ⟨fun _ => ?_, fun g => absurd (nI_le (Nat.le_refl _) (by omega)) g⟩
    have e0 : ss_i μ1 29 0 = nI (posN n s w) := k1.1.1
    rw [e0, cl_n (by omega), nI_sub1 (by omega), show s + 1 - 1 = s by omega]
    refine ⟨inb_n (n := 48) rfl (by omega) (by decide), ?_⟩
    have hw43 : IM (preS n (posN n s w)) T eD (ss_wi μ1 43 (posN n s w) (nI w)) := IM_k k1 ⟨fun q k hq => by rw [ri_wi, if_neg (by omega)], rfl, fun k hk => by rw [ri_wi, if_neg (by omega)], fun q k a b => by rw [ri_wi, if_neg (by omega)]⟩
    refine ex_q (m_addI (d := s) (f := fun k => faX n w k) (g := fun _ => 2 ^ (s - 1) - 1) hVp hw43 (by rw [hsn]; omega) (fun h k hk => ?_)) (fun v μ2 hq => ?_)
    · rw [hsn, ri_wi, if_neg (by omega), ri_wi, if_neg (by omega)]; exact k4 h k (by omega)
    obtain ⟨rfl, m1, m2, m3⟩ := hq
    have happ : appS (preS n (posN n s w)) s (fun k => faX n w k) (fun _ => 2 ^ (s - 1) - 1) = preS n (posN n s w + 1) := by
      rw [← pre_app, p3, hp]; rfl
    rw [happ] at m1
    refine Tr_X7_addSubset_97 ⟨rfl, m1, ⟨fun q k hq => ?_, ?_⟩, fun c hc => ?_⟩
    · rw [m2.1 q k hq, ri_wi, if_neg (by omega)]; exact k3.1 q k hq
    · rw [m2.2]; exact k3.2
    · rw [m3 43 c (by decide) (by omega), ri_wi]
      by_cases hcw : c = posN n s w
      · rw [if_pos ⟨rfl, hcw⟩, hcw, p3]
      · rw [if_neg (by omega)]; exact k2 c (by omega)
  · intro i μ1 hi ⟨k1, k2, k3, k4⟩ ih
    have e0 : ss_i μ1 29 0 = nI (posN n s w) := k1.1.1
    obtain ⟨r1, r2, r3, r4⟩ := d_rs w (by omega) i (by omega)
    have r2' := d_rs2 n hn w hw i (by omega)
    refine Tr_X7_addSubset_6 ⟨fun g => absurd g (nI_ge hi (by omega)), fun _ => ?_⟩
    rw [d_shl n hn]
    have down : ∀ j, Nat.log2 (rsN w i) ≤ j → j ≤ n → Good l ω M_X7_addSubset 17 [.ref 29, .int (nI w), .int (nI n), .int (nI (s + 1)), .int (nI (rsN w i)), .int (nI i), .int (nI (2 ^ j))] [] μ1 (fun v μ' => v = none ∧ IM (preS n (posN n s w + 1)) T eD μ' ∧ fC μ μ' ∧ K43 n (posN n s w + 1) μ') := by
      intro j hj
      obtain ⟨t, rfl⟩ : ∃ t, j = Nat.log2 (rsN w i) + t := ⟨j - Nat.log2 (rsN w i), by omega⟩
      clear hj
      induction t with
      | zero =>
        intro _
        show Good l ω M_X7_addSubset 17 [.ref 29, .int (nI w), .int (nI n), .int (nI (s + 1)), .int (nI (rsN w i)), .int (nI i), .int (nI (2 ^ Nat.log2 (rsN w i)))] [] μ1 _
        refine Tr_X7_addSubset_17 ⟨fun _ => ?_, fun g => absurd (d_bit1 _ (by omega) r1) g⟩
        have eb : nI (rsN w i) &&& (nI (2 ^ Nat.log2 (rsN w i)) ^^^ (-1)) = nI (rsN w (i + 1)) := d_bit2 _ (by omega) _ (by omega) (d_bit3 _ (by omega) r1)
        have eb2 : nI w &&& (nI (2 ^ Nat.log2 (rsN w i)) ^^^ (-1)) = nI (w - hobN (rsN w i)) := d_bit2 _ (by omega) _ (by omega) r4
        rw [eb, eb2, e0]
        refine ⟨fun g => ?_, fun g => ?_⟩
        · have hs0 : s = 0 := by
            rcases Nat.eq_zero_or_pos s with q | q
            · exact q
            · exact absurd g (nI_ge (show 1 < s + 1 by omega) (by omega))
          refine Tr_X7_addSubset_74 ?_
          rw [nI_add]
          exact ih μ1 ⟨k1, k2, k3, fun h => by omega⟩
        · have hs1 : 1 ≤ s := by
            rcases Nat.eq_zero_or_pos s with q | q
            · exact absurd (nI_le (show s + 1 ≤ 1 by omega) (by omega)) g
            · exact q
          obtain ⟨r5, r6⟩ := d_rs3 w (by omega) i (by omega) ⟨by omega, by omega⟩
          have r7 := d_rs4 n hn w hw i (by omega) ⟨by omega, by omega⟩
          rw [hp, show s + 1 - 1 = s by omega] at r7
          refine ex_p (c_cellBy hn hle e0 k2 r5 (by omega) r7) ?_
          refine Tr_X7_addSubset_65 ⟨rfl, ?_⟩
          have e2 : nI (s + 1) - nI 2 = nI (s - 1) := by rw [d_sub32 _ (by omega) _ (by omega) (by omega)]; congr 1
          rw [e2, d_low _ (by omega)]
          refine ex_q (m_putI (k := i) hVp k1 (by rw [hsn]; omega) (by omega)) (fun v μ2 hq => ?_)
          obtain ⟨rfl, m1, m2, m3, m4⟩ := hq
          refine Tr_X7_addSubset_74 ?_
          rw [nI_add]
          refine ih μ2 ⟨m1, fun c hc => by rw [m3 43 c (by decide) (by decide)]; exact k2 c hc, fC_tr k3 m2, fun _ k hk => ?_⟩
          obtain ⟨q1, q2⟩ := m4 (5 * posN n s w + k)
          rw [hsn] at q1 q2
          by_cases hki : k = i
          · subst hki
            rw [if_pos rfl] at q1 q2
            exact ⟨q1, q2⟩
          · rw [if_neg (by omega)] at q1 q2
            rw [q1, q2]; exact k4 hs1 k (by omega)
      | succ t iht =>
        intro hj
        have ez := d_bit0 (rsN w i) (by omega) (Nat.log2 (rsN w i) + (t + 1)) (by omega) ⟨r1, by omega⟩
        refine Tr_X7_addSubset_17 ⟨fun g => absurd ez g, fun _ => ?_⟩
        rw [d_shr _ (by omega) (by omega)]
        exact iht (by omega)
    exact down n r2' (Nat.le_refl _)
theorem m_loadSimplex (hI : IM S T D μ) (a : Int32) : Ctr l ω M_X7_loadSimplex [.ref 29, .int a] μ (fun v μ' => v = some (.int (A_smp a)) ∧ IM (N_smpS S a) T (N_smpD D a) μ' ∧ fC μ μ') := by
  refine Ct_X7_loadSimplex ?_
  rcases smp_c a with ⟨n, hn, rfl, hA, hS, hD⟩ | ⟨hA, ho, hS, hD⟩
  · rw [hA, hS, hD, in_t (by decide) (by omega) hn]
    have hl := d_lim n (by omega)
    have h2 := Nat.two_pow_pos (n + 1)
    refine ⟨fun _ => ?_, fun g => absurd nI1_ne g⟩
    obtain ⟨j1, j2⟩ := m_empty hI
    obtain ⟨p1, p2, p3⟩ := d_posA n (by omega)
    refine upto1 (G := fun s μ1 => Good l ω M_X7_loadSimplex 24 [.ref 29, .int (nI n), .int (nI (s + 1)), .null] [] μ1 _) (I := fun s μ1 => IM (preS n (posN n s (2 ^ (n + 1) - 1))) T eD μ1 ∧ fC μ μ1 ∧ K43 n (posN n s (2 ^ (n + 1) - 1)) μ1) (n + 1) ?_ ?_ 0 (by omega) _ ⟨by rw [p1]; exact IM_e j1, j2, by rw [p1]; exact fun c h => by omega⟩
    · intro μ2 ⟨k1, k2, k3⟩
      rw [p2] at k1
      refine Tr_X7_loadSimplex_24 ?_
      rw [nI_add]
      exact ⟨fun _ => ⟨by rw [k1.1.1]; rfl, k1, k2⟩, fun g => absurd (nI_lt (by omega) (by omega)) g⟩
    · intro s μ2 hs ⟨k1, k2, k3⟩ ih
      refine Tr_X7_loadSimplex_24 ?_
      rw [nI_add]
      refine ⟨fun g => absurd g (nI_nlt (by omega) (by omega)), fun _ => ?_⟩
      rw [d_low (n + 1) (by omega)]
      have key : ∀ w, w < 2 ^ (n + 1) → ∀ μ1, IM (preS n (posN n s w)) T eD μ1 → fC μ μ1 → K43 n (posN n s w) μ1 → Good l ω M_X7_loadSimplex 38 [.ref 29, .int (nI n), .int (nI (s + 1)), .int (nI w)] [] μ1 (fun v μ' => v = some (.int (nI (2 ^ (n + 1) - 1))) ∧ IM (preS n (2 ^ (n + 1) - 1)) T eD μ' ∧ fC μ μ') := by
        intro w
        induction w with
        | zero =>
          intro _ μ1 m1 m2 m3
          refine Tr_X7_loadSimplex_38 ⟨fun _ => ?_, fun g => absurd (by decide) g⟩
          rw [p3 s (by omega)] at m1 m3
          rw [nI_add]
          exact ih μ1 ⟨m1, m2, m3⟩
        | succ w iw =>
          intro hw μ1 m1 m2 m3
          have e1 : nI (w + 1) + (-1) = nI w := by
            rw [show ((-1 : Int32)) = - nI 1 by decide, ← Int32.sub_eq_add_neg, nI_sub1 (by omega)]; rfl
          have h0 : ¬ nI (w + 1) ≤ 0 := fun g => by
            have := Int32.lt_of_lt_of_le (nI_lt (show 0 < w + 1 by omega) (by omega)) g
            exact absurd this (by decide)
          refine Tr_X7_loadSimplex_38 ⟨fun g => absurd g h0, fun _ => ?_⟩
          rw [d_b7 _ (by omega)]
          have h5 := d_pop5 n (by omega) _ hw
          refine ⟨fun g => ?_, fun g => ?_⟩
          · have hne : ¬ popN (w + 1) = s + 1 := fun q => g (by rw [q])
            have := d_posB n (by omega) s (by omega) _ hw ⟨by omega, hne⟩
            rw [show w + 1 - 1 = w by omega] at this
            refine Tr_X7_loadSimplex_57 ?_
            rw [e1]
            exact iw (by omega) μ1 (by rw [this]; exact m1) m2 (by rw [this]; exact m3)
          · have hpe : popN (w + 1) = s + 1 := (nI_eq (by omega) (by omega)).mp (Decidable.not_not.mp g)
            have p := (d_posC n (by omega) s (by omega) _ hw hpe).1
            rw [show w + 1 - 1 = w by omega] at p
            refine ex_q (c_addSubset (by omega) hw hpe m1 m3) (fun v μ3 hq => ?_)
            obtain ⟨rfl, o1, o2, o3⟩ := hq
            rw [← p] at o1 o3
            refine Tr_X7_loadSimplex_57 ?_
            rw [e1]
            exact iw (by omega) μ3 o1 (fC_tr m2 o2) o3
      exact key _ (by omega) μ2 k1 k2 k3
  · rw [hA, hS, hD, in_f ho]
    exact ⟨fun g => absurd nI0_eq g, fun _ => ⟨rfl, hI, fC_rf⟩⟩
end L7

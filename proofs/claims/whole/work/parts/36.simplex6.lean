/-! loadSimplex, both sides -/
section LS
variable {l : Launch} {ω : Wd} {μ : Mm} {S T : SS} {D : DD}
/-- the class's cells of subsets up to a position -/
def K28 (n m : Nat) (μ : Mm) : Prop := ∀ u, 1 ≤ u → u < 2 ^ (n + 1) → idxN n u < m → ss_i μ 28 u = nI (idxN n u)
theorem c_setFaces {n s w : Nat} (hn : n < 5) (hw : w < 2 ^ (n + 1)) (hp : popN w = s + 1) (hK : K28 n (posN n s w) μ) : Ctr l ω M_X6_setFacesOfSubset [.ref 0, .int (nI w), .int (nI s)] μ (fun v μ' => v = none ∧ (∀ q k, q ≠ 27 → ss_i μ' q k = ss_i μ q k) ∧ μ'.2.2 = μ.2.2 ∧ (1 ≤ s → ∀ k, k ≤ s → ss_i μ' 27 k = nI (64 * faX n w k + (2 ^ (s - 1) - 1)))) := by
  have hl := d_lim n hn
  have h5 := d_pop5 n hn w hw
  refine Ct_X6_setFacesOfSubset ⟨fun g => ?_, fun g => ?_⟩
  · have hs : 1 ≤ s := by
      rcases Nat.eq_zero_or_pos s with q | q
      · subst q; exact absurd nI0_eq g
      · exact q
    refine upto1 (G := fun i μ1 => Good l ω M_X6_setFacesOfSubset 10 [.ref 0, .int (nI w), .int (nI s), .int (nI (rsN w i)), .int (nI i), .null] [] μ1 _) (I := fun i μ1 => (∀ q k, q ≠ 27 → ss_i μ1 q k = ss_i μ q k) ∧ μ1.2.2 = μ.2.2 ∧ ∀ k, k < i → ss_i μ1 27 k = nI (64 * faX n w k + (2 ^ (s - 1) - 1))) (s + 1) ?_ ?_ 0 (by omega) μ ⟨fun _ _ _ => rfl, rfl, fun k hk => by omega⟩
    · intro μ1 ⟨k1, k2, k3⟩
      exact Tr_X6_setFacesOfSubset_10 ⟨fun _ => ⟨rfl, k1, k2, fun _ k hk => k3 k (by omega)⟩, fun g => absurd (nI_lt (by omega) (by omega)) g⟩
    · intro i μ1 hi ⟨k1, k2, k3⟩ ih
      obtain ⟨r1, r2, r3, r4⟩ := d_rs w (by omega) i (by omega)
      obtain ⟨r5, r6⟩ := d_rs3 w (by omega) i (by omega) ⟨by omega, by omega⟩
      have r7 := d_rs4 n hn w hw i (by omega) ⟨by omega, by omega⟩
      rw [hp, show s + 1 - 1 = s by omega] at r7
      have hf48 := (d_posC n hn s (by omega) w hw hp).2.1
      refine Tr_X6_setFacesOfSubset_10 ⟨fun g => absurd g (nI_nlt (by omega) (by omega)), fun _ => ?_⟩
      have hm8 : 2 ^ (s - 1) ≤ 8 := two_le (b := 3) (by omega)
      rw [d_hob _ (by omega) r1, d_sub32 w (by omega) _ (by omega) (by omega), d_sub32 _ (by omega) _ (by omega) r3, nI_sub1 hs, d_low (s - 1) (by omega), cl_n (by omega), cl_n (by omega), nI_add, k1 28 _ (by decide), hK _ r5 (by omega) r7]
      refine ⟨inb_n (n := 32) rfl (by omega) (by decide), inb_n (n := 5) rfl (by omega) (by decide), ?_⟩
      rw [pk_pack _ (show idxN n (w - hobN (rsN w i)) < 48 from Nat.lt_trans (Nat.lt_trans r7 hf48) (by decide)) _ (by omega)]
      refine ih _ ⟨fun q k hq => by rw [ri_wi, if_neg (by omega)]; exact k1 q k hq, k2, fun k hk => ?_⟩
      rw [ri_wi]
      by_cases hki : k = i
      · subst hki; rw [if_pos ⟨rfl, rfl⟩]; rfl
      · rw [if_neg (by omega)]; exact k3 k (by omega)
  · have hs : s = 0 := by
      rcases Nat.eq_zero_or_pos s with q | q
      · exact q
      · exact absurd (nI_ne0 (by omega) (by omega)) g
    exact ⟨rfl, fun _ _ _ => rfl, rfl, fun h => by omega⟩
theorem c_appendSubsets {n s : Nat} (hn : n < 5) (hs : s ≤ n) (hI : IC (preS n (posN n s (2 ^ (n + 1) - 1))) T eD μ) (hK : K28 n (posN n s (2 ^ (n + 1) - 1)) μ) : Ctr l ω M_X6_appendSubsets [.ref 0, .int (nI (n + 1)), .int (nI s)] μ (fun v μ' => v = none ∧ IC (preS n (posN n s 0)) T eD μ' ∧ K28 n (posN n s 0) μ' ∧ fM μ μ') := by
  have hl := d_lim n hn
  refine Ct_X6_appendSubsets ?_
  rw [d_low (n + 1) (by omega)]
  have key : ∀ w, w < 2 ^ (n + 1) → ∀ μ1, IC (preS n (posN n s w)) T eD μ1 → K28 n (posN n s w) μ1 → fM μ μ1 → Good l ω M_X6_appendSubsets 5 [.ref 0, .null, .int (nI s), .int (nI w)] [] μ1 (fun v μ' => v = none ∧ IC (preS n (posN n s 0)) T eD μ' ∧ K28 n (posN n s 0) μ' ∧ fM μ μ') := by
    intro w
    induction w with
    | zero =>
      intro _ μ1 k1 k2 k3
      exact Tr_X6_appendSubsets_5 ⟨fun _ => ⟨rfl, k1, k2, k3⟩, fun g => absurd (by decide) g⟩
    | succ w ih =>
      intro hw μ1 k1 k2 k3
      have e1 : nI (w + 1) + (-1) = nI w := by
        rw [show ((-1 : Int32)) = - nI 1 by decide, ← Int32.sub_eq_add_neg, nI_sub1 (by omega)]; rfl
      have h0 : ¬ nI (w + 1) ≤ 0 := fun g => by
        have := Int32.lt_of_lt_of_le (nI_lt (show 0 < w + 1 by omega) (by omega)) g
        exact absurd this (by decide)
      refine Tr_X6_appendSubsets_5 ⟨fun g => absurd g h0, fun _ => ?_⟩
      rw [d_bc _ (by omega), nI_add, e1]
      have h5 := d_pop5 n hn _ hw
      refine ⟨fun g => ?_, fun g => ?_⟩
      · have hne : ¬ popN (w + 1) = s + 1 := fun q => g (by rw [q])
        have := d_posB n hn s (by omega) _ hw ⟨by omega, hne⟩
        rw [show w + 1 - 1 = w by omega] at this
        exact ih (by omega) μ1 (by rw [this]; exact k1) (by rw [this]; exact k2) k3
      · have hpe : popN (w + 1) = s + 1 := (nI_eq (by omega) (by omega)).mp (Decidable.not_not.mp g)
        obtain ⟨p1, p2, p3⟩ := d_posC n hn s (by omega) _ hw hpe
        rw [show w + 1 - 1 = w by omega] at p1
        refine ex_q (c_setFaces hn hw hpe k2) (fun v μ2 hq => ?_)
        obtain ⟨rfl, m1, m2, m3⟩ := hq
        have hI2 : IC (preS n (posN n s (w + 1))) T eD μ2 := IC_k k1 ⟨fun q k a b => m1 q k (by omega), m2, fun q k a => m1 q k (by omega)⟩
        obtain ⟨p, hp, hr, hR⟩ := IC_pl hI2
        refine Tr_X6_appendSubsets_25 ⟨by rw [hr]; exact cel_o hp, ?_⟩
        have hidx : idxN n (w + 1) = posN n s (w + 1) := by unfold idxN; rw [hpe]; rfl
        have hle := d_posD n hn s (by omega) _ hw
        refine ex_q (c_appI (d := s) (f := fun k => faX n (w + 1) k) (g := fun _ => 2 ^ (s - 1) - 1) (pre_V hn hle) hI2 (Nat.lt_trans p2 (by decide)) (by omega) m3) (fun v μ3 hq => ?_)
        obtain ⟨rfl, n1, n2, n3, n4⟩ := hq
        have happ : appS (preS n (posN n s (w + 1))) s (fun k => faX n (w + 1) k) (fun _ => 2 ^ (s - 1) - 1) = preS n (posN n s w) := by
          rw [p1, ← pre_app, p3, hpe]; rfl
        rw [happ] at n1
        have hsn : sn (preS n (posN n s (w + 1))) = posN n s (w + 1) := rfl
        rw [hsn]
        refine Tr_X6_appendSubsets_42 ⟨inb_n (n := 32) rfl (by omega) (by decide), ?_⟩
        rw [cl_n (by omega), e1]
        refine ih (by omega) _ (IC_k n1 ⟨fun q k a b => by rw [ri_wi, if_neg (by omega)], rfl, fun q k a => by rw [ri_wi, if_neg (by omega)]⟩) (fun u hu1 hu2 hu3 => ?_) (fun q k hq => ?_)
        · rw [ri_wi]
          by_cases huw : u = w + 1
          · rw [if_pos ⟨rfl, huw⟩, huw, hidx]
          · rw [if_neg (fun r => huw r.2), n4 28 u (by decide), m1 28 u (by decide)]
            refine k2 u hu1 hu2 ?_
            rw [p1] at hu3
            have : idxN n u ≠ posN n s (w + 1) := fun q => huw (by
              have a := (d_idx n hn u hu2 hu1).1
              rw [q, p3] at a; exact a.symm)
            omega
        · rw [ri_wi, if_neg (by omega), n2 q k hq, m1 q k (by omega), k3 q k hq]
  exact key _ (by have := Nat.two_pow_pos (n + 1); omega) μ hI hK fM_rf
def A_smp (a : Int32) : Int32 := if a < nI 0 then -102 else if a ≤ nI 4 then nI (2 ^ (a.toNatClampNeg + 1) - 1) else -102
def N_smpS (S : SS) (a : Int32) : SS := if a < nI 0 then S else if a ≤ nI 4 then preS a.toNatClampNeg (2 ^ (a.toNatClampNeg + 1) - 1) else S
def N_smpD (D : DD) (a : Int32) : DD := if a < nI 0 then D else if a ≤ nI 4 then eD else D
theorem smp_c (a : Int32) : (∃ d, d ≤ 4 ∧ a = nI d ∧ A_smp a = nI (2 ^ (d + 1) - 1) ∧ (∀ S, N_smpS S a = preS d (2 ^ (d + 1) - 1)) ∧ ∀ D, N_smpD D a = eD) ∨ (A_smp a = -102 ∧ (a < nI 0 ∨ nI 4 < a) ∧ (∀ S, N_smpS S a = S) ∧ ∀ D, N_smpD D a = D) := by
  rcases rng_c (lo := 0) (hi := 4) (by decide) (by decide) a with ⟨d, hd1, hd, rfl⟩ | h | h
  · left
    have g : ¬ nI d < nI 0 := nI_nlt hd1 (by omega)
    have g2 : nI d ≤ nI 4 := nI_le hd (by omega)
    refine ⟨d, hd, rfl, by unfold A_smp; rw [if_neg g, if_pos g2, cl_n (by omega)], fun S => by unfold N_smpS; rw [if_neg g, if_pos g2, cl_n (by omega)], fun D => by unfold N_smpD; rw [if_neg g, if_pos g2]⟩
  · right
    exact ⟨by unfold A_smp; rw [if_pos h], Or.inl h, fun S => by unfold N_smpS; rw [if_pos h], fun D => by unfold N_smpD; rw [if_pos h]⟩
  · right
    have g2 : ¬ a ≤ nI 4 := Int32.not_le.mpr h
    refine ⟨?_, Or.inr h, fun S => ?_, fun D => ?_⟩
    · unfold A_smp; rw [if_neg g2]; split <;> rfl
    · unfold N_smpS; rw [if_neg g2]; split <;> rfl
    · unfold N_smpD; rw [if_neg g2]; split <;> rfl
theorem smp_N {a : Int32} (hV : VS S) : VS (N_smpS S a) := by
  rcases smp_c a with ⟨d, h2, -, -, h3, -⟩ | ⟨-, -, h3, -⟩
  · rw [h3]; exact pre_V (by omega) (Nat.le_refl _)
  · rw [h3]; exact hV
theorem smp_D {a : Int32} (hD : DV S D) : DV (N_smpS S a) (N_smpD D a) := by
  rcases smp_c a with ⟨d, h1, h2, -, -, h3⟩ | ⟨-, -, h3, h4⟩
  · rw [h3]; exact eD_V
  · rw [h3, h4]; exact hD
theorem IC_e {n : Nat} (h : IC eS T eD μ) : IC (preS n 0) T eD μ := by
  obtain ⟨p, h1, h2, h3, h4, h5, h6⟩ := h
  exact ⟨p, h1, h2, h3, ⟨h4.1, fun c hc => absurd hc (by show ¬ c < 0; omega)⟩, h5, h6⟩
theorem IM_e {n : Nat} (h : IM eS T eD μ) : IM (preS n 0) T eD μ := by
  obtain ⟨h4, h5, h6⟩ := h
  exact ⟨⟨h4.1, fun c hc => absurd hc (by show ¬ c < 0; omega)⟩, h5, h6⟩
theorem x_loadSimplex (hI : IC S T D μ) (a : Int32) : Ctr l ω M_X6_loadSimplex [.ref 0, .int a] μ (fun v μ' => v = some (.int (A_smp a)) ∧ IC (N_smpS S a) T (N_smpD D a) μ' ∧ fM μ μ') := by
  refine Ct_X6_loadSimplex ?_
  rcases smp_c a with ⟨n, hn, rfl, hA, hS, hD⟩ | ⟨hA, ho, hS, hD⟩
  · rw [hA, hS, hD]
    refine ⟨fun g => absurd g (nI_pos (by omega)), fun _ => ⟨fun _ => ?_, fun g => absurd (nI_le hn (by omega)) g⟩⟩
    refine ex_q (c_removeAll hI) (fun v μ1 hq => ?_)
    obtain ⟨rfl, j1, j2, -⟩ := hq
    obtain ⟨p1, p2, p3⟩ := d_posA n (by omega)
    refine Tr_X6_loadSimplex_16 ?_
    refine upto1 (G := fun s μ1 => Good l ω M_X6_loadSimplex 18 [.ref 0, .int (nI n), .int (nI s)] [] μ1 _) (I := fun s μ1 => IC (preS n (posN n s (2 ^ (n + 1) - 1))) T eD μ1 ∧ K28 n (posN n s (2 ^ (n + 1) - 1)) μ1 ∧ fM μ μ1) (n + 1) ?_ ?_ 0 (by omega) μ1 ⟨by rw [p1]; exact IC_e j1, by rw [p1]; exact fun u _ _ h => by omega, j2⟩
    · intro μ2 ⟨k1, k2, k3⟩
      rw [p2] at k1
      obtain ⟨p, hp, hr, hR⟩ := IC_pl k1
      refine Tr_X6_loadSimplex_18 ⟨fun _ => ⟨by rw [hr]; exact cel_o hp, by rw [hr, hR.1]; rfl, k1, k3⟩, fun g => absurd (nI_lt (by omega) (by omega)) g⟩
    · intro s μ2 hs ⟨k1, k2, k3⟩ ih
      refine Tr_X6_loadSimplex_18 ⟨fun g => absurd g (nI_nlt (by omega) (by omega)), fun _ => ?_⟩
      rw [nI_add]
      refine ex_q (c_appendSubsets (by omega) (by omega) k1 k2) (fun v μ3 hq => ?_)
      obtain ⟨rfl, m1, m2, m3⟩ := hq
      refine Tr_X6_loadSimplex_31 ?_
      rw [nI_add]
      rw [p3 s (by omega)] at m1 m2
      exact ih μ3 ⟨m1, m2, fM_tr k3 m3⟩
  · rw [hA, hS, hD]
    exact ⟨fun _ => ⟨rfl, hI, fM_rf⟩, fun g => ⟨fun g2 => absurd g2 (Int32.not_le.mpr (ho.resolve_left g)), fun _ => ⟨rfl, hI, fM_rf⟩⟩⟩
end LS

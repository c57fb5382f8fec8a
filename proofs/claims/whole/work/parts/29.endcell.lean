/-! the draft is stored (class); the cells are removed -/
abbrev chk (S : SS) (D : DD) (j i : Nat) : Prop := fcx S (D.2.2.1 j) (D.1 - 1) (D.2.2.2 j) i = fcx S (D.2.2.1 i) (D.1 - 1) (D.2.2.2 i) (j - 1) ∧ fmx S (D.2.2.1 j) (D.1 - 1) (D.2.2.2 j) i = fmx S (D.2.2.1 i) (D.1 - 1) (D.2.2.2 i) (j - 1)
abbrev idP (S : SS) (D : DD) : Prop := ∀ j, j < D.1 + 1 → ∀ i, i < j → chk S D j i
def A_end (S : SS) (D : DD) : Int32 := if D.1 = 0 then -106 else if D.2.1 = 2 ^ (D.1 + 1) - 1 then (if 2 ≤ D.1 ∧ ¬ idP S D then -108 else if sn S < 48 then nI (sn S) else -105) else -107
def N_endS (S : SS) (D : DD) : SS := if 0 ≤ A_end S D then appS S D.1 D.2.2.1 D.2.2.2 else S
def N_endD (S : SS) (D : DD) : DD := if 0 ≤ A_end S D then (0, 0, zf, zf) else D
theorem d_fullb : ∀ n, n < 5 → ∀ w, w < 2 ^ (n + 1) → (w = 2 ^ (n + 1) - 1 ↔ ∀ k, k < n + 1 → bitN w k = 1) := by
  have : ∀ n, n < 5 → ∀ w, w < 2 ^ (n + 1) → decide (w = 2 ^ (n + 1) - 1) = decide (∀ k, k < n + 1 → bitN w k = 1) := by decide +kernel
  intro n hn w hw
  have := this n hn w hw
  rwa [decide_eq_decide] at this
theorem DV_vs {S : SS} {D : DD} (hD : DV S D) (h1 : 1 ≤ D.1) {k : Nat} (hk : k ≤ D.1) (hb : bitN D.2.1 k = 1) : vsx S (D.2.2.1 k) (D.1 - 1) (D.2.2.2 k) := by
  obtain ⟨q1, q2, q3⟩ := (hD.2 h1).2 k hk hb
  have := hD.1
  exact ⟨q1, by omega, q2, q3⟩
theorem end_V {S : SS} {D : DD} (hV : VS S) (hD : DV S D) : VS (N_endS S D) ∧ DV (N_endS S D) (N_endD S D) := by
  unfold N_endS N_endD
  by_cases h : 0 ≤ A_end S D
  · rw [if_pos h, if_pos h]
    refine ⟨?_, by show (0 : Nat) ≤ 4; omega, fun q => absurd q (by show ¬ 1 ≤ (0 : Nat); omega)⟩
    unfold A_end at h
    by_cases h0 : D.1 = 0
    · rw [if_pos h0] at h; exact absurd h (by decide)
    rw [if_neg h0] at h
    by_cases hw : D.2.1 = 2 ^ (D.1 + 1) - 1
    · rw [if_pos hw] at h
      split at h
      · exact absurd h (by decide)
      · split at h
        · rename_i hn
          refine app_V hV hn hD.1 (fun h1 k hk => ?_)
          have hb := (d_fullb D.1 (by have := hD.1; omega) D.2.1 (hD.2 h1).1).mp hw k (by omega)
          exact (hD.2 h1).2 k hk hb
        · exact absurd h (by decide)
    · rw [if_neg hw] at h; exact absurd h (by decide)
  · rw [if_neg h, if_neg h]; exact ⟨hV, hD⟩
section EC
variable {l : Launch} {ω : Wd} {μ : Mm} {S T : SS} {D : DD}
theorem c_isComplete (hD : DV S D) (hDC : DC D μ) (h1 : 1 ≤ D.1) (hV : VS S) : CtrP l ω M_X1_isComplete [.ref 10] μ (if D.2.1 = 2 ^ (D.1 + 1) - 1 then nI 1 else nI 0) := by
  have h4 := hD.1
  have hfull := d_fullb D.1 (by omega) D.2.1 (hD.2 h1).1
  have h48 := hV.1
  refine Ct_X1_isComplete ?_
  refine upto0 (G := fun k => (∀ j, j < k → bitN D.2.1 j = 1) → Good l ω M_X1_isComplete 2 [.ref 10, .int (nI k)] [] μ _) (D.1 + 1) ?_ ?_ 0 (by omega) (fun j hj => by omega)
  · intro hall
    refine Tr_X1_isComplete_2 ?_
    rw [hDC.1]
    exact ⟨fun _ => ⟨by rw [if_pos (hfull.mpr hall)], rfl⟩, fun g => absurd (nI_lt (by omega) (by omega)) g⟩
  · intro k hk ih hall
    refine Tr_X1_isComplete_2 ?_
    rw [hDC.1, cl_n (by omega), hDC.2 h1 k (by omega), nI_add]
    refine ⟨fun g => absurd g (nI_nlt (by omega) (by omega)), fun _ => ⟨inb_n (n := 5) rfl (by omega) (by decide), fun g => ?_, fun g => ?_⟩⟩
    · have hb : bitN D.2.1 k = 1 := by
        rcases Classical.em (bitN D.2.1 k = 1) with q | q
        · exact q
        · rw [if_neg q] at g; exact absurd rfl g
      exact ih (fun j hj => (Nat.lt_or_ge j k).elim (hall j) (fun q => by rw [show j = k by omega]; exact hb))
    · have g := dnn g
      have hb : ¬ bitN D.2.1 k = 1 := by
        intro q
        rw [if_pos q] at g
        obtain ⟨q1, q2, -⟩ := (hD.2 h1).2 k (by omega) q
        have q3 : D.2.2.2 k < 64 := p2_lt (by omega) q2
        have : ¬ nI (64 * D.2.2.1 k + D.2.2.2 k) < 0 := nI_pos (by omega)
        rw [g] at this
        exact this (by decide)
      exact ⟨by rw [if_neg (fun q => hb (hfull.mp q k (by omega)))], rfl⟩
theorem pack_eq {c m c' m' : Nat} (hc : c < 48) (hm : m < 64) (hc' : c' < 48) (hm' : m' < 64) : nI (64 * c + m) = nI (64 * c' + m') ↔ c = c' ∧ m = m' := by
  rw [nI_eq (by omega) (by omega)]; omega
theorem c_satisfies {t : Nat} (ht : cel t) (hV : VS S) (hD : DV S D) (hR : RC t S μ) (hDC : DC D μ) (h1 : 1 ≤ D.1) (hw : D.2.1 = 2 ^ (D.1 + 1) - 1) : CtrP l ω M_X1_satisfiesIdentities [.ref 10, .ref t] μ (if 2 ≤ D.1 ∧ ¬ idP S D then nI 0 else nI 1) := by
  have h4 := hD.1
  have hb := (d_fullb D.1 (by omega) D.2.1 (hD.2 h1).1).mp hw
  refine Ct_X1_satisfiesIdentities ?_
  rw [hDC.1]
  refine ⟨fun g => ?_, fun g => ?_⟩
  · have h2 : 2 ≤ D.1 := (nI_leI (by omega) (by omega)).mp g
    have e11 : ∀ k, k ≤ D.1 → ss_i μ 11 k = nI (64 * D.2.2.1 k + D.2.2.2 k) := fun k hk => by rw [hDC.2 h1 k hk, if_pos (hb k (by omega))]
    have outer : ∀ j, j ≤ D.1 + 1 → (1 ≤ j → (∀ j', j' < j → ∀ i, i < j' → chk S D j' i) → Good l ω M_X1_satisfiesIdentities 12 [.ref 10, .ref t, .int (nI j), .null, .null, .null] [] μ (fun v μ' => v = some (.int (if 2 ≤ D.1 ∧ ¬ idP S D then nI 0 else nI 1)) ∧ μ' = μ)) := by
      refine upto0 (D.1 + 1) ?_ ?_
      · intro _ hall
        refine Tr_X1_satisfiesIdentities_12 ?_
        rw [hDC.1]
        exact ⟨fun _ => ⟨by rw [if_neg (fun q => q.2 hall)], rfl⟩, fun g => absurd (nI_lt (by omega) (by omega)) g⟩
      · intro j hj ih hj1 hall
        refine Tr_X1_satisfiesIdentities_12 ?_
        rw [hDC.1]
        refine ⟨fun g => absurd g (nI_nlt (by omega) (by omega)), fun _ => ?_⟩
        refine upto0 (G := fun i => (∀ i', i' < i → chk S D j i') → Good l ω M_X1_satisfiesIdentities 22 [.ref 10, .ref t, .int (nI j), .int (nI i), .null, .null] [] μ _) j ?_ ?_ 0 (by omega) (fun i' hi' => by omega)
        · intro hin
          refine Tr_X1_satisfiesIdentities_22 ?_
          rw [nI_add j 1]
          refine ⟨fun _ => ih (by omega) (fun j' hj' i hi => ?_), fun g => absurd (nI_le (Nat.le_refl _) (by omega)) g⟩
          rcases Nat.lt_or_ge j' j with q | q
          · exact hall j' q i hi
          · obtain rfl : j' = j := by omega
            exact hin i hi
        · intro i hi ih2 hin
          have vj := DV_vs hD h1 (k := j) (by omega) (hb j (by omega))
          have vi := DV_vs hD h1 (k := i) (by omega) (hb i (by omega))
          have fj := face_v hV vj (i := i) (by omega) (by omega)
          have fi := face_v hV vi (i := j - 1) (by omega) (by omega)
          have c1 := Nat.lt_of_lt_of_le fj.1 hV.1
          have c2 := Nat.lt_of_lt_of_le fi.1 hV.1
          have m1 := p2_lt fj.2.1 fj.2.2.1
          have m2 := p2_lt fi.2.1 fi.2.2.1
          refine Tr_X1_satisfiesIdentities_22 ?_
          rw [cl_n (by omega), e11 j (by omega), hDC.1, nI_sub1 (by omega)]
          refine ⟨fun g => absurd g (nI_ge hi (by omega)), fun _ => ⟨inb_n (n := 5) rfl (by omega) (by decide), cel_o ht, ex_p (c_faceOf ht hV hR vj (by omega) (by omega)) (Tr_X1_satisfiesIdentities_44 ?_)⟩⟩
          rw [cl_n (by omega), e11 i (by omega), hDC.1, nI_sub1 (by omega), nI_sub1 (by omega)]
          refine ⟨inb_n (n := 5) rfl (by omega) (by decide), cel_o ht, ex_p (c_faceOf ht hV hR vi (by omega) (by omega)) (Tr_X1_satisfiesIdentities_65 ?_)⟩
          rw [pack_eq c1 m1 c2 m2, nI_add i 1]
          refine ⟨fun g => ih2 (fun i' hi' => ?_), fun g => ⟨?_, rfl⟩⟩
          · rcases Nat.lt_or_ge i' i with q | q
            · exact hin i' q
            · obtain rfl : i' = i := by omega
              exact g
          · rw [if_pos ⟨h2, fun q => g (q j (by omega) i hi)⟩]
    exact outer 1 (by omega) (by omega) (fun j' hj' i hi => by omega)
  · have h2 : ¬ 2 ≤ D.1 := fun q => g (nI_le q (by omega))
    exact ⟨by rw [if_neg (fun q => h2 q.1)], rfl⟩
theorem x_endCell (hV : VS S) (hD : DV S D) (hI : IC S T D μ) : Ctr l ω M_X6_endCell [.ref 0] μ (fun v μ' => v = some (.int (A_end S D)) ∧ IC (N_endS S D) T (N_endD S D) μ' ∧ fM μ μ') := by
  obtain ⟨p, hp4, hr, hr1, hR, hR7, hDC⟩ := id hI
  have hp : cel p := by unfold cel; omega
  have h48 := hV.1
  have h4 := hD.1
  have ref : ∀ r : Int32, A_end S D = r → ¬ 0 ≤ r → some (Value.int r) = some (.int (A_end S D)) ∧ IC (N_endS S D) T (N_endD S D) μ ∧ fM μ μ := by
    intro r h1 h2
    refine ⟨by rw [h1], ?_, fM_rf⟩
    unfold N_endS N_endD
    rw [h1, if_neg h2, if_neg h2]
    exact hI
  refine Ct_X6_endCell ?_
  rw [hDC.1, pos_n h4]
  by_cases h0 : D.1 = 0
  · rw [if_pos h0]
    exact ⟨fun g => absurd nI0_eq g, fun _ => ref _ (by unfold A_end; rw [if_pos h0]) (by decide)⟩
  rw [if_neg h0]
  refine ⟨fun _ => ex_p (c_isComplete hD hDC (by omega) hV) (Tr_X6_endCell_20 ?_), fun g => absurd nI1_ne g⟩
  by_cases hw : D.2.1 = 2 ^ (D.1 + 1) - 1
  · rw [if_pos hw, show ss_r μ 0 0 = p from hr]
    refine ⟨fun _ => ex_p (c_satisfies hp hV hD hR hDC (by omega) hw) (Tr_X6_endCell_37 ?_), fun g => absurd nI1_ne g⟩
    rw [show ss_r μ 0 0 = p from hr, hDC.1]
    by_cases hid : 2 ≤ D.1 ∧ ¬ idP S D
    · rw [if_pos hid]
      exact ⟨fun g => absurd nI0_eq g, fun _ => ref _ (by unfold A_end; rw [if_neg h0, if_pos hw, if_pos hid]) (by decide)⟩
    · rw [if_neg hid]
      refine ⟨fun _ => ⟨cel_o hp, ?_⟩, fun g => absurd nI1_ne g⟩
      by_cases hlt : sn S < 48
      · have hA : A_end S D = nI (sn S) := by unfold A_end; rw [if_neg h0, if_pos hw, if_neg hid, if_pos hlt]
        refine ex_q (c_append hp hR.1 hlt rfl) (fun v μ1 hq => ?_)
        obtain ⟨rfl, rfl⟩ := hq
        refine Tr_X6_endCell_64 ⟨fun g => absurd (show nI (sn S) < 0 by rw [g]; decide) (nI_pos (by omega)), fun _ => ex_q (Ct_X1_drop (Q := fun v μ' => v = none ∧ μ' = ss_wi (apM μ p (sn S) (nI D.1) 11) 10 1 (nI 0)) ⟨rfl, rfl⟩) (fun v μ1 hq => ?_)⟩
        obtain ⟨rfl, rfl⟩ := hq
        have hout : ∀ q k, q ≠ p → q ≠ p + 1 → q ≠ p + 2 → q ≠ 10 → ss_i (ss_wi (apM μ p (sn S) (nI D.1) 11) 10 1 (nI 0)) q k = ss_i μ q k := by
          intro q k h1 h2 h3 h4
          rw [ri_wi, if_neg (by omega), ap_i, if_neg (by omega), if_neg (by omega), if_neg (by omega)]
        refine Tr_X6_endCell_78 ⟨by rw [hA], ?_, fun q k hq => hout q k (by omega) (by omega) (by omega) (by omega)⟩
        have h0A : 0 ≤ A_end S D := by rw [hA]; exact nI_pos' (by omega)
        unfold N_endS N_endD
        rw [if_pos h0A, if_pos h0A]
        have hb := (d_fullb D.1 (by omega) D.2.1 (hD.2 (by omega)).1).mp hw
        have hR1 : RC p (appS S D.1 D.2.2.1 D.2.2.2) (apM μ p (sn S) (nI D.1) 11) := ap_R hR (by omega) h4 (fun h1 k hk => by rw [hDC.2 h1 k hk, if_pos (hb k (by omega))]) (fun c hc => (hV.2 c hc).1)
        refine ⟨p, hp4, hr, hr1, RC_same hR1 (fun q k hq => by rw [ri_wi, if_neg (by omega)]), RC_same hR7 (fun q k hq => hout q k (by omega) (by omega) (by omega) (by omega)), ⟨by rw [ri_wi, if_pos ⟨rfl, rfl⟩], fun q => absurd q (by show ¬ 1 ≤ (0 : Nat); omega)⟩⟩
      · refine ex_p (c_appF hp hR.1 hlt h48) (Tr_X6_endCell_64 ⟨fun _ => Tr_X6_endCell_78 ?_, fun g => absurd rfl g⟩)
        exact ref _ (by unfold A_end; rw [if_neg h0, if_pos hw, if_neg hid, if_neg hlt]) (by decide)
  · rw [if_neg hw]
    exact ⟨fun g => absurd nI0_eq g, fun _ => ref _ (by unfold A_end; rw [if_neg h0, if_neg hw]) (by decide)⟩
def eS : SS := (0, zf, (fun _ _ => 0), (fun _ _ => 0))
def eD : DD := (0, 0, zf, zf)
theorem eS_V : VS eS := ⟨by show (0 : Nat) ≤ 48; omega, fun c hc => absurd hc (by show ¬ c < 0; omega)⟩
theorem eD_V {S : SS} : DV S eD := ⟨by show (0 : Nat) ≤ 4; omega, fun q => absurd q (by show ¬ 1 ≤ (0 : Nat); omega)⟩
theorem c_removeAll (hI : IC S T D μ) : Ctr l ω M_X6_removeAll [.ref 0] μ (fun v μ' => v = none ∧ IC eS T eD μ' ∧ fM μ μ' ∧ (∀ q k, 11 ≤ q → ss_i μ' q k = ss_i μ q k)) := by
  obtain ⟨p, hp4, hr, hr1, hR, hR7, hDC⟩ := id hI
  have hp : cel p := by unfold cel; omega
  refine Ct_X6_removeAll ?_
  rw [show ss_r μ 0 0 = p from hr]
  refine ⟨cel_o hp, ex_q (Ct_X1_drop (Q := fun v μ' => v = none ∧ μ' = ss_wi (ss_wi μ p 2 (nI 0)) 10 1 (nI 0)) ⟨rfl, rfl⟩) (fun v μ1 hq => ?_)⟩
  obtain ⟨rfl, rfl⟩ := hq
  have hout : ∀ q k, q ≠ p → q ≠ 10 → ss_i (ss_wi (ss_wi μ p 2 (nI 0)) 10 1 (nI 0)) q k = ss_i μ q k := by
    intro q k h1 h2
    rw [ri_wi, if_neg (by omega), ri_wi, if_neg (by omega)]
  refine Tr_X6_removeAll_15 ⟨rfl, ⟨p, hp4, hr, hr1, ⟨?_, fun c hc => absurd hc (by show ¬ c < 0; omega)⟩, RC_same hR7 (fun q k hq => hout q k (by omega) (by omega)), ⟨by rw [ri_wi, if_pos ⟨rfl, rfl⟩]; rfl, fun q => absurd q (by show ¬ 1 ≤ (0 : Nat); omega)⟩⟩, fun q k hq => hout q k (by omega) (by omega), fun q k hq => hout q k (by omega) (by omega)⟩
  rw [ri_wi, if_neg (by omega), ri_wi, if_pos ⟨rfl, rfl⟩]
  rfl
theorem x_clear (hI : IC S T D μ) : Ctr l ω M_X6_clear [.ref 0] μ (fun v μ' => v = some (.int (nI (sn S))) ∧ IC eS T eD μ' ∧ fM μ μ') := by
  obtain ⟨p, hp, hr, hR⟩ := IC_pl hI
  refine Ct_X6_clear ?_
  rw [hr, hR.1]
  refine ⟨cel_o hp, ex_q (c_removeAll hI) (fun v μ1 hq => ?_)⟩
  obtain ⟨rfl, h1, h2, -⟩ := hq
  exact Tr_X6_clear_12 ⟨rfl, h1, h2⟩
end EC

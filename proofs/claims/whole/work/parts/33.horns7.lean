/-! horns (reference) -/
def FM (μ : Mm) (F : Nat → Nat → Bool) : Prop := ∀ a b, a < 48 → b < 48 → ss_i μ 42 (48 * a + b) = if F a b then nI 1 else nI 0
section H7
variable {l : Launch} {ω : Wd} {μ : Mm} {S T : SS} {D : DD}
theorem nz0 : vp_nar .boolean (nI 0) = nI 0 := by decide
theorem nz1 : vp_nar .boolean (nI 1) = nI 1 := by decide
theorem pop4 : ∀ m, m < 4 → iBits (nI m) = nI (popN m) := by decide +kernel
theorem c_layFilled {lo up : Nat} (hV : VS S) (hI : IM S T D μ) (hlo : lo ≤ 2) (hup : up ≤ 2) : Ctr l ω M_X7_layFilled [.ref 29, .int (nI lo), .int (nI up)] μ (fun v μ' => v = none ∧ kM μ μ' ∧ FM μ' (flC S lo up (sn S))) := by
  have h48 := hV.1
  refine Ct_X7_layFilled ?_
  have second : ∀ μ1, kM μ μ1 → FM μ1 (fun _ _ => false) → Good l ω M_X7_layFilled 24 [.ref 29, .int (nI lo), .int (nI up), .int (nI 0), .null, .null] [] μ1 (fun v μ' => v = none ∧ kM μ μ' ∧ FM μ' (flC S lo up (sn S))) := by
    intro μ1 k1 k2
    refine upto1 (G := fun c μ1 => Good l ω M_X7_layFilled 24 [.ref 29, .int (nI lo), .int (nI up), .int (nI c), .null, .null] [] μ1 _) (I := fun c μ1 => kM μ μ1 ∧ FM μ1 (flC S lo up c)) (sn S) ?_ ?_ 0 (by omega) μ1 ⟨k1, k2⟩
    · intro μ1 ⟨k1, k2⟩
      refine Tr_X7_layFilled_24 ?_
      rw [(IM_k hI k1).1.1]
      exact ⟨fun _ => ⟨rfl, k1, k2⟩, fun g => absurd (nI_le (Nat.le_refl _) (by omega)) g⟩
    · intro c μ1 hc ⟨k1, k2⟩ ih
      refine Tr_X7_layFilled_24 ?_
      rw [(IM_k hI k1).1.1]
      refine ⟨fun g => absurd g (nI_ge hc (by omega)), fun _ => ?_⟩
      refine upto1 (G := fun m μ2 => Good l ω M_X7_layFilled 35 [.ref 29, .int (nI lo), .int (nI up), .int (nI c), .int (nI m), .null] [] μ2 _) (I := fun m μ2 => kM μ μ2 ∧ FM μ2 (flI S lo up c (flC S lo up c) m)) 4 ?_ ?_ 0 (by omega) μ1 ⟨k1, k2⟩
      · intro μ2 ⟨j1, j2⟩
        refine Tr_X7_layFilled_35 ⟨fun _ => ?_, fun g => absurd (by decide) g⟩
        rw [nI_add]
        exact ih μ2 ⟨j1, j2⟩
      · intro m μ2 hm ⟨j1, j2⟩ ih2
        have hI2 := IM_k hI j1
        have hsd := (hV.2 c hc).1
        have hpm := pop_lt64 m (by omega)
        refine Tr_X7_layFilled_35 ⟨fun g => absurd g (nI_ge (by omega) (by omega)), fun _ => ⟨inb_n (n := 96) rfl (by omega) (by decide), ?_⟩⟩
        rw [cl_n (by omega), RM_d0 hI2.1 hc, pop4 m hm, nI_eq (by omega) (by omega), nI_add]
        refine ⟨fun hp => ih2 μ2 ⟨j1, ?_⟩, fun hp => ?_⟩
        · have : flI S lo up c (flC S lo up c) (m + 1) = flI S lo up c (flC S lo up c) m := by rw [flI, mkF, if_neg hp]
          rw [this]; exact j2
        · have hp := dnn hp
          have hv : vsx S c 2 m := ⟨hc, by decide, by omega, hp⟩
          have f1 := face_v hV hv (i := lo) (by decide) hlo
          have f2 := face_v hV hv (i := up) (by decide) hup
          have c1 := Nat.lt_of_lt_of_le f1.1 hV.1
          have c2 := Nat.lt_of_lt_of_le f2.1 hV.1
          refine ex_q (c_takeFace (by decide) hV hI2.1 hv (by decide) hlo) (fun v μ3 hq => ?_)
          obtain ⟨rfl, rfl⟩ := hq
          have j3 := kM_tr j1 (kM_got (μ := μ2) (a := nI (fcx S c 2 m lo)) (b := nI (fmx S c 2 m lo)))
          refine Tr_X7_layFilled_65 (ex_q (c_takeFace (by decide) hV (IM_k hI j3).1 hv (by decide) hup) (fun v μ4 hq => ?_))
          obtain ⟨rfl, rfl⟩ := hq
          have j4 := kM_tr j3 (kM_got (a := nI (fcx S c 2 m up)) (b := nI (fmx S c 2 m up)))
          refine Tr_X7_layFilled_81 ?_
          rw [got9, got9, pk_mul, nI_add, cl_n (by omega), nI_add, nz1]
          refine ⟨inb_n (n := 2304) rfl (by omega) (by decide), ih2 _ ⟨kM_tr j4 (kM_p (q := 42) (by decide)), fun a b ha hb => ?_⟩⟩
          show _ = if mkF S lo up c m _ a b then nI 1 else nI 0
          unfold mkF
          rw [if_pos hp, ri_wi]
          by_cases hab : a = fcx S c 2 m lo ∧ b = fcx S c 2 m up
          · rw [if_pos ⟨rfl, by rw [hab.1, hab.2]⟩]
            simp [hab.1, hab.2]
          · have : ¬ (48 * a + b = 48 * fcx S c 2 m lo + fcx S c 2 m up) := by
              intro q; apply hab; omega
            rw [if_neg (fun r => this r.2), ri_wi, if_neg (by omega), ri_wi, if_neg (by omega), ri_wi, if_neg (by omega), ri_wi, if_neg (by omega), j2 a b ha hb]
            have e : (decide (a = fcx S c 2 m lo) && decide (b = fcx S c 2 m up)) = false := by
              cases h : (decide (a = fcx S c 2 m lo) && decide (b = fcx S c 2 m up)) with
              | false => rfl
              | true =>
                rw [Bool.and_eq_true, decide_eq_true_eq, decide_eq_true_eq] at h
                exact absurd h hab
            rw [e, Bool.or_false]
  refine upto1 (G := fun x μ1 => Good l ω M_X7_layFilled 2 [.ref 29, .int (nI lo), .int (nI up), .int (nI x), .null, .null] [] μ1 _) (I := fun x μ1 => kM μ μ1 ∧ ∀ z, z < x → ss_i μ1 42 z = nI 0) 2304 ?_ ?_ 0 (by omega) μ ⟨kM_rf, fun z hz => by omega⟩
  · intro μ1 ⟨k1, k2⟩
    exact Tr_X7_layFilled_2 ⟨fun _ => second μ1 k1 (fun a b ha hb => by rw [k2 _ (by omega)]; rfl), fun g => absurd (by decide) g⟩
  · intro x μ1 hx ⟨k1, k2⟩ ih
    refine Tr_X7_layFilled_2 ⟨fun g => absurd g (nI_ge hx (by decide)), fun _ => ⟨inb_n (n := 2304) rfl hx (by decide), ?_⟩⟩
    rw [cl_n (by omega), nI_add, nz0]
    refine ih _ ⟨kM_tr k1 (kM_p (q := 42) (by decide)), fun z hz => ?_⟩
    rw [ri_wi]
    by_cases hzx : z = x
    · rw [if_pos ⟨rfl, hzx⟩]
    · rw [if_neg (fun r => hzx r.2)]; exact k2 z (by omega)
theorem c_vertexOf (hV : VS S) (hR : RM 0 0 S μ) {c i : Nat} (hc : c < sn S) (h1 : sd S c ≤ 1) (hi : i ≤ 1) : CtrP l ω M_X7_vertexOf [.ref 29, .int (nI c), .int (nI i)] μ (nI (vt S c i)) := by
  have h48 := hV.1
  refine Ct_X7_vertexOf ?_
  rw [cl_n (by omega), RM_d0 hR hc, pk_mul, nI_add]
  refine ⟨inb_n (n := 96) rfl (by omega) (by decide), fun g => ?_, fun g => ?_⟩
  · have h0 : ¬ sd S c = 0 := fun q => g (by rw [q]; rfl)
    rw [cl_n (by omega), RM_f0 hR hc (by omega) (by omega)]
    exact ⟨inb_n (n := 480) rfl (by omega) (by decide), by unfold vt; rw [if_neg h0], rfl⟩
  · have g := dnn g
    rw [i0, nI_eq (by omega) (by omega)] at g
    exact ⟨by unfold vt; rw [if_pos g], rfl⟩
theorem c_hornsAt (hV : VS S) (hI : IM S T D μ) {k : Nat} (hk : k < 3) (free : Bool) : Ctr l ω M_X7_hornsAt [.ref 29, .int (nI k), .int (if free then nI 1 else nI 0)] μ (fun v μ' => v = some (.int (nI (hnV S k (fun a b => free && flC S (loN k) (upN k) (sn S) a b)))) ∧ kM μ μ') := by
  have h48 := hV.1
  obtain ⟨u1, u2, u3⟩ := lu_b k hk
  generalize hP : (fun a b => hornB S (loN k) (upN k) a b && !(free && flC S (loN k) (upN k) (sn S) a b)) = P
  have hval : hnV S k (fun a b => free && flC S (loN k) (upN k) (sn S) a b) = hcA P (sn S) (sn S) := by unfold hnV; rw [← hP]
  rw [hval]
  have main : ∃ Q1, Ctr l ω M_X7_layFilled [.ref 29, .int (nI (loN k)), .int (nI (upN k))] μ Q1 ∧ ∀ v μ1, Q1 v μ1 → Good l ω M_X7_hornsAt 29 [.ref 29, .null, .int (if free then nI 1 else nI 0), .int (nI (loN k)), .int (nI (upN k)), .null, .null, .null, .null] (v.toList ++ []) μ1 (fun v μ' => v = some (.int (nI (hcA P (sn S) (sn S)))) ∧ kM μ μ') := by
    refine ex_q (c_layFilled hV hI (by omega) (by omega)) (fun v μ1 hq => ?_)
    obtain ⟨rfl, k1, k2⟩ := hq
    have hR := (IM_k hI k1).1
    refine Tr_X7_hornsAt_29 ?_
    refine upto0 (G := fun a => Good l ω M_X7_hornsAt 35 [.ref 29, .null, .int (if free then nI 1 else nI 0), .int (nI (loN k)), .int (nI (upN k)), .int (nI (hcA P (sn S) a)), .int (nI a), .null, .null] [] μ1 _) (sn S) ?_ ?_ 0 (by omega)
    · refine Tr_X7_hornsAt_35 ?_
      rw [hR.1]
      exact ⟨fun _ => ⟨rfl, k1⟩, fun g => absurd (nI_le (Nat.le_refl _) (by omega)) g⟩
    · intro a ha ih
      refine Tr_X7_hornsAt_35 ?_
      rw [hR.1]
      refine ⟨fun g => absurd g (nI_ge ha (by omega)), fun _ => ?_⟩
      refine upto0 (G := fun b => Good l ω M_X7_hornsAt 47 [.ref 29, .null, .int (if free then nI 1 else nI 0), .int (nI (loN k)), .int (nI (upN k)), .int (nI (hcA P (sn S) a + hcB P a b)), .int (nI a), .int (nI b), .null] [] μ1 _) (sn S) ?_ ?_ 0 (by omega)
      · refine Tr_X7_hornsAt_47 ?_
        rw [hR.1, nI_add a 1]
        exact ⟨fun _ => ih, fun g => absurd (nI_le (Nat.le_refl _) (by omega)) g⟩
      · intro b hb ih2
        have hsa := (hV.2 a ha).1
        have hsb := (hV.2 b hb).1
        have ePab : P a b = (hornB S (loN k) (upN k) a b && !(free && flC S (loN k) (upN k) (sn S) a b)) := by rw [← hP]
        have no : P a b = false → Good l ω M_X7_hornsAt 47 [.ref 29, .null, .int (if free then nI 1 else nI 0), .int (nI (loN k)), .int (nI (upN k)), .int (nI (hcA P (sn S) a + hcB P a b) + nI 0), .int (nI a), .int (nI b + nI 1), .null] [] μ1 (fun v μ' => v = some (.int (nI (hcA P (sn S) (sn S)))) ∧ kM μ μ') := by
          intro h
          rw [show hcA P (sn S) a + hcB P a (b + 1) = hcA P (sn S) a + hcB P a b by rw [hcB, h]; rfl] at ih2
          rw [add_n0, nI_add]
          exact ih2
        have yes : P a b = true → Good l ω M_X7_hornsAt 47 [.ref 29, .null, .int (if free then nI 1 else nI 0), .int (nI (loN k)), .int (nI (upN k)), .int (nI (hcA P (sn S) a + hcB P a b) + nI 1), .int (nI a), .int (nI b + nI 1), .null] [] μ1 (fun v μ' => v = some (.int (nI (hcA P (sn S) (sn S)))) ∧ kM μ μ') := by
          intro h
          rw [show hcA P (sn S) a + hcB P a (b + 1) = hcA P (sn S) a + hcB P a b + 1 by rw [hcB, h]; rfl] at ih2
          rw [nI_add, nI_add]
          exact ih2
        refine Tr_X7_hornsAt_47 ?_
        rw [hR.1, cl_n (by omega), cl_n (by omega), RM_d0 hR ha, RM_d0 hR hb]
        refine ⟨fun g => absurd g (nI_ge hb (by omega)), fun _ => ⟨inb_n (n := 96) rfl (by omega) (by decide), fun g => ?_, fun g => ⟨inb_n (n := 96) rfl (by omega) (by decide), fun g2 => ?_, fun g2 => ?_⟩⟩⟩
        · apply no
          have : ¬ sd S a < 2 := by rw [nI_leI (by omega) (by omega)] at g; omega
          rw [ePab]; unfold hornB
          rw [decide_eq_false this]; rfl
        · apply no
          have : ¬ sd S b < 2 := by rw [nI_leI (by omega) (by omega)] at g2; omega
          rw [ePab]; unfold hornB
          rw [decide_eq_false this]; simp
        · have ha1 : sd S a ≤ 1 := by rw [nI_leI (by omega) (by omega)] at g; omega
          have hb1 : sd S b ≤ 1 := by rw [nI_leI (by omega) (by omega)] at g2; omega
          have va := vt_lt hV ha ha1 (i := upN k - 1) (by omega)
          have vb := vt_lt hV hb hb1 (i := loN k) (by omega)
          refine ex_p (c_vertexOf hV hR hb hb1 (by omega)) (Tr_X7_hornsAt_85 ?_)
          rw [nI_sub1 (by omega)]
          refine ex_p (c_vertexOf hV hR ha ha1 (by omega)) (Tr_X7_hornsAt_95 ?_)
          rw [nI_eq (by omega) (by omega), pk_mul, nI_add (48 * a) b, cl_n (by omega), k2 a b (by omega) (by omega)]
          have hin : inb 42 3 (nI (48 * a + b)) = true := inb_n (n := 2304) rfl (by omega) (by decide)
          refine ⟨fun g3 => ?_, fun g3 => ?_⟩
          · apply no
            rw [ePab]; unfold hornB
            rw [decide_eq_false g3]; simp
          · have g3 := dnn g3
            have eh : hornB S (loN k) (upN k) a b = true := by
              unfold hornB
              rw [decide_eq_true (show sd S a < 2 by omega), decide_eq_true (show sd S b < 2 by omega), decide_eq_true g3]; rfl
            refine ⟨fun g4 => ?_, fun g4 => ⟨hin, fun g5 => ?_, fun g5 => ?_⟩⟩
            · apply yes
              have : free = false := by cases hf : free with | false => rfl | true => rw [hf] at g4; exact absurd g4 nI1_ne
              rw [ePab, eh, this]; rfl
            · apply no
              have h1 : free = true := by cases hf : free with | true => rfl | false => rw [hf] at g4; exact absurd nI0_eq g4
              have h2 : flC S (loN k) (upN k) (sn S) a b = true := by
                cases h : flC S (loN k) (upN k) (sn S) a b with
                | true => rfl
                | false => rw [h] at g5; exact absurd nI0_eq g5
              rw [ePab, h1, h2]; simp
            · apply yes
              have h2 : flC S (loN k) (upN k) (sn S) a b = false := by
                cases h : flC S (loN k) (upN k) (sn S) a b with
                | false => rfl
                | true => rw [h] at g5; exact absurd (dnn g5) nI1_ne
              rw [ePab, eh, h2]; simp
  refine Ct_X7_hornsAt ⟨fun g => ⟨fun g2 => ?_, fun g2 => ?_⟩, fun g => ⟨fun g2 => ?_, fun g2 => ?_⟩⟩
  · have h0 : k ≠ 0 := fun q => g (by rw [q]; rfl)
    have h2 : k ≠ 2 := fun q => g2 (by rw [q])
    rw [show loN k = 0 by unfold loN; rw [if_neg h0], show upN k = 2 by unfold upN; rw [if_neg h2]] at main
    exact main
  · have h0 : k ≠ 0 := fun q => g (by rw [q]; rfl)
    have h2 : k = 2 := (nI_eq (by omega) (by omega)).mp (dnn g2)
    rw [show loN k = 0 by unfold loN; rw [if_neg h0], show upN k = 1 by unfold upN; rw [if_pos h2]] at main
    exact main
  · have h0 : k = 0 := (nI_eq (by omega) (by omega)).mp (dnn g)
    have h2 : k ≠ 2 := by omega
    rw [show loN k = 1 by unfold loN; rw [if_pos h0], show upN k = 2 by unfold upN; rw [if_neg h2]] at main
    exact main
  · have h0 : k = 0 := (nI_eq (by omega) (by omega)).mp (dnn g)
    have h2 : k = 2 := (nI_eq (by omega) (by omega)).mp (dnn g2)
    omega
theorem m_hornCount (hV : VS S) (hI : IM S T D μ) (a : Int32) : Ctr l ω M_X7_hornCount [.ref 29, .int a] μ (fun v μ' => v = some (.int (A_horn S a)) ∧ kM μ μ') := by
  refine Ct_X7_hornCount ?_
  rcases rng_c (lo := 0) (hi := 2) (by decide) (by decide) a with ⟨k, -, hk, rfl⟩ | h | h
  · rw [in_t (by decide) (by omega) hk]
    refine ⟨fun g => absurd g nI1_ne, fun _ => ex_q (c_hornsAt hV hI (by omega) false) (fun v μ1 hq => ?_)⟩
    obtain ⟨rfl, k1⟩ := hq
    refine Tr_X7_hornCount_15 ⟨?_, k1⟩
    unfold A_horn
    rw [if_neg (nI_pos (by omega)), if_pos (nI_le hk (by omega)), cl_n (by omega)]
    simp only [Bool.false_and]
  · rw [in_f (Or.inl h)]
    exact ⟨fun _ => ⟨by unfold A_horn; rw [if_pos (show a < 0 from h)], kM_rf⟩, fun g => absurd nI0_eq g⟩
  · rw [in_f (Or.inr h)]
    refine ⟨fun _ => ⟨?_, kM_rf⟩, fun g => absurd nI0_eq g⟩
    unfold A_horn
    rw [if_neg (Int32.not_le.mpr h : ¬ a ≤ nI 2)]
    split <;> rfl
theorem m_unfilledCount (hV : VS S) (hI : IM S T D μ) (a : Int32) : Ctr l ω M_X7_unfilledCount [.ref 29, .int a] μ (fun v μ' => v = some (.int (A_unf S a)) ∧ kM μ μ') := by
  refine Ct_X7_unfilledCount ?_
  rcases rng_c (lo := 0) (hi := 2) (by decide) (by decide) a with ⟨k, -, hk, rfl⟩ | h | h
  · rw [in_t (by decide) (by omega) hk]
    refine ⟨fun g => absurd g nI1_ne, fun _ => ex_q (c_hornsAt hV hI (by omega) true) (fun v μ1 hq => ?_)⟩
    obtain ⟨rfl, k1⟩ := hq
    refine Tr_X7_unfilledCount_15 ⟨?_, k1⟩
    unfold A_unf
    rw [if_neg (nI_pos (by omega)), if_pos (nI_le hk (by omega)), cl_n (by omega)]
    simp only [Bool.true_and]
  · rw [in_f (Or.inl h)]
    exact ⟨fun _ => ⟨by unfold A_unf; rw [if_pos (show a < 0 from h)], kM_rf⟩, fun g => absurd nI0_eq g⟩
  · rw [in_f (Or.inr h)]
    refine ⟨fun _ => ⟨?_, kM_rf⟩, fun g => absurd nI0_eq g⟩
    unfold A_unf
    rw [if_neg (Int32.not_le.mpr h : ¬ a ≤ nI 2)]
    split <;> rfl
end H7

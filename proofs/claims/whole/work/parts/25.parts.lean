/-! incidence, parts -/
def incR (S : SS) (c o : Nat) : Nat → Int32
  | 0 => nI 0
  | k + 1 => if sf S c k = o then incR S c o k + iSign (nI k) else incR S c o k
def entV (S : SS) (c o : Nat) : Int32 := if sd S c = sd S o + 1 then incR S c o (sd S c + 1) else nI 0
def A_inc (S : SS) (a b : Int32) : Int32 := if iHasC (nI (sn S)) a = 0 then -101 else if iHasC (nI (sn S)) b = 0 then -101 else entV S a.toNatClampNeg b.toNatClampNeg
theorem add_n0 (x : Int32) : x + nI 0 = x := Int32.add_zero x
theorem sub_n0 (x : Int32) : x - nI 0 = x := Int32.sub_zero x
theorem sub_n1 (x : Int32) : x - nI 1 = x + (-1) := by rw [Int32.sub_eq_add_neg]; rfl
section IQ
variable {l : Launch} {ω : Wd} {μ : Mm} {S T : SS} {D : DD}
theorem x_incidence (hV : VS S) (hI : IC S T D μ) (a b : Int32) : CtrP l ω M_X6_incidence [.ref 0, .int a, .int b] μ (A_inc S a b) := by
  obtain ⟨p, hp, hr, hR⟩ := IC_pl hI
  have h48 := hV.1
  refine Ct_X6_incidence ?_
  rw [hr, hR.1]
  refine ⟨cel_o hp, fun g => ⟨by unfold A_inc; rw [if_pos g], rfl⟩, fun g => ⟨cel_o hp, fun g2 => ?_, fun g2 => ⟨by unfold A_inc; rw [if_neg g, if_pos (dnn g2)], rfl⟩⟩⟩
  obtain ⟨c, hc, rfl⟩ : ∃ x, x < sn S ∧ a = nI x := (cell_c hV.1 a).resolve_right (fun q => g (by rw [q.1]; exact nI0_eq))
  obtain ⟨o, ho, rfl⟩ : ∃ x, x < sn S ∧ b = nI x := (cell_c hV.1 b).resolve_right (fun q => g2 (by rw [q.1]; exact nI0_eq))
  have hcd := hV.2 c hc
  have hod := (hV.2 o ho).1
  rw [cel_r0 hp, cl_n (by omega), cl_n (by omega), (hR.2 c hc).1, (hR.2 o ho).1]
  have eA : A_inc S (nI c) (nI o) = entV S c o := by unfold A_inc; rw [if_neg g, if_neg g2, cl_n (by omega), cl_n (by omega)]
  rw [eA]
  refine ⟨cel_o hp, inb_n (cel_1 hp) (by omega) (by decide), cel_o hp, inb_n (cel_1 hp) (by omega) (by decide), fun g3 => ?_, fun g3 => ?_⟩
  · have hs : sd S c = sd S o + 1 := by
      rcases Nat.eq_zero_or_pos (sd S c) with q | q
      · rw [q] at g3
        have : ∀ n, n < 5 → ¬ nI n = nI 0 - nI 1 := by decide
        exact absurd g3 (this _ (by omega))
      · rw [nI_sub1 q, nI_eq (by omega) (by omega)] at g3
        omega
    rw [show entV S c o = incR S c o (sd S c + 1) by unfold entV; rw [if_pos hs]]
    refine upto0 (G := fun k => Good l ω M_X6_incidence 58 [.ref 0, .int (nI c), .int (nI o), .int (nI (sd S c)), .int (incR S c o k), .int (nI k)] [] μ (fun v μ' => v = some (.int (incR S c o (sd S c + 1))) ∧ μ' = μ)) (sd S c + 1) ?_ ?_ 0 (by omega)
    · exact Tr_X6_incidence_58 ⟨fun _ => ⟨rfl, rfl⟩, fun q => absurd (nI_lt (by omega) (by omega)) q⟩
    · intro k hk h
      rw [← nI_1] at h
      obtain ⟨f1, f2, f3⟩ := hcd.2 (by omega) k (by omega)
      have f8 : sm S c k < 8 := Nat.lt_of_lt_of_le f2 (two_le (b := 3) (by omega))
      refine Tr_X6_incidence_58 ⟨fun q => absurd q (nI_nlt (by omega) (by omega)), fun _ => ?_⟩
      rw [hr, cel_r1 hp, show nI c * nI 5 + nI k = nI (5 * c + k) by rw [pk_mul, nI_add]; congr 1; omega, cl_n (by omega), RC_k hR hc (by omega) (by omega), pk_cell (by omega) (by omega)]
      refine ⟨cel_o hp, fAt_n hp hV hR hc (by omega), fun q => ?_, fun q => ?_⟩
      · rw [nI_eq (by omega) (by omega)] at q
        rw [show incR S c o (k + 1) = incR S c o k by rw [incR, if_neg q]] at h
        exact h
      · have q := dnn q
        rw [nI_eq (by omega) (by omega)] at q
        rw [show incR S c o (k + 1) = incR S c o k + iSign (nI k) by rw [incR, if_pos q]] at h
        exact h
  · refine ⟨?_, rfl⟩
    unfold entV
    rw [if_neg]
    intro q
    apply g3
    rw [nI_sub1 (by omega), q]
    rfl
theorem c_entryOf (hV : VS S) (hR : RM 0 0 S μ) {c o : Nat} (hc : c < sn S) (ho : o < sn S) : CtrP l ω M_X7_entryOf [.ref 29, .int (nI c), .int (nI o)] μ (entV S c o) := by
  have h48 := hV.1
  have hcd := hV.2 c hc
  have hod := (hV.2 o ho).1
  refine Ct_X7_entryOf ?_
  rw [cl_n (by omega), cl_n (by omega), RM_d0 hR hc, RM_d0 hR ho, nI_add]
  refine ⟨inb_n (n := 96) rfl (by omega) (by decide), inb_n (n := 96) rfl (by omega) (by decide), fun g3 => ?_, fun g3 => ?_⟩
  · rw [nI_eq (by omega) (by omega)] at g3
    exact ⟨by unfold entV; rw [if_neg g3], rfl⟩
  · have hs := dnn g3
    rw [nI_eq (by omega) (by omega)] at hs
    rw [show entV S c o = incR S c o (sd S c + 1) by unfold entV; rw [if_pos hs]]
    refine upto0 (G := fun k => Good l ω M_X7_entryOf 22 [.ref 29, .int (nI c), .int (nI o), .int (incR S c o k), .int (nI k)] [] μ (fun v μ' => v = some (.int (incR S c o (sd S c + 1))) ∧ μ' = μ)) (sd S c + 1) ?_ ?_ 0 (by omega)
    · refine Tr_X7_entryOf_22 ?_
      rw [cl_n (by omega), RM_d0 hR hc]
      exact ⟨inb_n (n := 96) rfl (by omega) (by decide), fun _ => ⟨rfl, rfl⟩, fun q => absurd (nI_lt (by omega) (by omega)) q⟩
    · intro k hk h
      rw [← nI_1] at h
      obtain ⟨f1, f2, f3⟩ := hcd.2 (by omega) k (by omega)
      refine Tr_X7_entryOf_22 ?_
      rw [cl_n (by omega), RM_d0 hR hc, show nI 5 * nI c + nI k = nI (5 * c + k) by rw [pk_mul, nI_add], cl_n (by omega), RM_f0 hR hc (by omega) (by omega)]
      refine ⟨inb_n (n := 96) rfl (by omega) (by decide), fun q => absurd q (nI_nlt (by omega) (by omega)), fun _ => ⟨inb_n (n := 480) rfl (by omega) (by decide), fun q => ⟨fun q2 => ?_, fun q2 => ?_⟩, fun q => ?_⟩⟩
      · rw [nI_eq (by omega) (by omega)] at q
        rw [show incR S c o (k + 1) = incR S c o k + (-1) by rw [incR, if_pos q, iSign, if_neg q2]] at h
        exact h
      · rw [nI_eq (by omega) (by omega)] at q
        rw [show incR S c o (k + 1) = incR S c o k + nI 1 by rw [incR, if_pos q, iSign, if_pos (dnn q2)]] at h
        exact h
      · rw [nI_eq (by omega) (by omega)] at q
        rw [show incR S c o (k + 1) = incR S c o k by rw [incR, if_neg q]] at h
        rw [add_n0]
        exact h
theorem m_incidence (hV : VS S) (hI : IM S T D μ) (a b : Int32) : CtrP l ω M_X7_incidence [.ref 29, .int a, .int b] μ (A_inc S a b) := by
  have h48 := hV.1
  refine Ct_X7_incidence ?_
  rw [hI.1.1]
  rcases cell_c hV.1 a with ⟨c, hc, rfl⟩ | ⟨h, h'⟩
  · rw [not_t hV.1 hc]
    refine ⟨fun g => absurd nI0_eq g, fun _ => ?_⟩
    rcases cell_c hV.1 b with ⟨o, ho, rfl⟩ | ⟨h, h'⟩
    · rw [not_t hV.1 ho]
      refine ⟨fun _ => ex_p (c_entryOf hV hI.1 hc ho) (Tr_X7_incidence_27 ⟨?_, rfl⟩), fun g => absurd nI0_eq g⟩
      unfold A_inc
      rw [has_t hV.1 hc, if_neg nI1_ne, has_t hV.1 ho, if_neg nI1_ne, cl_n (by omega), cl_n (by omega)]
    · rw [h']
      refine ⟨fun g => absurd g nI1_ne, fun _ => Tr_X7_incidence_27 ⟨?_, rfl⟩⟩
      unfold A_inc
      rw [has_t hV.1 hc, if_neg nI1_ne, h, if_pos nI0_eq]
  · rw [h']
    refine ⟨fun _ => Tr_X7_incidence_27 ⟨?_, rfl⟩, fun g => absurd nI1_ne g⟩
    unfold A_inc
    rw [h, if_pos nI0_eq]
/-! parts -/
def ptN (P : Nat → Nat) (x y : Nat) : Nat → Nat := fun z => if P z = P y then P x else P z
def ptR (S : SS) : Nat → Nat → Nat
  | 0 => fun z => z
  | c + 1 => if sd S c = 1 then ptN (ptR S c) (sf S c 0) (sf S c 1) else ptR S c
def pcR (S : SS) : Nat → Int32
  | 0 => nI (cntN S 0 (sn S))
  | c + 1 => if sd S c = 1 then (if ptR S c (sf S c 0) = ptR S c (sf S c 1) then pcR S c else pcR S c + (-1)) else pcR S c
theorem ptR_lt (hV : VS S) : ∀ c, c ≤ sn S → ∀ z, z < sn S → ptR S c z < sn S := by
  intro c
  induction c with
  | zero => intro _ z hz; exact hz
  | succ c ih =>
    intro hc z hz
    unfold ptR
    split
    · rename_i h1
      unfold ptN
      split
      · exact ih (by omega) _ ((hV.2 c (by omega)).2 (by omega) 0 (by omega)).1
      · exact ih (by omega) _ hz
    · exact ih (by omega) _ hz
theorem kC_26 {μ : Mm} {j : Nat} {v : Int32} : kC μ (ss_wi μ 26 j v) := ⟨fun q k h1 h2 => by rw [ri_wi, if_neg (by omega)], rfl, fun q k h => by rw [ri_wi, if_neg (by omega)]⟩
theorem c_joinEnds (hV : VS S) (hI : IC S T D μ) {c : Nat} (hc : c < sn S) (h1 : sd S c = 1) (P : Nat → Nat) (hP : ∀ z, z < sn S → ss_i μ 26 z = nI (P z) ∧ P z < 48) : Ctr l ω M_X6_joinEnds [.ref 0, .int (nI c)] μ (fun v μ' => v = some (.int (if P (sf S c 0) = P (sf S c 1) then nI 0 else nI 1)) ∧ kC μ μ' ∧ ∀ z, z < sn S → ss_i μ' 26 z = nI (ptN P (sf S c 0) (sf S c 1) z)) := by
  obtain ⟨p, hp, hr, hR⟩ := IC_pl hI
  have h48 := hV.1
  have hcd := hV.2 c hc
  obtain ⟨f1, f2, f3⟩ := hcd.2 (by omega) 0 (by omega)
  obtain ⟨g1, g2, g3⟩ := hcd.2 (by omega) 1 (by omega)
  have f8 : sm S c 0 < 8 := Nat.lt_of_lt_of_le f2 (two_le (b := 3) (by omega))
  have g8 : sm S c 1 < 8 := Nat.lt_of_lt_of_le g2 (two_le (b := 3) (by omega))
  have e0 : nI c * nI 5 + nI 0 = nI (5 * c + 0) := by rw [pk_mul, nI_add]; congr 1; omega
  have e1 : nI c * nI 5 + nI 1 = nI (5 * c + 1) := by rw [pk_mul, nI_add]; congr 1; omega
  refine Ct_X6_joinEnds ?_
  rw [hr, cel_r1 hp, e0, e1, cl_n (by omega), cl_n (by omega), RC_k hR hc (by omega) (by omega), RC_k hR hc (by omega) (by omega), pk_cell (by omega) (by omega), pk_cell (by omega) (by omega), cl_n (by omega), cl_n (by omega), (hP _ f1).1, (hP _ g1).1, hR.1]
  have hb0 := (hP _ f1).2
  have hb1 := (hP _ g1).2
  have i0 : inb 26 1 (nI (sf S c 0)) = true := inb_n (n := 48) rfl (by omega) (by decide)
  have i1 : inb 26 1 (nI (sf S c 1)) = true := inb_n (n := 48) rfl (by omega) (by decide)
  refine ⟨cel_o hp, fAt_n hp hV hR hc (by omega), cel_o hp, fAt_n hp hV hR hc (by omega), cel_o hp, fun q => absurd q (has_n h48 f1), fun _ => ⟨cel_o hp, fun q => absurd q (has_n h48 g1), fun _ => ⟨i0, i1, fun q => ⟨i0, i1, ?_⟩, fun q => ?_⟩⟩⟩
  · rw [nI_eq (by omega) (by omega)] at q
    rw [if_neg q]
    have key : ∀ x, x ≤ sn S → ∀ μ1, (kC μ μ1 ∧ ∀ z, z < sn S → ss_i μ1 26 z = nI (if z < x ∧ P z = P (sf S c 1) then P (sf S c 0) else P z)) → Good l ω M_X6_joinEnds 84 [.ref 0, .null, .null, .null, .int (nI (P (sf S c 0))), .int (nI (P (sf S c 1))), .int (nI x)] [] μ1 (fun v μ' => v = some (.int (nI 1)) ∧ kC μ μ' ∧ ∀ z, z < sn S → ss_i μ' 26 z = nI (ptN P (sf S c 0) (sf S c 1) z)) := by
      refine upto1 (I := fun x μ1 => kC μ μ1 ∧ ∀ z, z < sn S → ss_i μ1 26 z = nI (if z < x ∧ P z = P (sf S c 1) then P (sf S c 0) else P z)) (sn S) ?_ ?_
      · intro μ1 ⟨k1, k2⟩
        obtain ⟨p', hp', hr', hR'⟩ := IC_pl (IC_k hI k1)
        refine Tr_X6_joinEnds_84 ?_
        rw [hr', hR'.1]
        refine ⟨cel_o hp', fun _ => ⟨rfl, k1, fun z hz => ?_⟩, fun q => absurd (nI_le (Nat.le_refl _) (by omega)) q⟩
        rw [k2 z hz]
        unfold ptN
        simp only [hz, true_and]
      · intro x μ1 hx ⟨k1, k2⟩ ih
        obtain ⟨p', hp', hr', hR'⟩ := IC_pl (IC_k hI k1)
        refine Tr_X6_joinEnds_84 ?_
        have ex := k2 x hx
        rw [if_neg (by omega)] at ex
        rw [hr', hR'.1, cl_n (by omega), ex, nI_add]
        have hbx := (hP x hx).2
        refine ⟨cel_o hp', fun q => absurd q (nI_ge hx (by omega)), fun _ => ⟨inb_n (n := 48) rfl (by omega) (by decide), fun q => ?_, fun q => ⟨inb_n (n := 48) rfl (by omega) (by decide), ?_⟩⟩⟩
        · rw [nI_eq (by omega) (by omega)] at q
          refine ih μ1 ⟨k1, fun z hz => ?_⟩
          rw [k2 z hz]
          congr 1
          by_cases hzx : z = x
          · subst hzx; rw [if_neg (by omega), if_neg (fun r => q r.2)]
          · have : z < x + 1 ↔ z < x := by omega
            simp only [this]
        · have q := dnn q
          rw [nI_eq (by omega) (by omega)] at q
          refine ih _ ⟨kC_tr k1 kC_26, fun z hz => ?_⟩
          rw [ri_wi]
          by_cases hzx : z = x
          · subst hzx
            rw [if_pos ⟨rfl, rfl⟩, if_pos ⟨by omega, q⟩]
          · rw [if_neg (fun r => hzx r.2), k2 z hz]
            have : z < x + 1 ↔ z < x := by omega
            simp only [this]
    exact key 0 (by omega) μ ⟨kC_rf, fun z hz => by rw [if_neg (by omega)]; exact (hP z hz).1⟩
  · have q := dnn q
    rw [nI_eq (by omega) (by omega)] at q
    rw [if_pos q]
    refine ⟨rfl, kC_rf, fun z hz => ?_⟩
    rw [(hP z hz).1]
    unfold ptN
    split
    · rename_i r; rw [r, q]
    · rfl
theorem x_partCount (hV : VS S) (hI : IC S T D μ) : Ctr l ω M_X6_partCount [.ref 0] μ (fun v μ' => v = some (.int (pcR S (sn S))) ∧ kC μ μ') := by
  have h48 := hV.1
  refine Ct_X6_partCount ?_
  have second : ∀ c, c ≤ sn S → ∀ μ1, (kC μ μ1 ∧ ∀ z, z < sn S → ss_i μ1 26 z = nI (ptR S c z)) → Good l ω M_X6_partCount 37 [.ref 0, .int (pcR S c), .int (nI c)] [] μ1 (fun v μ' => v = some (.int (pcR S (sn S))) ∧ kC μ μ') := by
    refine upto1 (I := fun c μ1 => kC μ μ1 ∧ ∀ z, z < sn S → ss_i μ1 26 z = nI (ptR S c z)) (sn S) ?_ ?_
    · intro μ1 ⟨k1, k2⟩
      obtain ⟨p', hp', hr', hR'⟩ := IC_pl (IC_k hI k1)
      refine Tr_X6_partCount_37 ?_
      rw [hr', hR'.1]
      exact ⟨cel_o hp', fun _ => ⟨rfl, k1⟩, fun q => absurd (nI_le (Nat.le_refl _) (by omega)) q⟩
    · intro c μ1 hc ⟨k1, k2⟩ ih
      have hI1 := IC_k hI k1
      obtain ⟨p', hp', hr', hR'⟩ := IC_pl hI1
      have hcd := hV.2 c hc
      refine Tr_X6_partCount_37 ?_
      rw [hr', hR'.1, cel_r0 hp', cl_n (by omega), (hR'.2 c hc).1, nI_add]
      refine ⟨cel_o hp', fun q => absurd q (nI_ge hc (by omega)), fun _ => ⟨cel_o hp', inb_n (cel_1 hp') (by omega) (by decide), fun q => ?_, fun q => ?_⟩⟩
      · rw [nI_eq (by omega) (by omega)] at q
        have := ih μ1 ⟨k1, fun z hz => by rw [k2 z hz, ptR, if_neg q]⟩
        rw [show pcR S (c + 1) = pcR S c by rw [pcR, if_neg q]] at this
        exact this
      · have q := dnn q
        rw [nI_eq (by omega) (by omega)] at q
        refine ex_q (c_joinEnds hV hI1 hc q (ptR S c) (fun z hz => ⟨k2 z hz, by have := ptR_lt hV c (by omega) z hz; omega⟩)) (fun v μ2 hq => ?_)
        obtain ⟨rfl, k3, k4⟩ := hq
        have hnext := ih μ2 ⟨kC_tr k1 k3, fun z hz => by rw [k4 z hz, ptR, if_pos q]⟩
        refine Tr_X6_partCount_66 ?_
        rw [nI_add]
        by_cases hq2 : ptR S c (sf S c 0) = ptR S c (sf S c 1)
        · rw [if_pos hq2]
          refine ⟨fun _ => ?_, fun g => absurd nI0_eq g⟩
          rw [show pcR S (c + 1) = pcR S c by rw [pcR, if_pos q, if_pos hq2]] at hnext
          exact hnext
        · rw [if_neg hq2]
          refine ⟨fun g => absurd g nI1_ne, fun _ => ?_⟩
          rw [show pcR S (c + 1) = pcR S c + (-1) by rw [pcR, if_pos q, if_neg hq2]] at hnext
          exact hnext
  have first : ∀ c, c ≤ sn S → ∀ μ1, (kC μ μ1 ∧ ∀ z, z < c → ss_i μ1 26 z = nI z) → Good l ω M_X6_partCount 2 [.ref 0, .int (nI c), .null] [] μ1 (fun v μ' => v = some (.int (pcR S (sn S))) ∧ kC μ μ') := by
    refine upto1 (I := fun c μ1 => kC μ μ1 ∧ ∀ z, z < c → ss_i μ1 26 z = nI z) (sn S) ?_ ?_
    · intro μ1 ⟨k1, k2⟩
      have hI1 := IC_k hI k1
      obtain ⟨p', hp', hr', hR'⟩ := IC_pl hI1
      refine Tr_X6_partCount_2 ?_
      rw [hr', hR'.1]
      exact ⟨cel_o hp', fun _ => ⟨cel_o hp', ex_p (c_countOf hp' hV hR' (by omega)) (Tr_X6_partCount_34 (second 0 (by omega) μ1 ⟨k1, k2⟩))⟩, fun q => absurd (nI_le (Nat.le_refl _) (by omega)) q⟩
    · intro c μ1 hc ⟨k1, k2⟩ ih
      obtain ⟨p', hp', hr', hR'⟩ := IC_pl (IC_k hI k1)
      refine Tr_X6_partCount_2 ?_
      rw [hr', hR'.1, cl_n (by omega), nI_add]
      refine ⟨cel_o hp', fun q => absurd q (nI_ge hc (by omega)), fun _ => ⟨inb_n (n := 48) rfl (by omega) (by decide), ih _ ⟨kC_tr k1 kC_26, fun z hz => ?_⟩⟩⟩
      rw [ri_wi]
      by_cases hzc : z = c
      · subst hzc; rw [if_pos ⟨rfl, rfl⟩]
      · rw [if_neg (fun r => hzc r.2)]; exact k2 z (by omega)
  exact first 0 (by omega) μ ⟨kC_rf, fun z hz => by omega⟩
end IQ

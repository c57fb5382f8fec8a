theorem kM_p {μ : Mm} {q j : Nat} {v : Int32} (h : 35 ≤ q) : kM μ (ss_wi μ q j v) := ⟨fun q k h1 => by rw [ri_wi, if_neg (by omega)], rfl, fun k h1 => by rw [ri_wi, if_neg (by omega)], fun q k h1 h2 => by rw [ri_wi, if_neg (by omega)]⟩
section IQ7
variable {l : Launch} {ω : Wd} {μ : Mm} {S T : SS} {D : DD}
theorem m_partCount (hV : VS S) (hI : IM S T D μ) : Ctr l ω M_X7_partCount [.ref 29] μ (fun v μ' => v = some (.int (pcR S (sn S))) ∧ kM μ μ') := by
  have h48 := hV.1
  refine Ct_X7_partCount ?_
  have second : ∀ c, c ≤ sn S → ∀ μ1, (kM μ μ1 ∧ ∀ z, z < sn S → ss_i μ1 35 z = nI (ptR S c z)) → Good l ω M_X7_partCount 44 [.ref 29, .int (pcR S c), .int (nI c), .null, .null, .null] [] μ1 (fun v μ' => v = some (.int (pcR S (sn S))) ∧ kM μ μ') := by
    refine upto1 (I := fun c μ1 => kM μ μ1 ∧ ∀ z, z < sn S → ss_i μ1 35 z = nI (ptR S c z)) (sn S) ?_ ?_
    · intro μ1 ⟨k1, k2⟩
      refine Tr_X7_partCount_44 ?_
      rw [(IM_k hI k1).1.1]
      exact ⟨fun _ => ⟨rfl, k1⟩, fun q => absurd (nI_le (Nat.le_refl _) (by omega)) q⟩
    · intro c μ1 hc ⟨k1, k2⟩ ih
      have hR := (IM_k hI k1).1
      have hcd := hV.2 c hc
      refine Tr_X7_partCount_44 ?_
      rw [hR.1, cl_n (by omega), RM_d0 hR hc, nI_add]
      refine ⟨fun q => absurd q (nI_ge hc (by omega)), fun _ => ⟨inb_n (n := 96) rfl (by omega) (by decide), fun q => ?_, fun q => ?_⟩⟩
      · rw [nI_eq (by omega) (by omega)] at q
        have := ih μ1 ⟨k1, fun z hz => by rw [k2 z hz, ptR, if_neg q]⟩
        rw [show pcR S (c + 1) = pcR S c by rw [pcR, if_neg q]] at this
        exact this
      · have q := dnn q
        rw [nI_eq (by omega) (by omega)] at q
        obtain ⟨f1, f2, f3⟩ := hcd.2 (by omega) 0 (by omega)
        obtain ⟨g1, g2, g3⟩ := hcd.2 (by omega) 1 (by omega)
        have e0 : nI 5 * nI c = nI (5 * c + 0) := by rw [pk_mul]; rfl
        have e1 : nI (5 * c + 0) + nI 1 = nI (5 * c + 1) := by rw [nI_add]
        rw [e0, e1, cl_n (by omega), cl_n (by omega), RM_f0 hR hc (by omega) (by omega), RM_f0 hR hc (by omega) (by omega), cl_n (by omega), cl_n (by omega), k2 _ f1, k2 _ g1]
        generalize hP : ptR S c = P at *
        have hPl : ∀ z, z < sn S → P z < 48 := fun z hz => by rw [← hP]; have := ptR_lt hV c (by omega) z hz; omega
        have hb0 := hPl _ f1
        have hb1 := hPl _ g1
        have inner : ∀ w, (∀ μ2, (kM μ μ2 ∧ ∀ z, z < sn S → ss_i μ2 35 z = nI (ptN P (sf S c 0) (sf S c 1) z)) → Good l ω M_X7_partCount 44 [.ref 29, .int w, .int (nI (c + 1)), .null, .null, .null] [] μ2 (fun v μ' => v = some (.int (pcR S (sn S))) ∧ kM μ μ')) → ∀ x, x ≤ sn S → ∀ μ2, (kM μ μ2 ∧ ∀ z, z < sn S → ss_i μ2 35 z = nI (if z < x ∧ P z = P (sf S c 1) then P (sf S c 0) else P z)) → Good l ω M_X7_partCount 110 [.ref 29, .int w, .int (nI c), .int (nI (P (sf S c 0))), .int (nI (P (sf S c 1))), .int (nI x)] [] μ2 (fun v μ' => v = some (.int (pcR S (sn S))) ∧ kM μ μ') := by
          intro w hw
          refine upto1 (I := fun x μ2 => kM μ μ2 ∧ ∀ z, z < sn S → ss_i μ2 35 z = nI (if z < x ∧ P z = P (sf S c 1) then P (sf S c 0) else P z)) (sn S) ?_ ?_
          · intro μ2 ⟨j1, j2⟩
            refine Tr_X7_partCount_110 ?_
            rw [(IM_k hI j1).1.1, nI_add]
            refine ⟨fun _ => hw μ2 ⟨j1, fun z hz => ?_⟩, fun q => absurd (nI_le (Nat.le_refl _) (by omega)) q⟩
            rw [j2 z hz]
            unfold ptN
            simp only [hz, true_and]
          · intro x μ2 hx ⟨j1, j2⟩ ih2
            refine Tr_X7_partCount_110 ?_
            have ex := j2 x hx
            rw [if_neg (by omega)] at ex
            rw [(IM_k hI j1).1.1, cl_n (by omega), ex, nI_add x 1]
            have hbx := hPl x hx
            have hin : inb 35 1 (nI x) = true := inb_n (n := 48) rfl (by omega) (by decide)
            refine ⟨fun q => absurd q (nI_ge hx (by omega)), fun _ => ⟨hin, fun q => ⟨hin, hin, ?_⟩, fun q => ⟨hin, ?_⟩⟩⟩
            · rw [nI_eq (by omega) (by omega)] at q
              refine ih2 _ ⟨kM_tr j1 (kM_p (q := 35) (by decide)), fun z hz => ?_⟩
              rw [ri_wi]
              by_cases hzx : z = x
              · subst hzx; rw [if_pos ⟨rfl, rfl⟩, if_neg (fun r => q r.2)]
              · rw [if_neg (fun r => hzx r.2), j2 z hz]
                have : z < x + 1 ↔ z < x := by omega
                simp only [this]
            · have q := dnn q
              rw [nI_eq (by omega) (by omega)] at q
              refine ih2 _ ⟨kM_tr j1 (kM_p (q := 35) (by decide)), fun z hz => ?_⟩
              rw [ri_wi]
              by_cases hzx : z = x
              · subst hzx
                rw [if_pos ⟨rfl, rfl⟩, if_pos ⟨by omega, q⟩]
              · rw [if_neg (fun r => hzx r.2), j2 z hz]
                have : z < x + 1 ↔ z < x := by omega
                simp only [this]
        have start : kM μ μ1 ∧ ∀ z, z < sn S → ss_i μ1 35 z = nI (if z < 0 ∧ P z = P (sf S c 1) then P (sf S c 0) else P z) := ⟨k1, fun z hz => by rw [if_neg (by omega)]; exact k2 z hz⟩
        have hin : ∀ y, y < 48 → inb 35 1 (nI y) = true := fun y hy => inb_n (n := 48) rfl hy (by decide)
        refine ⟨inb_n (n := 480) rfl (by omega) (by decide), hin _ (by omega), inb_n (n := 480) rfl (by omega) (by decide), hin _ (by omega), fun q2 => ?_, fun q2 => ?_⟩
        · rw [nI_eq (by omega) (by omega)] at q2
          refine inner _ (fun μ2 h2 => ?_) 0 (by omega) μ1 start
          have := ih μ2 ⟨h2.1, fun z hz => by rw [h2.2 z hz, ptR, if_pos q, hP]⟩
          rw [show pcR S (c + 1) = pcR S c - nI 1 by rw [pcR, if_pos q, hP, if_neg q2, sub_n1]] at this
          exact this
        · have q2 := dnn q2
          rw [nI_eq (by omega) (by omega)] at q2
          rw [sub_n0]
          refine inner _ (fun μ2 h2 => ?_) 0 (by omega) μ1 start
          have := ih μ2 ⟨h2.1, fun z hz => by rw [h2.2 z hz, ptR, if_pos q, hP]⟩
          rw [show pcR S (c + 1) = pcR S c by rw [pcR, if_pos q, hP, if_pos q2]] at this
          exact this
  have first : ∀ c, c ≤ sn S → ∀ μ1, (kM μ μ1 ∧ ∀ z, z < c → ss_i μ1 35 z = nI z) → Good l ω M_X7_partCount 4 [.ref 29, .int (nI (cntN S 0 c)), .int (nI c), .null, .null, .null] [] μ1 (fun v μ' => v = some (.int (pcR S (sn S))) ∧ kM μ μ') := by
    refine upto1 (I := fun c μ1 => kM μ μ1 ∧ ∀ z, z < c → ss_i μ1 35 z = nI z) (sn S) ?_ ?_
    · intro μ1 ⟨k1, k2⟩
      refine Tr_X7_partCount_4 ?_
      rw [(IM_k hI k1).1.1]
      exact ⟨fun _ => second 0 (by omega) μ1 ⟨k1, k2⟩, fun q => absurd (nI_le (Nat.le_refl _) (by omega)) q⟩
    · intro c μ1 hc ⟨k1, k2⟩ ih
      have hR := (IM_k hI k1).1
      have hcd := hV.2 c hc
      refine Tr_X7_partCount_4 ?_
      rw [hR.1, cl_n (by omega), ri_wi, if_neg (by omega), RM_d0 hR hc, nI_add, nI_add, nI_add]
      have hn : kM μ (ss_wi μ1 35 c (nI c)) ∧ ∀ z, z < c + 1 → ss_i (ss_wi μ1 35 c (nI c)) 35 z = nI z := by
        refine ⟨kM_tr k1 (kM_p (q := 35) (by decide)), fun z hz => ?_⟩
        rw [ri_wi]
        by_cases hzc : z = c
        · subst hzc; rw [if_pos ⟨rfl, rfl⟩]
        · rw [if_neg (fun r => hzc r.2)]; exact k2 z (by omega)
      have := ih _ hn
      refine ⟨fun q => absurd q (nI_ge hc (by omega)), fun _ => ⟨inb_n (n := 48) rfl (by omega) (by decide), inb_n (n := 96) rfl (by omega) (by decide), fun q => ?_, fun q => ?_⟩⟩
      · rw [i0, nI_eq (by omega) (by omega)] at q
        rw [show cntN S 0 (c + 1) = cntN S 0 c + 0 by rw [cntN, if_neg q]] at this
        exact this
      · have q := dnn q
        rw [i0, nI_eq (by omega) (by omega)] at q
        rw [show cntN S 0 (c + 1) = cntN S 0 c + 1 by rw [cntN, if_pos q]] at this
        exact this
  exact first 0 (by omega) μ ⟨kM_rf, fun z hz => by omega⟩
end IQ7

/-! the draft is stored (reference) -/
theorem got9 {μ : Mm} {a b : Int32} : ss_i (ss_wi (ss_wi μ 29 9 a) 29 10 b) 29 9 = a := rfl
theorem got10 {μ : Mm} {a b : Int32} : ss_i (ss_wi (ss_wi μ 29 9 a) 29 10 b) 29 10 = b := rfl
section E7
variable {l : Launch} {ω : Wd} {μ : Mm} {S T : SS} {D : DD}
theorem c_areFacesSo (hV : VS S) (hD : DV S D) (hI : IM S T D μ) (h1 : 1 ≤ D.1) (hw : D.2.1 = 2 ^ (D.1 + 1) - 1) : Ctr l ω M_X7_areFacesSo [.ref 29] μ (fun v μ' => v = some (.int (if 2 ≤ D.1 ∧ ¬ idP S D then nI 0 else nI 1)) ∧ kM μ μ') := by
  have h4 := hD.1
  have hb := (d_fullb D.1 (by omega) D.2.1 (hD.2 h1).1).mp hw
  have nar : ∀ p : Prop, [Decidable p] → narrow .boolean (.int (if p then nI 1 else nI 0)) = .int (if p then nI 1 else nI 0) := by
    intro p _; split <;> decide
  refine Ct_X7_areFacesSo ?_
  by_cases h2 : 2 ≤ D.1
  · have outer : ∀ j, j ≤ D.1 + 1 → ∀ μ1, (1 ≤ j ∧ kM μ μ1) → Good l ω M_X7_areFacesSo 4 [.ref 29, .int (if ∀ j', j' < j → ∀ i, i < j' → chk S D j' i then nI 1 else nI 0), .int (nI j), .null, .null, .null] [] μ1 (fun v μ' => v = some (.int (if 2 ≤ D.1 ∧ ¬ idP S D then nI 0 else nI 1)) ∧ kM μ μ') := by
      refine upto1 (I := fun j μ1 => 1 ≤ j ∧ kM μ μ1) (D.1 + 1) ?_ ?_
      · intro μ1 ⟨_, k1⟩
        refine Tr_X7_areFacesSo_4 ?_
        rw [(IM_k hI k1).2.2.1]
        refine ⟨fun _ => ⟨nar _, ?_, k1⟩, fun g => absurd (nI_lt (by omega) (by omega)) g⟩
        by_cases hid : idP S D
        · rw [if_pos hid, if_neg (fun q => q.2 hid)]
        · rw [if_neg hid, if_pos ⟨h2, hid⟩]
      · intro j μ1 hj ⟨hj1, k1⟩ ih
        refine Tr_X7_areFacesSo_4 ?_
        rw [(IM_k hI k1).2.2.1]
        refine ⟨fun g => absurd g (nI_nlt (by omega) (by omega)), fun _ => ⟨fun g => absurd g (nI_ge (by omega) (by omega)), fun _ => ?_⟩⟩
        have inner : ∀ i, i ≤ j → ∀ μ1, kM μ μ1 → Good l ω M_X7_areFacesSo 22 [.ref 29, .int (if (∀ j', j' < j → ∀ i, i < j' → chk S D j' i) ∧ ∀ i', i' < i → chk S D j i' then nI 1 else nI 0), .int (nI j), .int (nI i), .null, .null] [] μ1 (fun v μ' => v = some (.int (if 2 ≤ D.1 ∧ ¬ idP S D then nI 0 else nI 1)) ∧ kM μ μ') := by
          refine upto1 (I := fun i μ1 => kM μ μ1) j ?_ ?_
          · intro μ2 k2
            refine Tr_X7_areFacesSo_22 ?_
            rw [nI_add j 1]
            refine ⟨fun _ => ?_, fun g => absurd (nI_le (Nat.le_refl _) (by omega)) g⟩
            have := ih μ2 ⟨by omega, k2⟩
            have e : (∀ j', j' < j + 1 → ∀ i, i < j' → chk S D j' i) ↔ ((∀ j', j' < j → ∀ i, i < j' → chk S D j' i) ∧ ∀ i', i' < j → chk S D j i') := by
              constructor
              · intro h; exact ⟨fun j' hj' => h j' (by omega), fun i' hi' => h j (by omega) i' hi'⟩
              · intro h j' hj' i hi
                rcases Nat.lt_or_ge j' j with q | q
                · exact h.1 j' q i hi
                · obtain rfl : j' = j := by omega
                  exact h.2 i hi
            simp only [e] at this
            exact this
          · intro i μ2 hi k2 ih2
            have hI2 := IM_k hI k2
            have vj := DV_vs hD h1 (k := j) (by omega) (hb j (by omega))
            have vi := DV_vs hD h1 (k := i) (by omega) (hb i (by omega))
            have fj := face_v hV vj (i := i) (by omega) (by omega)
            have fi := face_v hV vi (i := j - 1) (by omega) (by omega)
            have c1 := Nat.lt_of_lt_of_le fj.1 hV.1
            have c2 := Nat.lt_of_lt_of_le fi.1 hV.1
            have m1 := p2_lt fj.2.1 fj.2.2.1
            have m2 := p2_lt fi.2.1 fi.2.2.1
            have ej := (hI2.2.2.2 h1).2 j (by omega) (hb j (by omega))
            have hin : ∀ p y, (p = 33 ∨ p = 34) → y ≤ 4 → inb p 1 (nI y) = true := by rintro p y (rfl | rfl) hy <;> exact inb_n (n := 5) rfl (by omega) (by decide)
            refine Tr_X7_areFacesSo_22 ?_
            rw [cl_n (by omega), ej.1, ej.2, hI2.2.2.1, nI_sub1 (by omega)]
            refine ⟨fun g => absurd g (nI_ge hi (by omega)), fun _ => ⟨hin _ _ (Or.inl rfl) (by omega), hin _ _ (Or.inr rfl) (by omega), ex_q (c_takeFace (by decide) hV hI2.1 vj (by omega) (by omega)) (fun v μ3 hq => ?_)⟩⟩
            obtain ⟨rfl, rfl⟩ := hq
            have k3 : kM μ (ss_wi (ss_wi μ2 29 9 (nI (fcx S (D.2.2.1 j) (D.1 - 1) (D.2.2.2 j) i))) 29 10 (nI (fmx S (D.2.2.1 j) (D.1 - 1) (D.2.2.2 j) i))) := kM_tr k2 kM_got
            have hI3 := IM_k hI k3
            have ei := (hI3.2.2.2 h1).2 i (by omega) (hb i (by omega))
            refine Tr_X7_areFacesSo_51 ?_
            rw [cl_n (by omega), ei.1, ei.2, hI3.2.2.1, nI_sub1 (by omega), nI_sub1 (by omega)]
            refine ⟨hin _ _ (Or.inl rfl) (by omega), hin _ _ (Or.inr rfl) (by omega), ex_q (c_takeFace (by decide) hV hI3.1 vi (by omega) (by omega)) (fun v μ4 hq => ?_)⟩
            obtain ⟨rfl, rfl⟩ := hq
            have k4 := kM_tr k3 (kM_got (μ := _) (a := nI (fcx S (D.2.2.1 i) (D.1 - 1) (D.2.2.2 i) (j - 1))) (b := nI (fmx S (D.2.2.1 i) (D.1 - 1) (D.2.2.2 i) (j - 1))))
            have next := ih2 _ k4
            refine Tr_X7_areFacesSo_89 ?_
            rw [nI_add i 1, got9, got10, got9, got10, nI_eq (by omega) (by omega), nI_eq (by omega) (by omega)]
            have e : (∀ i', i' < i + 1 → chk S D j i') ↔ ((∀ i', i' < i → chk S D j i') ∧ chk S D j i) := by
              constructor
              · intro h; exact ⟨fun i' hi' => h i' (by omega), h i (by omega)⟩
              · intro h i' hi'
                rcases Nat.lt_or_ge i' i with q | q
                · exact h.1 i' q
                · obtain rfl : i' = i := by omega
                  exact h.2
            simp only [e] at next
            by_cases hp : (∀ j', j' < j → ∀ i, i < j' → chk S D j' i) ∧ ∀ i', i' < i → chk S D j i'
            · rw [if_pos hp]
              refine ⟨fun g => absurd g nI1_ne, fun _ => ⟨fun g => ?_, fun g => ⟨fun g2 => ?_, fun g2 => ?_⟩⟩⟩
              · rw [if_neg (fun q => g q.2.2.1.symm)] at next; exact next
              · rw [if_neg (fun q => g2 q.2.2.2.symm)] at next; exact next
              · rw [if_pos ⟨hp.1, hp.2, (dnn g).symm, (dnn g2).symm⟩] at next; exact next
            · rw [if_neg hp]
              rw [if_neg (fun q => hp ⟨q.1, q.2.1⟩)] at next
              exact ⟨fun _ => next, fun g => absurd nI0_eq g⟩
        have := inner 0 (by omega) μ1 k1
        have e : ((∀ j', j' < j → ∀ i, i < j' → chk S D j' i) ∧ ∀ i', i' < 0 → chk S D j i') ↔ (∀ j', j' < j → ∀ i, i < j' → chk S D j' i) := ⟨fun h => h.1, fun h => ⟨h, fun i' hi' => by omega⟩⟩
        simp only [e] at this
        exact this
    have := outer 1 (by omega) μ ⟨by omega, kM_rf⟩
    rw [if_pos (fun j' hj' i hi => by omega)] at this
    exact this
  · refine Tr_X7_areFacesSo_4 ?_
    rw [hI.2.2.1]
    have hd : D.1 = 1 := by omega
    rw [if_neg (fun q => h2 q.1), hd]
    exact ⟨fun g => absurd g (by decide), fun _ => ⟨fun _ => ⟨by decide, rfl, kM_rf⟩, fun g => absurd (by decide) g⟩⟩
theorem m_endCell (hV : VS S) (hD : DV S D) (hI : IM S T D μ) : Ctr l ω M_X7_endCell [.ref 29] μ (fun v μ' => v = some (.int (A_end S D)) ∧ IM (N_endS S D) T (N_endD S D) μ' ∧ fC μ μ') := by
  obtain ⟨hR, hR7, hDM⟩ := id hI
  have h48 := hV.1
  have h4 := hD.1
  have ref : ∀ (r : Int32) μ', kM μ μ' → A_end S D = r → ¬ 0 ≤ r → some (Value.int r) = some (.int (A_end S D)) ∧ IM (N_endS S D) T (N_endD S D) μ' ∧ fC μ μ' := by
    intro r μ' hk h1 h2
    refine ⟨by rw [h1], ?_, hk.fC⟩
    unfold N_endS N_endD
    rw [h1, if_neg h2, if_neg h2]
    exact IM_k hI hk
  refine Ct_X7_endCell ?_
  rw [hDM.1]
  by_cases h0 : D.1 = 0
  · rw [h0]
    exact ⟨fun g => absurd nI0_eq g, fun _ => ref _ _ kM_rf (by unfold A_end; rw [if_pos h0]) (by decide)⟩
  refine ⟨fun _ => ?_, fun g => absurd (nI_ne0 (by omega) (by omega)) g⟩
  have hlt32 : D.2.1 < 32 := Nat.lt_of_lt_of_le (hD.2 (by omega)).1 (two_le (b := 5) (by omega))
  have hl32 : 2 ^ (D.1 + 1) ≤ 32 := two_le (b := 5) (by omega)
  rw [(hDM.2 (by omega)).1, nI_add, d_low (D.1 + 1) (by omega), nI_eq (by omega) (by omega)]
  refine ⟨fun hw => ?_, fun hw => ref _ _ kM_rf (by unfold A_end; rw [if_neg h0, if_neg hw]) (by decide)⟩
  refine ex_q (c_areFacesSo hV hD hI (by omega) hw) (fun v μ1 hq => ?_)
  obtain ⟨rfl, k1⟩ := hq
  have hI1 := IM_k hI k1
  refine Tr_X7_endCell_33 ?_
  rw [hI1.1.1, hI1.2.2.1, nI_eq (by omega) (by decide)]
  by_cases hid : 2 ≤ D.1 ∧ ¬ idP S D
  · rw [if_pos hid]
    exact ⟨fun g => absurd nI0_eq g, fun _ => ref _ _ k1 (by unfold A_end; rw [if_neg h0, if_pos hw, if_pos hid]) (by decide)⟩
  · rw [if_neg hid]
    refine ⟨fun _ => ⟨fun g => ?_, fun g => ?_⟩, fun g => absurd nI1_ne g⟩
    · have hlt : sn S < 48 := by omega
      have hA : A_end S D = nI (sn S) := by unfold A_end; rw [if_neg h0, if_pos hw, if_neg hid, if_pos hlt]
      have h0A : 0 ≤ A_end S D := by rw [hA]; exact nI_pos' (by omega)
      have hb := (d_fullb D.1 (by omega) D.2.1 (hD.2 (by omega)).1).mp hw
      refine ex_q (c_addCell hI1.1.1 hlt) (fun v μ2 hq => ?_)
      obtain ⟨rfl, rfl⟩ := hq
      refine Tr_X7_endCell_59 ?_
      have a0 : ∀ q k, ss_i (acM μ1 (sn S) (nI D.1)) q k = if q = 29 ∧ k = 0 then nI (sn S + 1) else if q = 30 ∧ k = sn S then nI D.1 else ss_i μ1 q k := fun q k => rfl
      have loop : ∀ k, k ≤ D.1 + 1 → ∀ μ3, ((∀ q j, q ≠ 31 → q ≠ 32 → ss_i μ3 q j = ss_i (acM μ1 (sn S) (nI D.1)) q j) ∧ (∀ q j, (q = 31 ∨ q = 32) → (j < 5 * sn S ∨ 5 * sn S + 5 ≤ j) → ss_i μ3 q j = ss_i μ1 q j) ∧ μ3.2.2 = μ1.2.2 ∧ ∀ j, j < k → ss_i μ3 31 (5 * sn S + j) = nI (D.2.2.1 j) ∧ ss_i μ3 32 (5 * sn S + j) = nI (D.2.2.2 j)) → Good l ω M_X7_endCell 62 [.ref 29, .int (nI (sn S)), .int (nI k)] [] μ3 (fun v μ' => v = some (.int (A_end S D)) ∧ IM (N_endS S D) T (N_endD S D) μ' ∧ fC μ μ') := by
        refine upto1 (I := fun k μ3 => (∀ q j, q ≠ 31 → q ≠ 32 → ss_i μ3 q j = ss_i (acM μ1 (sn S) (nI D.1)) q j) ∧ (∀ q j, (q = 31 ∨ q = 32) → (j < 5 * sn S ∨ 5 * sn S + 5 ≤ j) → ss_i μ3 q j = ss_i μ1 q j) ∧ μ3.2.2 = μ1.2.2 ∧ ∀ j, j < k → ss_i μ3 31 (5 * sn S + j) = nI (D.2.2.1 j) ∧ ss_i μ3 32 (5 * sn S + j) = nI (D.2.2.2 j)) (D.1 + 1) ?_ ?_
        · intro μ3 ⟨j1, j2, j3, j4⟩
          have e5 : ss_i μ3 29 5 = nI D.1 := by rw [j1 _ _ (by decide) (by decide), a0, if_neg (by omega), if_neg (by omega)]; exact hI1.2.2.1
          refine Tr_X7_endCell_62 ?_
          rw [e5]
          refine ⟨fun _ => ⟨by rw [hA], ?_, ⟨fun q k hq => ?_, by rw [← k1.2.1, ← j3]; rfl⟩⟩, fun g => absurd (nI_lt (by omega) (by omega)) g⟩
          · unfold N_endS N_endD
            rw [if_pos h0A, if_pos h0A]
            have hout : ∀ q k, q ≠ 31 → q ≠ 32 → ¬ (q = 29 ∧ k = 5) → ss_i (ss_wi μ3 29 5 (nI 0)) q k = ss_i (acM μ1 (sn S) (nI D.1)) q k := by
              intro q k a b c
              rw [ri_wi, if_neg c, j1 q k a b]
            have hfo : ∀ q k, (q = 31 ∨ q = 32) → ss_i (ss_wi μ3 29 5 (nI 0)) q k = ss_i μ3 q k := by
              intro q k a
              rw [ri_wi, if_neg (by omega)]
            refine ⟨RM_app hI1.1 (by rw [hout _ _ (by decide) (by decide) (by omega), a0, if_pos ⟨rfl, rfl⟩]) (by rw [hout _ _ (by decide) (by decide) (by omega), a0, if_neg (by omega), if_pos ⟨rfl, rfl⟩]) (fun c hc => by rw [hout _ _ (by decide) (by decide) (by omega), a0, if_neg (by omega), if_neg (by omega)]) (fun h k hk => by rw [hfo _ _ (Or.inl rfl), hfo _ _ (Or.inr rfl)]; exact j4 k (by omega)) (fun k hk => by rw [hfo _ _ (Or.inl rfl), hfo _ _ (Or.inr rfl)]; exact ⟨j2 _ _ (Or.inl rfl) (Or.inl hk), j2 _ _ (Or.inr rfl) (Or.inl hk)⟩) (fun c hc => (hV.2 c hc).1), RM48 hI1.2.1 (by rw [hout _ _ (by decide) (by decide) (by omega), a0, if_neg (by omega), if_neg (by omega)]) (fun k hk => by rw [hout _ _ (by decide) (by decide) (by omega), a0, if_neg (by omega), if_neg (by omega)]) (fun k hk => by rw [hfo _ _ (Or.inl rfl), hfo _ _ (Or.inr rfl)]; exact ⟨j2 _ _ (Or.inl rfl) (Or.inr (by omega)), j2 _ _ (Or.inr rfl) (Or.inr (by omega))⟩), ?_, fun q => absurd q (by show ¬ 1 ≤ (0 : Nat); omega)⟩
            rw [ri_wi, if_pos ⟨rfl, rfl⟩]
          · rw [ri_wi, if_neg (by omega), j1 q k (by omega) (by omega), a0, if_neg (by omega), if_neg (by omega)]
            exact k1.1 q k hq
        · intro k μ3 hk ⟨j1, j2, j3, j4⟩ ih
          have e5 : ss_i μ3 29 5 = nI D.1 := by rw [j1 _ _ (by decide) (by decide), a0, if_neg (by omega), if_neg (by omega)]; exact hI1.2.2.1
          have ek := (hI1.2.2.2 (by omega)).2 k (by omega) (hb k (by omega))
          have e33 : ss_i μ3 33 k = nI (D.2.2.1 k) := by rw [j1 _ _ (by decide) (by decide), a0, if_neg (by omega), if_neg (by omega)]; exact ek.1
          have e34 : ss_i μ3 34 k = nI (D.2.2.2 k) := by rw [j1 _ _ (by decide) (by decide), a0, if_neg (by omega), if_neg (by omega)]; exact ek.2
          refine Tr_X7_endCell_62 ?_
          rw [e5, cl_n (by omega), e33, e34]
          have hin : ∀ p, (p = 33 ∨ p = 34) → inb p 1 (nI k) = true := by rintro p (rfl | rfl) <;> exact inb_n (n := 5) rfl (by omega) (by decide)
          refine ⟨fun g => absurd g (nI_nlt (by omega) (by omega)), fun _ => ⟨hin _ (Or.inl rfl), hin _ (Or.inr rfl), ex_q (c_putFace (by omega)) (fun v μ4 hq => ?_)⟩⟩
          obtain ⟨rfl, rfl⟩ := hq
          refine Tr_X7_endCell_88 ?_
          rw [nI_add]
          refine ih _ ⟨fun q j a b => ?_, fun q j a b => ?_, j3, fun j hj => ?_⟩
          · rw [ri_wi, if_neg (by omega), ri_wi, if_neg (by omega)]; exact j1 q j a b
          · rw [ri_wi, if_neg (by omega), ri_wi, if_neg (by omega)]; exact j2 q j a b
          · by_cases hjk : j = k
            · subst hjk
              refine ⟨?_, ?_⟩
              · rw [ri_wi, if_neg (by omega), ri_wi, if_pos ⟨rfl, rfl⟩]
              · rw [ri_wi, if_pos ⟨rfl, rfl⟩]
            · rw [ri_wi, if_neg (by omega), ri_wi, if_neg (by omega), ri_wi, if_neg (by omega), ri_wi, if_neg (by omega)]
              exact j4 j (by omega)
      exact loop 0 (by omega) _ ⟨fun _ _ _ _ => rfl, fun q j a b => by rw [a0, if_neg (by omega), if_neg (by omega)], rfl, fun j hj => by omega⟩
    · have hlt : ¬ sn S < 48 := by omega
      exact ref _ _ k1 (by unfold A_end; rw [if_neg h0, if_pos hw, if_neg hid, if_neg hlt]) (by decide)
end E7

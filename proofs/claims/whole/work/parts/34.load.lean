/-! save, loadSphere -/
section LD
variable {l : Launch} {ω : Wd} {μ : Mm} {S T : SS} {D : DD}
theorem c_appI {d : Nat} {f g : Nat → Nat} (hV : VS S) (hI : IC S T D μ) (hlt : sn S < 48) (hd : d ≤ 4) (hf : 1 ≤ d → ∀ k, k ≤ d → ss_i μ 27 k = nI (64 * f k + g k)) : Ctr l ω M_X0_append [.ref (ss_r μ 0 0), .int (nI d), .ref 27] μ (fun v μ' => v = some (.int (nI (sn S))) ∧ IC (appS S d f g) T D μ' ∧ fM μ μ' ∧ μ'.2.2 = μ.2.2 ∧ ∀ q k, 11 ≤ q → ss_i μ' q k = ss_i μ q k) := by
  obtain ⟨p, hp4, hr, hr1, hR, hR7, hDC⟩ := id hI
  have hp : cel p := by unfold cel; omega
  rw [show ss_r μ 0 0 = p from hr]
  refine ctr_mono (c_append hp hR.1 hlt rfl) (fun v μ1 hq => ?_)
  obtain ⟨rfl, rfl⟩ := hq
  have hout : ∀ q k, 7 ≤ q → ss_i (apM μ p (sn S) (nI d) 27) q k = ss_i μ q k := by
    intro q k hq
    rw [ap_i, if_neg (by omega), if_neg (by omega), if_neg (by omega)]
  refine ⟨rfl, ⟨p, hp4, hr, hr1, ap_R hR (by omega) hd hf (fun c hc => (hV.2 c hc).1), RC_same hR7 (fun q k hq => hout q k (by omega)), DC_same hDC (fun q k hq => hout q k (by omega))⟩, fun q k hq => hout q k (by omega), rfl, fun q k hq => hout q k (by omega)⟩
theorem m_addI4 {d : Nat} {f g : Nat → Nat} (h4 : ∀ c, c < sn S → sd S c ≤ 4) (hI : IM S T D μ) (hlt : sn S < 48) (hf : 1 ≤ d → ∀ k, k ≤ d → ss_i μ 31 (5 * sn S + k) = nI (f k) ∧ ss_i μ 32 (5 * sn S + k) = nI (g k)) : Ctr l ω M_X7_addCell [.ref 29, .int (nI d)] μ (fun v μ' => v = some (.int (nI (sn S))) ∧ IM (appS S d f g) T D μ' ∧ fC μ μ' ∧ ∀ q k, q ≠ 30 → ¬ (q = 29 ∧ k = 0) → ss_i μ' q k = ss_i μ q k) := by
  obtain ⟨hR, hR7, hDM⟩ := id hI
  refine ctr_mono (c_addCell hR.1 hlt) (fun v μ1 hq => ?_)
  obtain ⟨rfl, rfl⟩ := hq
  have hout : ∀ q k, q ≠ 30 → ¬ (q = 29 ∧ k = 0) → ss_i (acM μ (sn S) (nI d)) q k = ss_i μ q k := by
    intro q k h1 h2
    unfold acM
    rw [ri_wi, if_neg h2, ri_wi, if_neg (fun r => h1 r.1)]
  have h30 : ∀ k, ss_i (acM μ (sn S) (nI d)) 30 k = if k = sn S then nI d else ss_i μ 30 k := by
    intro k
    unfold acM
    rw [ri_wi, if_neg (by omega), ri_wi]
    simp only [true_and]
  refine ⟨rfl, ⟨RM_app hR (by unfold acM; rw [ri_wi, if_pos ⟨rfl, rfl⟩]) (by rw [h30, if_pos rfl]) (fun c hc => by rw [h30, if_neg (by omega)]) (fun h k hk => by rw [hout 31 _ (by decide) (by omega), hout 32 _ (by decide) (by omega)]; exact hf h k hk) (fun k hk => ⟨hout _ _ (by decide) (by omega), hout _ _ (by decide) (by omega)⟩) h4, RM48 hR7 (hout _ _ (by decide) (by omega)) (fun k hk => by rw [h30, if_neg (by omega)]) (fun k hk => ⟨hout _ _ (by decide) (by omega), hout _ _ (by decide) (by omega)⟩), DM_same hDM (hout _ _ (by decide) (by omega)) (hout _ _ (by decide) (by omega)) (fun q k hq => hout _ _ (by omega) (by omega))⟩, ⟨fun q k hq => hout q k (by omega) (by omega), rfl⟩, hout⟩
theorem m_addI {d : Nat} {f g : Nat → Nat} (hV : VS S) (hI : IM S T D μ) (hlt : sn S < 48) (hf : 1 ≤ d → ∀ k, k ≤ d → ss_i μ 31 (5 * sn S + k) = nI (f k) ∧ ss_i μ 32 (5 * sn S + k) = nI (g k)) : Ctr l ω M_X7_addCell [.ref 29, .int (nI d)] μ (fun v μ' => v = some (.int (nI (sn S))) ∧ IM (appS S d f g) T D μ' ∧ fC μ μ' ∧ ∀ q k, q ≠ 30 → ¬ (q = 29 ∧ k = 0) → ss_i μ' q k = ss_i μ q k) := m_addI4 (fun c hc => (hV.2 c hc).1) hI hlt hf
theorem RM_lo {μ μ' : Mm} (hR : RM 0 0 S μ) (h0 : ss_i μ' 29 0 = ss_i μ 29 0) (ho : ∀ c, c < sn S → ss_i μ' 30 c = ss_i μ 30 c) (hfo : ∀ k, k < 5 * sn S → ss_i μ' 31 k = ss_i μ 31 k ∧ ss_i μ' 32 k = ss_i μ 32 k) (h4 : ∀ c, c < sn S → sd S c ≤ 4) : RM 0 0 S μ' := by
  refine ⟨by rw [h0]; exact hR.1, fun c hc => ?_⟩
  obtain ⟨q1, q2⟩ := hR.2 c hc
  rw [Nat.zero_add] at q1 q2 ⊢
  have h5 := h4 c hc
  refine ⟨by rw [ho _ hc]; exact q1, fun h1 k hk => ?_⟩
  rw [(hfo _ (by omega)).1, (hfo _ (by omega)).2]
  exact q2 h1 k hk
theorem m_putI4 {k : Nat} {a b : Int32} (h4 : ∀ c, c < sn S → sd S c ≤ 4) (hI : IM S T D μ) (hlt : sn S < 48) (hk : k < 5) : Ctr l ω M_X7_putFace [.ref 29, .int (nI (sn S)), .int (nI k), .int a, .int b] μ (fun v μ' => v = none ∧ IM S T D μ' ∧ fC μ μ' ∧ (∀ q j, q ≠ 31 → q ≠ 32 → ss_i μ' q j = ss_i μ q j) ∧ ∀ j, ss_i μ' 31 j = (if j = 5 * sn S + k then a else ss_i μ 31 j) ∧ ss_i μ' 32 j = if j = 5 * sn S + k then b else ss_i μ 32 j) := by
  obtain ⟨hR, hR7, hDM⟩ := id hI
  refine ctr_mono (c_putFace (by omega)) (fun v μ1 hq => ?_)
  obtain ⟨rfl, rfl⟩ := hq
  have hout : ∀ q j, q ≠ 31 → q ≠ 32 → ss_i (ss_wi (ss_wi μ 31 (5 * sn S + k) a) 32 (5 * sn S + k) b) q j = ss_i μ q j := by
    intro q j h1 h2
    rw [ri_wi, if_neg (fun r => h2 r.1), ri_wi, if_neg (fun r => h1 r.1)]
  have hf : ∀ j, ss_i (ss_wi (ss_wi μ 31 (5 * sn S + k) a) 32 (5 * sn S + k) b) 31 j = (if j = 5 * sn S + k then a else ss_i μ 31 j) ∧ ss_i (ss_wi (ss_wi μ 31 (5 * sn S + k) a) 32 (5 * sn S + k) b) 32 j = if j = 5 * sn S + k then b else ss_i μ 32 j := by
    intro j
    refine ⟨?_, ?_⟩
    · rw [ri_wi, if_neg (by omega), ri_wi]; simp only [true_and]
    · rw [ri_wi, ri_wi]; simp only [true_and]; rw [if_neg (show ¬ (32 = 31 ∧ j = 5 * sn S + k) by omega)]
  have hfo : ∀ j, j ≠ 5 * sn S + k → ss_i (ss_wi (ss_wi μ 31 (5 * sn S + k) a) 32 (5 * sn S + k) b) 31 j = ss_i μ 31 j ∧ ss_i (ss_wi (ss_wi μ 31 (5 * sn S + k) a) 32 (5 * sn S + k) b) 32 j = ss_i μ 32 j := by
    intro j hj
    obtain ⟨e1, e2⟩ := hf j
    rw [if_neg hj] at e1 e2
    exact ⟨e1, e2⟩
  exact ⟨rfl, ⟨RM_lo hR (hout _ _ (by decide) (by decide)) (fun c _ => hout _ _ (by decide) (by decide)) (fun j hj => hfo j (by omega)) h4, RM48 hR7 (hout _ _ (by decide) (by decide)) (fun j _ => hout _ _ (by decide) (by decide)) (fun j hj => hfo j (by omega)), DM_same hDM (hout _ _ (by decide) (by decide)) (hout _ _ (by decide) (by decide)) (fun q j hq => hout _ _ (by omega) (by omega))⟩, ⟨fun q j hq => hout q j (by omega) (by omega), rfl⟩, hout, hf⟩
theorem m_putI {k : Nat} {a b : Int32} (hV : VS S) (hI : IM S T D μ) (hlt : sn S < 48) (hk : k < 5) : Ctr l ω M_X7_putFace [.ref 29, .int (nI (sn S)), .int (nI k), .int a, .int b] μ (fun v μ' => v = none ∧ IM S T D μ' ∧ fC μ μ' ∧ (∀ q j, q ≠ 31 → q ≠ 32 → ss_i μ' q j = ss_i μ q j) ∧ ∀ j, ss_i μ' 31 j = (if j = 5 * sn S + k then a else ss_i μ 31 j) ∧ ss_i μ' 32 j = if j = 5 * sn S + k then b else ss_i μ 32 j) := m_putI4 (fun c hc => (hV.2 c hc).1) hI hlt hk
theorem x_save (hV : VS S) (hI : IC S T D μ) : Ctr l ω M_X6_save [.ref 0] μ (fun v μ' => v = some (.int (nI (sn S))) ∧ IC S S D μ' ∧ fM μ μ') := by
  obtain ⟨p, hp4, hr, hr1, hR, hR7, hDC⟩ := id hI
  have hp : cel p := by unfold cel; omega
  have h7 : cel 7 := Or.inr (Or.inr rfl)
  have h48 := hV.1
  have c : Ctr l ω M_X0_copyFrom [.ref 7, .ref p] μ (fun v μ' => v = none ∧ μ' = ss_wi (ss_cp (ss_cp μ (p + 1) 0 8 0 (sn S)) (p + 2) 0 9 0 (sn S * 5)) 7 2 (nI (sn S))) := by
    refine Ct_X0_copyFrom ?_
    rw [cel_r0 hp, cel_r0 h7, hR.1, cl_n (by omega), cl_n (by omega)]
    refine ⟨cel_o hp, rfl, cel_o hp, 48, 48, cel_1 hp, rfl, by decide, by decide, nI_pos (by omega), by omega, by omega, ?_⟩
    have e : ss_i (ss_cp μ (p + 1) 0 (7 + 1) 0 (sn S)) p 2 = nI (sn S) := by
      rw [ri_cp, if_neg (by omega)]; exact hR.1
    refine Tr_X0_copyFrom_17 ?_
    rw [cel_r1 hp, cel_r1 h7, e, pk_mul, cl_n (by omega), cl_n (by omega)]
    refine ⟨cel_o hp, rfl, cel_o hp, 240, 240, cel_2 hp, rfl, by decide, by decide, nI_pos (by omega), by omega, by omega, ?_⟩
    refine Tr_X0_copyFrom_36 ⟨cel_o hp, rfl, rfl, ?_⟩
    rw [ri_cp, if_neg (by omega), e]
  refine Ct_X6_save ?_
  rw [show ss_r μ 0 0 = p from hr]
  refine ex_q c (fun v μ1 hq => ?_)
  obtain ⟨rfl, rfl⟩ := hq
  have hout : ∀ q k, q ≠ 7 → q ≠ 8 → q ≠ 9 → ss_i (ss_wi (ss_cp (ss_cp μ (p + 1) 0 8 0 (sn S)) (p + 2) 0 9 0 (sn S * 5)) 7 2 (nI (sn S))) q k = ss_i μ q k := by
    intro q k a b c
    rw [ri_wi, if_neg (by omega), ri_cp, if_neg (by omega), ri_cp, if_neg (by omega)]
  refine Tr_X6_save_11 ⟨by rw [ri_wi, if_pos ⟨rfl, rfl⟩], ⟨p, hp4, hr, hr1, RC_same hR (fun q k hq => hout q k (by omega) (by omega) (by omega)), ⟨by rw [ri_wi, if_pos ⟨rfl, rfl⟩], fun c hc => ?_⟩, DC_same hDC (fun q k hq => hout q k (by omega) (by omega) (by omega))⟩, fun q k hq => hout q k (by omega) (by omega) (by omega)⟩
  obtain ⟨q1, q2⟩ := hR.2 c hc
  have h4 := (hV.2 c hc).1
  refine ⟨?_, fun h1 k hk => ?_⟩
  · rw [ri_wi, if_neg (by omega), ri_cp, if_neg (by omega), ri_cp, if_pos ⟨rfl, by omega, by omega⟩, show 0 + (c - 0) = c by omega]
    exact q1
  · rw [ri_wi, if_neg (by omega), ri_cp, if_pos ⟨rfl, by omega, by omega⟩, ri_cp, if_neg (by omega), show 0 + (5 * c + k - 0) = 5 * c + k by omega]
    exact q2 h1 k hk
theorem m_save (hV : VS S) (hI : IM S T D μ) : Ctr l ω M_X7_save [.ref 29] μ (fun v μ' => v = some (.int (nI (sn S))) ∧ IM S S D μ' ∧ fC μ μ') := by
  obtain ⟨hR, hR7, hDM⟩ := id hI
  have h48 := hV.1
  refine Ct_X7_save ?_
  rw [hR.1]
  refine upto1 (G := fun i μ1 => Good l ω M_X7_save 10 [.ref 29, .int (nI i), .null] [] μ1 _) (I := fun i μ1 => (∀ q k, q ≠ 30 → q ≠ 31 → q ≠ 32 → ss_i μ1 q k = ss_i (ss_wi μ 29 1 (nI (sn S))) q k) ∧ μ1.2.2 = μ.2.2 ∧ (∀ q k, (q = 30 ∧ k < 48 ∨ (q = 31 ∨ q = 32) ∧ k < 240) → ss_i μ1 q k = ss_i μ q k) ∧ ∀ c, c < i → ss_i μ1 30 (48 + c) = ss_i μ 30 c ∧ ∀ k, k < 5 → ss_i μ1 31 (5 * (48 + c) + k) = ss_i μ 31 (5 * c + k) ∧ ss_i μ1 32 (5 * (48 + c) + k) = ss_i μ 32 (5 * c + k)) (sn S) ?_ ?_ 0 (by omega) _ ⟨fun q k _ _ _ => rfl, rfl, fun q k hq => by rw [ri_wi, if_neg (by omega)], fun c hc => by omega⟩
  · intro μ1 ⟨k1, k2, k3, k4⟩
    have e0 : ss_i μ1 29 0 = nI (sn S) := by rw [k1 29 0 (by decide) (by decide) (by decide), ri_wi, if_neg (by omega)]; exact hR.1
    have e1 : ss_i μ1 29 1 = nI (sn S) := by rw [k1 29 1 (by decide) (by decide) (by decide), ri_wi, if_pos ⟨rfl, rfl⟩]
    refine Tr_X7_save_10 ?_
    rw [e0, e1]
    refine ⟨fun _ => ⟨rfl, ⟨RM_lo hR (by rw [e0, hR.1]) (fun c hc => k3 30 c (by omega)) (fun k hk => ⟨k3 31 k (by omega), k3 32 k (by omega)⟩) (fun c hc => (hV.2 c hc).1), ⟨e1, fun c hc => ?_⟩, DM_same hDM (by rw [k1 29 5 (by decide) (by decide) (by decide), ri_wi, if_neg (by omega)]) (by rw [k1 29 6 (by decide) (by decide) (by decide), ri_wi, if_neg (by omega)]) (fun q k hq => by rw [k1 q k (by omega) (by omega) (by omega), ri_wi, if_neg (by omega)])⟩, ⟨fun q k hq => by rw [k1 q k (by omega) (by omega) (by omega), ri_wi, if_neg (by omega)], k2⟩⟩, fun g => absurd (nI_le (Nat.le_refl _) (by omega)) g⟩
    obtain ⟨q1, q2⟩ := hR.2 c hc
    obtain ⟨r1, r2⟩ := k4 c hc
    have h4 := (hV.2 c hc).1
    rw [Nat.zero_add] at q1 q2
    refine ⟨by rw [r1]; exact q1, fun h1 k hk => ?_⟩
    rw [(r2 k (by omega)).1, (r2 k (by omega)).2]
    exact q2 h1 k hk
  · intro i μ1 hi ⟨k1, k2, k3, k4⟩ ih
    have e0 : ss_i μ1 29 0 = nI (sn S) := by rw [k1 29 0 (by decide) (by decide) (by decide), ri_wi, if_neg (by omega)]; exact hR.1
    refine Tr_X7_save_10 ?_
    rw [e0]
    refine ⟨fun g => absurd g (nI_ge hi (by omega)), fun _ => ?_⟩
    rw [nI_add, cl_n (by omega), cl_n (by omega), k3 30 i (by omega)]
    refine ⟨inb_n (n := 96) rfl (by omega) (by decide), inb_n (n := 96) rfl (by omega) (by decide), ?_⟩
    refine upto1 (G := fun j μ2 => Good l ω M_X7_save 35 [.ref 29, .int (nI i), .int (nI j)] [] μ2 _) (I := fun j μ2 => (∀ q k, q ≠ 30 → q ≠ 31 → q ≠ 32 → ss_i μ2 q k = ss_i (ss_wi μ 29 1 (nI (sn S))) q k) ∧ μ2.2.2 = μ.2.2 ∧ (∀ q k, (q = 30 ∧ k < 48 ∨ (q = 31 ∨ q = 32) ∧ k < 240) → ss_i μ2 q k = ss_i μ q k) ∧ (∀ c, c < i → ss_i μ2 30 (48 + c) = ss_i μ 30 c ∧ ∀ k, k < 5 → ss_i μ2 31 (5 * (48 + c) + k) = ss_i μ 31 (5 * c + k) ∧ ss_i μ2 32 (5 * (48 + c) + k) = ss_i μ 32 (5 * c + k)) ∧ ss_i μ2 30 (48 + i) = ss_i μ 30 i ∧ ∀ k, k < j → ss_i μ2 31 (5 * (48 + i) + k) = ss_i μ 31 (5 * i + k) ∧ ss_i μ2 32 (5 * (48 + i) + k) = ss_i μ 32 (5 * i + k)) 5 ?_ ?_ 0 (by omega) _ ⟨fun q k a b c => by rw [ri_wi, if_neg (by omega)]; exact k1 q k a b c, k2, fun q k hq => by rw [ri_wi, if_neg (by omega)]; exact k3 q k hq, fun c hc => ⟨by rw [ri_wi, if_neg (by omega)]; exact (k4 c hc).1, fun k hk => by rw [ri_wi, if_neg (by omega), ri_wi, if_neg (by omega)]; exact (k4 c hc).2 k hk⟩, by rw [ri_wi, if_pos ⟨rfl, rfl⟩], fun k hk => by omega⟩
    · intro μ2 ⟨m1, m2, m3, m4, m5, m6⟩
      refine Tr_X7_save_35 ⟨fun _ => ?_, fun g => absurd (nI_le (Nat.le_refl _) (by omega)) g⟩
      rw [nI_add]
      refine ih μ2 ⟨m1, m2, m3, fun c hc => ?_⟩
      by_cases hci : c = i
      · subst hci; exact ⟨m5, m6⟩
      · exact m4 c (by omega)
    · intro j μ2 hj ⟨m1, m2, m3, m4, m5, m6⟩ ih2
      refine Tr_X7_save_35 ⟨fun g => absurd g (nI_ge hj (by omega)), fun _ => ?_⟩
      have t1 : nI 5 * nI i + nI j = nI (5 * i + j) := by rw [pk_mul, nI_add]
      have t2 : nI 5 * (nI 48 + nI i) + nI j = nI (5 * (48 + i) + j) := by rw [nI_add, pk_mul, nI_add]
      rw [t1, t2, cl_n (by omega), cl_n (by omega), ri_wi, if_neg (show ¬ (32 = 31 ∧ 5 * i + j = 5 * (48 + i) + j) by omega), m3 31 _ (by omega), m3 32 _ (by omega)]
      refine ⟨inb_n (n := 480) rfl (by omega) (by decide), inb_n (n := 480) rfl (by omega) (by decide), inb_n (n := 480) rfl (by omega) (by decide), inb_n (n := 480) rfl (by omega) (by decide), ?_⟩
      rw [nI_add]
      have hout : ∀ q k, ¬ ((q = 31 ∨ q = 32) ∧ k = 5 * (48 + i) + j) → ss_i (ss_wi (ss_wi μ2 31 (5 * (48 + i) + j) (ss_i μ 31 (5 * i + j))) 32 (5 * (48 + i) + j) (ss_i μ 32 (5 * i + j))) q k = ss_i μ2 q k := by
        intro q k h
        rw [ri_wi, if_neg (by omega), ri_wi, if_neg (by omega)]
      refine ih2 _ ⟨fun q k a b c => by rw [hout _ _ (by omega)]; exact m1 q k a b c, m2, fun q k hq => by rw [hout _ _ (by omega)]; exact m3 q k hq, fun c hc => ⟨by rw [hout _ _ (by omega)]; exact (m4 c hc).1, fun k hk => by rw [hout _ _ (by omega), hout _ _ (by omega)]; exact (m4 c hc).2 k hk⟩, by rw [hout _ _ (by omega)]; exact m5, fun k hk => ?_⟩
      by_cases hkj : k = j
      · subst hkj
        refine ⟨by rw [ri_wi, if_neg (by omega), ri_wi, if_pos ⟨rfl, rfl⟩], by rw [ri_wi, if_pos ⟨rfl, rfl⟩]⟩
      · rw [hout _ _ (by omega), hout _ _ (by omega)]; exact m6 k (by omega)
def A_sph (a : Int32) : Int32 := if a < nI 1 then -102 else if a ≤ nI 4 then nI 2 else -102
def sph (n : Nat) : SS := appS (appS eS 0 zf zf) n zf zf
def N_sphS (S : SS) (a : Int32) : SS := if a < nI 1 then S else if a ≤ nI 4 then sph a.toNatClampNeg else S
def N_sphD (D : DD) (a : Int32) : DD := if a < nI 1 then D else if a ≤ nI 4 then eD else D
theorem pt_V : VS (appS eS 0 zf zf) := app_V eS_V (by decide) (by omega) (fun h => by omega)
theorem sph_V {n : Nat} (h : n ≤ 4) : VS (sph n) := app_V pt_V (by decide) h (fun _ k _ => ⟨show 0 < sn (appS eS 0 zf zf) by decide, Nat.two_pow_pos _, show popN 0 = sd (appS eS 0 zf zf) 0 by decide⟩)
theorem sph_c (a : Int32) : (∃ d, 1 ≤ d ∧ d ≤ 4 ∧ a = nI d ∧ A_sph a = nI 2 ∧ (∀ S, N_sphS S a = sph d) ∧ ∀ D, N_sphD D a = eD) ∨ (A_sph a = -102 ∧ (a < nI 1 ∨ nI 4 < a) ∧ (∀ S, N_sphS S a = S) ∧ ∀ D, N_sphD D a = D) := by
  rcases rng_c (lo := 1) (hi := 4) (by decide) (by decide) a with ⟨d, hd1, hd, rfl⟩ | h | h
  · left
    have g : ¬ nI d < nI 1 := nI_nlt hd1 (by omega)
    have g2 : nI d ≤ nI 4 := nI_le hd (by omega)
    refine ⟨d, hd1, hd, rfl, by unfold A_sph; rw [if_neg g, if_pos g2], fun S => by unfold N_sphS; rw [if_neg g, if_pos g2, cl_n (by omega)], fun D => by unfold N_sphD; rw [if_neg g, if_pos g2]⟩
  · right
    exact ⟨by unfold A_sph; rw [if_pos h], Or.inl h, fun S => by unfold N_sphS; rw [if_pos h], fun D => by unfold N_sphD; rw [if_pos h]⟩
  · right
    have g2 : ¬ a ≤ nI 4 := Int32.not_le.mpr h
    refine ⟨?_, Or.inr h, fun S => ?_, fun D => ?_⟩
    · unfold A_sph; rw [if_neg g2]; split <;> rfl
    · unfold N_sphS; rw [if_neg g2]; split <;> rfl
    · unfold N_sphD; rw [if_neg g2]; split <;> rfl
theorem sph_N {S : SS} {a : Int32} (hV : VS S) : VS (N_sphS S a) := by
  rcases sph_c a with ⟨d, h1, h2, -, -, h3, -⟩ | ⟨-, -, h3, -⟩
  · rw [h3]; exact sph_V h2
  · rw [h3]; exact hV
theorem sph_D {S : SS} {D : DD} {a : Int32} (hD : DV S D) : DV (N_sphS S a) (N_sphD D a) := by
  rcases sph_c a with ⟨d, h1, h2, -, -, -, h3⟩ | ⟨-, -, h3, h4⟩
  · rw [h3]; exact eD_V
  · rw [h3, h4]; exact hD
theorem x_loadSphere (hI : IC S T D μ) (a : Int32) : Ctr l ω M_X6_loadSphere [.ref 0, .int a] μ (fun v μ' => v = some (.int (A_sph a)) ∧ IC (N_sphS S a) T (N_sphD D a) μ' ∧ fM μ μ') := by
  refine Ct_X6_loadSphere ?_
  rcases sph_c a with ⟨d, h1, h2, rfl, hA, hS, hD⟩ | ⟨hA, ho, hS, hD⟩
  · rw [hA, hS, hD]
    refine ⟨fun g => absurd g (nI_nlt h1 (by omega)), fun _ => ⟨fun _ => ?_, fun g => absurd (nI_le h2 (by omega)) g⟩⟩
    refine ex_q (c_removeAll hI) (fun v μ1 hq => ?_)
    obtain ⟨rfl, j1, j2, -⟩ := hq
    obtain ⟨p, hp, hr, hR⟩ := IC_pl j1
    refine Tr_X6_loadSphere_17 ⟨by rw [hr]; exact cel_o hp, ?_⟩
    refine ex_q (c_appI (d := 0) (f := zf) (g := zf) eS_V j1 (by decide) (by omega) (fun h => by omega)) (fun v μ2 hq => ?_)
    obtain ⟨rfl, m1, m2, m3, m4⟩ := hq
    refine Tr_X6_loadSphere_29 (ex_q (c_fillI (n := 5) rfl (by decide)) (fun v μ3 hq => ?_))
    obtain ⟨rfl, n1, n2, n3⟩ := hq
    have hm : IC (appS eS 0 zf zf) T eD μ3 := IC_k m1 ⟨fun q k a b => n1 q k (by omega), by rw [n2], fun q k a => n1 q k (by omega)⟩
    obtain ⟨p3, hp3, hr3, hR3⟩ := IC_pl hm
    refine Tr_X6_loadSphere_42 ⟨by rw [hr3]; exact cel_o hp3, ?_⟩
    refine ex_q (c_appI (d := d) (f := zf) (g := zf) pt_V hm (by decide) h2 (fun _ k hk => by rw [n3 k (by omega)]; show iPack (nI 0) (nI 0) = nI (64 * 0 + 0); decide)) (fun v μ4 hq => ?_)
    obtain ⟨rfl, o1, o2, o3, o4⟩ := hq
    obtain ⟨p4, hp4, hr4, hR4⟩ := IC_pl o1
    refine Tr_X6_loadSphere_54 ⟨by rw [hr4]; exact cel_o hp4, by rw [hr4, hR4.1]; rfl, o1, fun q k hq => ?_⟩
    rw [o2 q k hq, n1 q k (by omega), m2 q k hq, j2 q k hq]
  · rw [hA, hS, hD]
    exact ⟨fun _ => ⟨rfl, hI, fM_rf⟩, fun g => ⟨fun g2 => absurd g2 (Int32.not_le.mpr (ho.resolve_left g)), fun _ => ⟨rfl, hI, fM_rf⟩⟩⟩
theorem m_empty (hI : IM S T D μ) : IM eS T eD (ss_wi (ss_wi μ 29 0 (nI 0)) 29 5 (nI 0)) ∧ fC μ (ss_wi (ss_wi μ 29 0 (nI 0)) 29 5 (nI 0)) := by
  obtain ⟨hR, hR7, hDM⟩ := id hI
  have hout : ∀ q k, ¬ (q = 29 ∧ (k = 0 ∨ k = 5)) → ss_i (ss_wi (ss_wi μ 29 0 (nI 0)) 29 5 (nI 0)) q k = ss_i μ q k := by
    intro q k h
    rw [ri_wi, if_neg (by omega), ri_wi, if_neg (by omega)]
  refine ⟨⟨⟨?_, fun c hc => absurd hc (by show ¬ c < 0; omega)⟩, RM_same hR7 (hout _ _ (by omega)) (fun q k a b => hout _ _ (by omega)), ?_, fun q => absurd q (by show ¬ 1 ≤ (0 : Nat); omega)⟩, ⟨fun q k hq => hout q k (by omega), rfl⟩⟩
  · rw [ri_wi, if_neg (by omega), ri_wi, if_pos ⟨rfl, rfl⟩]; rfl
  · rw [ri_wi, if_pos ⟨rfl, rfl⟩]; rfl
theorem m_loadSphere (hI : IM S T D μ) (a : Int32) : Ctr l ω M_X7_loadSphere [.ref 29, .int a] μ (fun v μ' => v = some (.int (A_sph a)) ∧ IM (N_sphS S a) T (N_sphD D a) μ' ∧ fC μ μ') := by
  refine Ct_X7_loadSphere ?_
  rcases sph_c a with ⟨d, h1, h2, rfl, hA, hS, hD⟩ | ⟨hA, ho, hS, hD⟩
  · rw [hA, hS, hD, in_t (by decide) h1 h2]
    refine ⟨fun _ => ?_, fun g => absurd nI1_ne g⟩
    obtain ⟨j1, j2⟩ := m_empty hI
    refine ex_q (m_addI (d := 0) (f := zf) (g := zf) eS_V j1 (by decide) (fun h => by omega)) (fun v μ1 hq => ?_)
    obtain ⟨rfl, m1, m2, -⟩ := hq
    refine Tr_X7_loadSphere_27 ?_
    refine upto1 (G := fun i μ1 => Good l ω M_X7_loadSphere 30 [.ref 29, .int (nI d), .int (nI i)] [] μ1 _) (I := fun i μ1 => IM (appS eS 0 zf zf) T eD μ1 ∧ fC μ μ1 ∧ ∀ k, k < i → ss_i μ1 31 (5 * 1 + k) = nI 0 ∧ ss_i μ1 32 (5 * 1 + k) = nI 0) (d + 1) ?_ ?_ 0 (by omega) μ1 ⟨m1, fC_tr j2 m2, fun k hk => by omega⟩
    · intro μ2 ⟨k1, k2, k3⟩
      refine Tr_X7_loadSphere_30 ⟨fun _ => ?_, fun g => absurd (nI_lt (by omega) (by omega)) g⟩
      refine ex_q (m_addI (d := d) (f := zf) (g := zf) pt_V k1 (by decide) (fun _ k hk => k3 k (by omega))) (fun v μ3 hq => ?_)
      obtain ⟨rfl, n1, n2, -⟩ := hq
      refine Tr_X7_loadSphere_54 ⟨by rw [n1.1.1]; rfl, n1, fC_tr k2 n2⟩
    · intro i μ2 hi ⟨k1, k2, k3⟩ ih
      refine Tr_X7_loadSphere_30 ⟨fun g => absurd g (nI_nlt (by omega) (by omega)), fun _ => ?_⟩
      refine ex_q (m_putI (k := i) pt_V k1 (by decide) (by omega)) (fun v μ3 hq => ?_)
      obtain ⟨rfl, n1, n2, n3, n4⟩ := hq
      refine Tr_X7_loadSphere_43 ?_
      rw [nI_add]
      refine ih μ3 ⟨n1, fC_tr k2 n2, fun k hk => ?_⟩
      obtain ⟨e1, e2⟩ := n4 (5 * 1 + k)
      have e : sn (appS eS 0 zf zf) = 1 := rfl
      rw [e] at e1 e2
      by_cases hki : k = i
      · subst hki
        rw [if_pos rfl] at e1 e2
        exact ⟨e1, e2⟩
      · rw [if_neg (by omega)] at e1 e2
        rw [e1, e2]; exact k3 k (by omega)
  · rw [hA, hS, hD, in_f ho]
    exact ⟨fun g => absurd nI0_eq g, fun _ => ⟨rfl, hI, fC_rf⟩⟩
end LD

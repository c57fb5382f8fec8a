section PZ
variable {l : Launch} {ω : Wd} {μ : Mm} {S T : SS} {D : DD}
def pb (L : List PP) (q : PP) : Nat → Int32
  | 0 => -109
  | i + 1 => if el L i = q then nI i else pb L q i
theorem pb_lst {L : List PP} {q : PP} {e j : Nat} (hj : j < e) (h : el L j = q) : pb L q e = nI (lst L q e) := by
  induction e with
  | zero => omega
  | succ e ih =>
    rw [pb, lst]
    by_cases he : el L e = q
    · rw [if_pos he, if_pos he]
    · rw [if_neg he, if_neg he]
      have : j ≠ e := fun r => he (r ▸ h)
      exact ih (by omega)
theorem pb_in {L : List PP} {q : PP} (h : q ∈ L) : pb L q L.length = nI (lst L q L.length) := by
  obtain ⟨j, hj, he⟩ := List.mem_iff_getElem.mp h
  exact pb_lst hj (by rw [el_lt hj]; exact he)
theorem d_sq : ∀ m, m < 8 → ∀ s, s < 8 → (iSq (nI m) (nI s) 6).1 = nI (gatN m s) := by decide +kernel
theorem c_pairBy {L : List PP} {p : PP} {i : Nat} (hS : VS S) (hT : VS T) (hP : PM L μ) (h48 : L.length ≤ 48) (hL : ∀ p, p ∈ L ↔ p.1 < 5 ∧ okP S T p) (hp : p ∈ L) (h1 : 1 ≤ p.1) (hi : i ≤ p.1) : CtrP l ω M_X7_pairBy [.ref 29, .int (nI (fX S p i)), .int (nI (fA S p i)), .int (nI (fY T p i)), .int (nI (fB T p i))] μ (nI (lst L (fQ S T p i) L.length)) := by
  obtain ⟨m1, m2⟩ := (hL p).mp hp
  obtain ⟨f1, f2, f3, f4, f5, f6, f7, f8⟩ := f_ok hS hT m2 h1 (by omega) hi
  have hx : fX S p i < 48 := Nat.lt_of_lt_of_le f3.1 hS.1
  have hy : fY T p i < 48 := Nat.lt_of_lt_of_le f4.1 hT.1
  have q5 : (fQ S T p i).1 < 5 := by show popN (fK S T p i) < 5; omega
  have hin := (hL _).mpr ⟨q5, f1⟩
  obtain ⟨a1, a2, a3, a4⟩ := okP_lt f1 q5 hS hT
  have a2' : gatN (fA S p i) (fK S T p i) < 16 := a2
  have a4' : gatN (fB T p i) (fK S T p i) < 16 := a4
  have eK : nI (fA S p i) ||| nI (fB T p i) = nI (fK S T p i) := d_orN _ (by omega) _ (by omega)
  have h0 : ss_i μ 29 26 = nI L.length := by rw [hP.1]; congr 1; omega
  refine Ct_X7_pairBy ?_
  rw [eK, ← pb_in hin]
  have b7 := d_b7 (fK S T p i) (by omega)
  have s1 := d_sq _ f5 _ f7
  have s2 := d_sq _ f6 _ f7
  refine upto0 (G := fun j => Good l ω M_X7_pairBy 13 [.ref 29, .int (nI (fX S p i)), .int (nI (fA S p i)), .int (nI (fY T p i)), .int (nI (fB T p i)), .int (nI (fK S T p i)), .int (pb L (fQ S T p i) j), .int (nI j), .null] [] μ (fun v μ' => v = some (.int (pb L (fQ S T p i) L.length)) ∧ μ' = μ)) L.length ?_ ?_ 0 (by omega)
  · refine Tr_X7_pairBy_13 ?_
    rw [h0]
    exact ⟨fun _ => ⟨rfl, rfl⟩, fun g => absurd (nI_le (Nat.le_refl _) (by omega)) g⟩
  · intro j hj ih
    obtain ⟨n1, n2⟩ := (hL _).mp (el_mem hj)
    obtain ⟨b1, b2, b3, b4⟩ := okP_lt n2 n1 hS hT
    obtain ⟨⟨p1, p2⟩, p3, p4, p5⟩ := hP.2 j hj (by omega)
    rw [pb] at ih
    have inn : ∀ q, (q = 44 ∨ q = 45 ∨ q = 46 ∨ q = 47 ∨ q = 48) → inb q 1 (nI j) = true := by
      rintro q (rfl | rfl | rfl | rfl | rfl) <;> exact inb_n (n := 48) rfl (by omega) (by decide)
    refine Tr_X7_pairBy_13 ?_
    rw [h0, cl_n (by omega), p1, p2, p3, p4, p5, b7, s1, s2, nI_eq (by omega) (by omega), nI_eq (by omega) (by omega), nI_eq (by omega) (by omega), nI_eq (by omega) (by omega), nI_eq (by omega) (by omega), nI_add]
    refine ⟨fun g => absurd g (nI_ge hj (by omega)), fun _ => ⟨inn 44 (by omega), fun g => ?_, fun g => ⟨inn 45 (by omega), fun g1 => ?_, fun g1 => ⟨inn 46 (by omega), fun g2 => ?_, fun g2 => ⟨inn 47 (by omega), fun g3 => ?_, fun g3 => ⟨inn 48 (by omega), fun g4 => ?_, fun g4 => ?_⟩⟩⟩⟩⟩⟩
    · rw [if_neg (fun r => g (by rw [r]; rfl))] at ih; exact ih
    · rw [if_neg (fun r => g1 (by rw [r]; rfl))] at ih; exact ih
    · rw [if_neg (fun r => g2 (by rw [r]; rfl))] at ih; exact ih
    · rw [if_neg (fun r => g3 (by rw [r]; rfl))] at ih; exact ih
    · rw [if_neg (fun r => g4 (by rw [r]; rfl))] at ih; exact ih
    · have e : el L j = fQ S T p i := okP_eq n2 f1 n1 q5 (Decidable.not_not.mp g1) (Decidable.not_not.mp g3) (Decidable.not_not.mp g2) (Decidable.not_not.mp g4)
      rw [if_pos e] at ih; exact ih
theorem c_layPairFaces {L : List PP} {c : Nat} (hS : VS S) (hT : VS T) (hI : IM S T D μ) (hP : PM L μ) (h48 : L.length ≤ 48) (hL : ∀ p, p ∈ L ↔ p.1 < 5 ∧ okP S T p) (hc : c < L.length) : Ctr l ω M_X7_layPairFaces [.ref 29, .int (nI c)] μ (fun v μ' => v = none ∧ fL μ μ' ∧ PM L μ' ∧ (∀ k, k < 5 * c → ss_i μ' 49 k = ss_i μ 49 k ∧ ss_i μ' 50 k = ss_i μ 50 k) ∧ (1 ≤ (el L c).1 → ∀ k, k ≤ (el L c).1 → ss_i μ' 49 (5 * c + k) = nI (sf (psS S T L) c k) ∧ ss_i μ' 50 (5 * c + k) = nI (sm (psS S T L) c k))) := by
  have hmem := el_mem hc
  obtain ⟨m1, m2⟩ := (hL _).mp hmem
  have inn : ∀ q, (q = 44 ∨ q = 45 ∨ q = 46 ∨ q = 47 ∨ q = 48) → inb q 1 (nI c) = true := by
    rintro q (rfl | rfl | rfl | rfl | rfl) <;> exact inb_n (n := 48) rfl (by omega) (by decide)
  refine Ct_X7_layPairFaces ?_
  by_cases h0 : (el L c).1 = 0
  · obtain ⟨⟨p1, p2⟩, p3, p4, p5⟩ := hP.2 c hc (by omega)
    refine Tr_X7_layPairFaces_2 ?_
    rw [cl_n (by omega), p1, h0]
    exact ⟨inn 44 (by omega), fun g => absurd g (by decide), fun _ => ⟨inn 44 (by omega), fun _ => ⟨rfl, fL_rf, hP, fun k hk => ⟨rfl, rfl⟩, fun h => by omega⟩, fun g => absurd (by decide) g⟩⟩
  have hpos : ¬ nI (el L c).1 ≤ 0 := fun g => by
    have := Int32.lt_of_lt_of_le (nI_lt (show 0 < (el L c).1 by omega) (by omega)) g
    exact absurd this (by decide)
  refine upto1 (G := fun i μ1 => Good l ω M_X7_layPairFaces 2 [.ref 29, .int (nI c), .int (nI i), .null, .null] [] μ1 _) (I := fun i μ1 => fL μ μ1 ∧ PM L μ1 ∧ (∀ k, k < 5 * c → ss_i μ1 49 k = ss_i μ 49 k ∧ ss_i μ1 50 k = ss_i μ 50 k) ∧ ∀ k, k < i → ss_i μ1 49 (5 * c + k) = nI (sf (psS S T L) c k) ∧ ss_i μ1 50 (5 * c + k) = nI (sm (psS S T L) c k)) ((el L c).1 + 1) ?_ ?_ 0 (by omega) μ ⟨fL_rf, hP, fun k hk => ⟨rfl, rfl⟩, fun k hk => by omega⟩
  · intro μ1 ⟨k1, k2, k3, k4⟩
    obtain ⟨⟨p1, p2⟩, p3, p4, p5⟩ := k2.2 c hc (by omega)
    refine Tr_X7_layPairFaces_2 ?_
    rw [cl_n (by omega), p1]
    exact ⟨inn 44 (by omega), fun _ => ⟨rfl, k1, k2, k3, fun _ k hk => k4 k (by omega)⟩, fun g => absurd (nI_lt (by omega) (by omega)) g⟩
  · intro i μ1 hi ⟨k1, k2, k3, k4⟩ ih
    obtain ⟨⟨p1, p2⟩, p3, p4, p5⟩ := k2.2 c hc (by omega)
    obtain ⟨f1, f2, f3, f4, f5, f6, f7, f8⟩ := f_ok hS hT m2 (by omega) (by omega) (show i ≤ (el L c).1 by omega)
    have hI1 := IM_k hI (fL_k k1)
    refine Tr_X7_layPairFaces_2 ?_
    rw [cl_n (by omega), p1, p2, p3]
    refine ⟨inn 44 (by omega), fun g => absurd g (nI_nlt (by omega) (by omega)), fun _ => ⟨inn 44 (by omega), fun g => absurd g hpos, fun _ => ⟨inn 45 (by omega), inn 44 (by omega), inn 47 (by omega), ?_⟩⟩⟩
    refine ex_q (c_takeFace (by omega) hS hI1.1 ⟨m2.1, by omega, m2.2.1, m2.2.2.1⟩ (by omega) (by omega)) (fun v μ2 hq => ?_)
    obtain ⟨rfl, rfl⟩ := hq
    generalize hμ2 : ss_wi (ss_wi μ1 29 9 (nI (fcx S (el L c).2.1 (el L c).1 (el L c).2.2.1 i))) 29 10 (nI (fmx S (el L c).2.1 (el L c).1 (el L c).2.2.1 i)) = μ2
    have g9 : ss_i μ2 29 9 = nI (fX S (el L c) i) := by rw [← hμ2]; exact got9
    have g10 : ss_i μ2 29 10 = nI (fA S (el L c) i) := by rw [← hμ2]; exact got10
    have s2 : ∀ q k, ¬ (q = 29 ∧ (k = 9 ∨ k = 10)) → ss_i μ2 q k = ss_i μ1 q k := fun q k h => by rw [← hμ2, ri_wi, if_neg (by omega), ri_wi, if_neg (by omega)]
    have r2 : μ2.2.2 = μ1.2.2 := by rw [← hμ2]; rfl
    have hI2 : IM S T D μ2 := IM_k hI1 ⟨fun q k a => s2 q k (by omega), r2, fun k a => s2 29 k (by omega), fun q k a b => s2 q k (by omega)⟩
    refine Tr_X7_layPairFaces_45 ?_
    rw [g9, g10, cl_n (by omega), s2 46 c (by omega), s2 44 c (by omega), s2 48 c (by omega), p1, p4, p5]
    refine ⟨inn 46 (by omega), inn 44 (by omega), inn 48 (by omega), ?_⟩
    refine ex_q (c_takeFace (by omega) hT hI2.2.1 ⟨m2.2.2.2.1, by omega, m2.2.2.2.2.1, m2.2.2.2.2.2.1⟩ (by omega) (by omega)) (fun v μ3 hq => ?_)
    obtain ⟨rfl, rfl⟩ := hq
    generalize hμ3 : ss_wi (ss_wi μ2 29 9 (nI (fcx T (el L c).2.2.2.1 (el L c).1 (el L c).2.2.2.2 i))) 29 10 (nI (fmx T (el L c).2.2.2.1 (el L c).1 (el L c).2.2.2.2 i)) = μ3
    have g9' : ss_i μ3 29 9 = nI (fY T (el L c) i) := by rw [← hμ3]; exact got9
    have g10' : ss_i μ3 29 10 = nI (fB T (el L c) i) := by rw [← hμ3]; exact got10
    have s3 : ∀ q k, ¬ (q = 29 ∧ (k = 9 ∨ k = 10)) → ss_i μ3 q k = ss_i μ1 q k := fun q k h => by rw [← hμ3, ri_wi, if_neg (by omega), ri_wi, if_neg (by omega)]; exact s2 q k h
    have r3 : μ3.2.2 = μ1.2.2 := by rw [← hμ3, ← r2]; rfl
    have hP3 : PM L μ3 := PM_same k2 (s3 29 26 (by omega)) (fun q k a b => s3 q k (by omega))
    refine Tr_X7_layPairFaces_81 ?_
    rw [g9', g10', pk_mul, nI_add]
    refine ex_p (c_pairBy hS hT hP3 h48 hL hmem (by omega) (by omega)) ?_
    refine Tr_X7_layPairFaces_105 ?_
    rw [pk_mul, nI_add, nI_add, cl_n (by omega), ri_wi, if_neg (by omega), g10', d_orN _ (by omega) _ (by omega)]
    refine ⟨inb_n (n := 240) rfl (by omega) (by decide), inb_n (n := 240) rfl (by omega) (by decide), ?_⟩
    have s4 : ∀ q k, ¬ (q = 29 ∧ (k = 9 ∨ k = 10)) → ¬ ((q = 49 ∨ q = 50) ∧ k = 5 * c + i) → ss_i (ss_wi (ss_wi μ3 49 (5 * c + i) (nI (lst L (fQ S T (el L c) i) L.length))) 50 (5 * c + i) (nI (fA S (el L c) i ||| fB T (el L c) i))) q k = ss_i μ1 q k := fun q k h h' => by rw [ri_wi, if_neg (by omega), ri_wi, if_neg (by omega)]; exact s3 q k h
    refine ih _ ⟨fL_tr k1 ⟨fun q k a => s4 q k (by omega) (by omega), r3, fun k a => s4 29 k (by omega) (by omega)⟩, PM_same k2 (s4 29 26 (by omega) (by omega)) (fun q k a b => s4 q k (by omega) (by omega)), fun k hk => by rw [s4 49 k (by omega) (by omega), s4 50 k (by omega) (by omega)]; exact k3 k hk, fun k hk => ?_⟩
    by_cases hki : k = i
    · subst hki
      refine ⟨?_, ?_⟩
      · rw [ri_wi, if_neg (by omega), ri_wi, if_pos ⟨rfl, rfl⟩]; rfl
      · rw [ri_wi, if_pos ⟨rfl, rfl⟩]; rfl
    · rw [s4 49 _ (by omega) (by omega), s4 50 _ (by omega) (by omega)]; exact k4 k (by omega)
theorem gr_max {a b : Nat} (ha : a < 2 ^ 30) (hb : b < 2 ^ 30) : iGr (nI a) (nI b) = nI (max a b) := by
  unfold iGr
  by_cases h : a ≤ b
  · rw [if_pos (nI_le h (by omega)), Nat.max_eq_right h]
  · rw [if_neg (nI_ge (by omega) (by omega)), Nat.max_eq_left (by omega)]
theorem m_product (hS : VS S) (hT : VS T) (hI : IM S T D μ) : Ctr l ω M_X7_product [.ref 29] μ (fun v μ' => v = some (.int (A_prd S T)) ∧ IM (N_prdS S T) T (N_prdD S T D) μ' ∧ fC μ μ') := by
  obtain ⟨hR, hR7, hDM⟩ := id hI
  have h48 := hS.1
  have h48T := hT.1
  have g1 := gd_4 hS (sn S) (Nat.le_refl _)
  have g2 := gd_4 hT (sn T) (Nat.le_refl _)
  refine Ct_X7_product ?_
  refine upto0 (G := fun i => Good l ω M_X7_product 6 [.ref 29, .int (nI (gdN S i)), .int (nI 0), .int (nI i), .null] [] μ _) (sn S) ?_ ?_ 0 (by omega)
  rotate_left
  · intro i hi ih
    have h1 := (hS.2 i hi).1
    have h2 := gd_4 hS i (by omega)
    refine Tr_X7_product_6 ?_
    rw [hR.1, cl_n (by omega), RM_d0 hR hi, gr_max (by omega) (by omega), nI_add]
    exact ⟨fun g => absurd g (nI_ge hi (by omega)), fun _ => ⟨inb_n (n := 96) rfl (by omega) (by decide), ih⟩⟩
  refine Tr_X7_product_6 ?_
  rw [hR.1]
  refine ⟨fun _ => ?_, fun g => absurd (nI_le (Nat.le_refl _) (by omega)) g⟩
  refine upto0 (G := fun i => Good l ω M_X7_product 33 [.ref 29, .int (nI (gdN S (sn S))), .int (nI (gdN T i)), .int (nI i), .null] [] μ _) (sn T) ?_ ?_ 0 (by omega)
  rotate_left
  · intro i hi ih
    have h1 := (hT.2 i hi).1
    have h2 := gd_4 hT i (by omega)
    refine Tr_X7_product_33 ?_
    rw [hR7.1, nI_add 48 i, cl_n (by omega), RM_d hR7 hi, gr_max (by omega) (by omega), nI_add i 1]
    exact ⟨fun g => absurd g (nI_ge hi (by omega)), fun _ => ⟨inb_n (n := 96) rfl (by omega) (by decide), ih⟩⟩
  refine Tr_X7_product_33 ?_
  rw [hR7.1, nI_add]
  refine ⟨fun _ => ⟨fun g => ?_, fun g => ?_⟩, fun g => absurd (nI_le (Nat.le_refl _) (by omega)) g⟩
  · have hg : gdT S T ≤ 4 := by
      rcases Nat.lt_or_ge 4 (gdT S T) with q | q
      · exact absurd g (nI_ge q (by unfold gdT at *; omega))
      · exact q
    refine ex_q (c_layPairs hS hT hI) (fun v μ1 hq => ?_)
    obtain ⟨rfl, hP, hf⟩ := hq
    refine Tr_X7_product_75 ?_
    rw [hP.1]
    refine ⟨fun g3 => ?_, fun g3 => ?_⟩
    · have hl48 : (prL S T 5).length ≤ 48 := by
        rcases Nat.lt_or_ge 48 (prL S T 5).length with q | q
        · exact absurd g3 (nI_ge (by omega) (by omega))
        · exact q
      have hA : A_prd S T = nI (prL S T 5).length := by unfold A_prd; rw [if_pos hg, if_pos hl48]
      have hS' : N_prdS S T = psS S T (prL S T 5) := by unfold N_prdS; rw [if_pos ⟨hg, hl48⟩]
      have hD' : N_prdD S T D = eD := by unfold N_prdD; rw [if_pos ⟨hg, hl48⟩]
      rw [hA, hS', hD']
      have hL : ∀ p, p ∈ prL S T 5 ↔ p.1 < 5 ∧ okP S T p := fun p => prL_mem
      generalize prL S T 5 = L at *
      have rn : ∀ {μ1 : Mm}, PM L μ1 → ss_i μ1 29 26 = nI L.length := fun h => by rw [h.1]; congr 1; omega
      have hd4 : ∀ c, c < L.length → (el L c).1 ≤ 4 := fun c hc => by have := ((hL _).mp (el_mem hc)).1; omega
      refine upto1 (G := fun c μ2 => Good l ω M_X7_product 89 [.ref 29, .null, .null, .int (nI c), .null] [] μ2 _) (I := fun c μ2 => fL μ μ2 ∧ PM L μ2 ∧ ∀ c', c' < c → 1 ≤ (el L c').1 → ∀ k, k ≤ (el L c').1 → ss_i μ2 49 (5 * c' + k) = nI (sf (psS S T L) c' k) ∧ ss_i μ2 50 (5 * c' + k) = nI (sm (psS S T L) c' k)) L.length ?_ ?_ 0 (by omega) μ1 ⟨hf, hP, fun c hc => by omega⟩
      · intro μ2 ⟨k1, k2, k3⟩
        refine Tr_X7_product_89 ?_
        rw [rn k2]
        refine ⟨fun _ => ?_, fun g => absurd (nI_le (Nat.le_refl _) (by omega)) g⟩
        obtain ⟨j1, j2⟩ := m_empty (IM_k hI (fL_k k1))
        have se : ∀ q k, ¬ (q = 29 ∧ (k = 0 ∨ k = 5)) → ss_i (ss_wi (ss_wi μ2 29 0 (nI 0)) 29 5 (nI 0)) q k = ss_i μ2 q k := fun q k h => by rw [ri_wi, if_neg (by omega), ri_wi, if_neg (by omega)]
        have j3 : IM (cutS (psS S T L) 0) T eD (ss_wi (ss_wi μ2 29 0 (nI 0)) 29 5 (nI 0)) := ⟨⟨j1.1.1, fun c hc => absurd hc (by show ¬ c < 0; omega)⟩, j1.2⟩
        refine upto1 (G := fun c μ3 => Good l ω M_X7_product 120 [.ref 29, .null, .null, .int (nI c), .null] [] μ3 _) (I := fun c μ3 => IM (cutS (psS S T L) c) T eD μ3 ∧ fC μ μ3 ∧ PM L μ3 ∧ ∀ k, ss_i μ3 49 k = ss_i μ2 49 k ∧ ss_i μ3 50 k = ss_i μ2 50 k) L.length ?_ ?_ 0 (by omega) _ ⟨j3, fC_tr (fL_k k1).fC j2, PM_same k2 (se 29 26 (by omega)) (fun q k a b => se q k (by omega)), fun k => ⟨se 49 k (by omega), se 50 k (by omega)⟩⟩
        · intro μ3 ⟨n1, n2, n3, n4⟩
          refine Tr_X7_product_120 ?_
          rw [rn n3]
          exact ⟨fun _ => ⟨by rw [n1.1.1]; rfl, n1, n2⟩, fun g => absurd (nI_le (Nat.le_refl _) (by omega)) g⟩
        · intro c μ3 hc ⟨n1, n2, n3, n4⟩ ih
          have h4 := hd4 c hc
          refine Tr_X7_product_120 ?_
          rw [rn n3]
          refine ⟨fun g => absurd g (nI_ge hc (by omega)), fun _ => ?_⟩
          refine upto1 (G := fun k μ4 => Good l ω M_X7_product 131 [.ref 29, .null, .null, .int (nI c), .int (nI k)] [] μ4 _) (I := fun k μ4 => IM (cutS (psS S T L) c) T eD μ4 ∧ fC μ μ4 ∧ PM L μ4 ∧ (∀ k, ss_i μ4 49 k = ss_i μ2 49 k ∧ ss_i μ4 50 k = ss_i μ2 50 k) ∧ ∀ j, j < k → ss_i μ4 31 (5 * c + j) = ss_i μ2 49 (5 * c + j) ∧ ss_i μ4 32 (5 * c + j) = ss_i μ2 50 (5 * c + j)) ((el L c).1 + 1) ?_ ?_ 0 (by omega) μ3 ⟨n1, n2, n3, n4, fun j hj => by omega⟩
          · intro μ4 ⟨o1, o2, o3, o4, o5⟩
            obtain ⟨⟨p1, -⟩, -⟩ := o3.2 c hc (by omega)
            refine Tr_X7_product_131 ?_
            rw [cl_n (by omega), p1]
            refine ⟨inb_n (n := 48) rfl (by omega) (by decide), fun _ => ⟨inb_n (n := 48) rfl (by omega) (by decide), ?_⟩, fun g => absurd (nI_lt (by omega) (by omega)) g⟩
            refine ex_q (m_addI4 (S := cutS (psS S T L) c) (d := sd (psS S T L) c) (f := sf (psS S T L) c) (g := sm (psS S T L) c) (fun i hi => hd4 i (Nat.lt_trans hi hc)) o1 (show c < 48 by omega) (fun h k hk => ?_)) (fun v μ5 hq => ?_)
            · have hk : k ≤ (el L c).1 := hk
              have h : 1 ≤ (el L c).1 := h
              show ss_i μ4 31 (5 * c + k) = _ ∧ ss_i μ4 32 (5 * c + k) = _
              rw [(o5 k (by omega)).1, (o5 k (by omega)).2]
              exact k3 c hc h k hk
            · obtain ⟨rfl, t1, t2, t3⟩ := hq
              rw [cut_app] at t1
              refine Tr_X7_product_187 ?_
              rw [nI_add]
              exact ih μ5 ⟨t1, fC_tr o2 t2, PM_same o3 (t3 29 26 (by decide) (by omega)) (fun q k a b => t3 q k (by omega) (by omega)), fun k => by rw [t3 49 k (by decide) (by omega), t3 50 k (by decide) (by omega)]; exact o4 k⟩
          · intro k μ4 hk ⟨o1, o2, o3, o4, o5⟩ ih2
            obtain ⟨⟨p1, -⟩, -⟩ := o3.2 c hc (by omega)
            refine Tr_X7_product_131 ?_
            rw [pk_mul, nI_add, cl_n (by omega), cl_n (by omega), p1, (o4 _).1, (o4 _).2]
            refine ⟨inb_n (n := 48) rfl (by omega) (by decide), fun g => absurd g (nI_nlt (by omega) (by omega)), fun _ => ⟨inb_n (n := 240) rfl (by omega) (by decide), inb_n (n := 240) rfl (by omega) (by decide), ?_⟩⟩
            refine ex_q (m_putI4 (S := cutS (psS S T L) c) (k := k) (fun i hi => hd4 i (Nat.lt_trans hi hc)) o1 (show c < 48 by omega) (by omega)) (fun v μ5 hq => ?_)
            obtain ⟨rfl, t1, t2, t3, t4⟩ := hq
            refine Tr_X7_product_171 ?_
            rw [nI_add]
            refine ih2 μ5 ⟨t1, fC_tr o2 t2, PM_same o3 (t3 29 26 (by decide) (by decide)) (fun q k a b => t3 q k (by omega) (by omega)), fun k => by rw [t3 49 k (by decide) (by decide), t3 50 k (by decide) (by decide)]; exact o4 k, fun j hj => ?_⟩
            obtain ⟨u1, u2⟩ := t4 (5 * c + j)
            have e : sn (cutS (psS S T L) c) = c := rfl
            rw [e] at u1 u2
            by_cases hjk : j = k
            · subst hjk
              rw [if_pos rfl] at u1 u2
              exact ⟨u1, u2⟩
            · rw [if_neg (by omega)] at u1 u2
              rw [u1, u2]; exact o5 j (by omega)
      · intro c μ2 hc ⟨k1, k2, k3⟩ ih
        refine Tr_X7_product_89 ?_
        rw [rn k2]
        refine ⟨fun g => absurd g (nI_ge hc (by omega)), fun _ => ?_⟩
        refine ex_q (c_layPairFaces hS hT (IM_k hI (fL_k k1)) k2 hl48 hL hc) (fun v μ3 hq => ?_)
        obtain ⟨rfl, t1, t2, t3, t4⟩ := hq
        refine Tr_X7_product_102 ?_
        rw [nI_add]
        refine ih μ3 ⟨fL_tr k1 t1, t2, fun c' hc' h1 k hk => ?_⟩
        by_cases hcc : c' = c
        · subst hcc; exact t4 h1 k hk
        · have h4 := hd4 c' (by omega)
          rw [(t3 (5 * c' + k) (by omega)).1, (t3 (5 * c' + k) (by omega)).2]
          exact k3 c' (by omega) h1 k hk
    · have hl48 : ¬ (prL S T 5).length ≤ 48 := fun q => g3 (nI_le (by omega) (by omega))
      have hA : A_prd S T = -105 := by unfold A_prd; rw [if_pos hg, if_neg hl48]
      have hS' : N_prdS S T = S := by unfold N_prdS; rw [if_neg (fun r => hl48 r.2)]
      have hD' : N_prdD S T D = D := by unfold N_prdD; rw [if_neg (fun r => hl48 r.2)]
      rw [hA, hS', hD']
      exact ⟨rfl, IM_k hI (fL_k hf), (fL_k hf).fC⟩
  · have hg : ¬ gdT S T ≤ 4 := fun q => g (nI_le q (by omega))
    have hA : A_prd S T = -102 := by unfold A_prd; rw [if_neg hg]
    have hS' : N_prdS S T = S := by unfold N_prdS; rw [if_neg (fun r => hg r.1)]
    have hD' : N_prdD S T D = D := by unfold N_prdD; rw [if_neg (fun r => hg r.1)]
    rw [hA, hS', hD']
    exact ⟨rfl, hI, fC_rf⟩
end PZ

/-! questions about simplices, both sides -/
def vtR (S : SS) (j : Nat) : Nat → Nat → Nat → Nat → Nat
  | 0, x, _, _ => x
  | i + 1, x, n, m => if i = j then vtR S j i x n m else vtR S j i (fcx S x n m i) (n - 1) (fmx S x n m i)
def A_face (S : SS) (a1 a2 a3 a4 : Int32) : Int32 := if bar S a1 a2 a3 a4 (nI 1) (nI 6) = 0 then nI (fcx S a1.toNatClampNeg a2.toNatClampNeg a3.toNatClampNeg a4.toNatClampNeg) else bar S a1 a2 a3 a4 (nI 1) (nI 6)
def A_fmask (S : SS) (a1 a2 a3 a4 : Int32) : Int32 := if bar S a1 a2 a3 a4 (nI 1) (nI 6) = 0 then nI (fmx S a1.toNatClampNeg a2.toNatClampNeg a3.toNatClampNeg a4.toNatClampNeg) else bar S a1 a2 a3 a4 (nI 1) (nI 6)
def A_deg (S : SS) (a1 a2 a3 a4 : Int32) : Int32 := if bar S a1 a2 a3 a4 (nI 0) (nI 5) = 0 then iWc a3 a4 else bar S a1 a2 a3 a4 (nI 0) (nI 5)
def A_vtx (S : SS) (a1 a2 a3 a4 : Int32) : Int32 := if bar S a1 a2 a3 a4 (nI 0) (nI 6) = 0 then nI (vtR S a4.toNatClampNeg (a2.toNatClampNeg + 1) a1.toNatClampNeg a2.toNatClampNeg a3.toNatClampNeg) else bar S a1 a2 a3 a4 (nI 0) (nI 6)
theorem lt0_ne {a : Int32} (h : a < 0) : ¬ a = 0 := by rintro rfl; exact absurd h (by decide)
theorem lt0_nle {a : Int32} (h : a < 0) : ¬ 0 ≤ a := Int32.not_le.mpr h
theorem kM_got {μ : Mm} {a b : Int32} : kM μ (ss_wi (ss_wi μ 29 9 a) 29 10 b) := by
  refine ⟨fun q k h => ?_, rfl, fun k h => ?_, fun q k h1 h2 => ?_⟩
  · rw [ri_wi, ri_wi, if_neg (by omega), if_neg (by omega)]
  · rw [ri_wi, ri_wi, if_neg (by omega), if_neg (by omega)]
  · rw [ri_wi, ri_wi, if_neg (by omega), if_neg (by omega)]
section FQ
variable {l : Launch} {ω : Wd} {μ : Mm} {S T : SS} {D : DD}
theorem x_faceCell (hV : VS S) (hI : IC S T D μ) (a1 a2 a3 a4 : Int32) : CtrP l ω M_X6_faceCell [.ref 0, .int a1, .int a2, .int a3, .int a4] μ (A_face S a1 a2 a3 a4) := by
  obtain ⟨p, hp, hr, hR⟩ := IC_pl hI
  refine Ct_X6_faceCell (ex_p (c_checkPlace hV hI _ _ _ _ _ _) (Tr_X6_faceCell_12 ?_))
  rcases bar_c hV (lo := 1) (hi := 6) (by decide) (by decide) a1 a2 a3 a4 with ⟨x, n, m, i, rfl, rfl, rfl, rfl, hv, h1, h2, h3, hb⟩ | hb
  · obtain ⟨v1, v2, v3, v4⟩ := id hv
    have hx48 : x < 48 := Nat.lt_of_lt_of_le v1 hV.1
    have hm64 := p2_lt v2 v3
    have hfv := face_v hV hv h1 h3
    refine ⟨fun _ => ?_, fun g => absurd (by rw [hb]; exact nI0_eq) g⟩
    rw [hr, pk_pack x hx48 m hm64]
    refine ⟨cel_o hp, ex_p (c_faceOf hp hV hR hv h1 h3) (Tr_X6_faceCell_39 ⟨?_, rfl⟩)⟩
    rw [pk_cell (Nat.lt_of_lt_of_le hfv.1 hV.1) (p2_lt hfv.2.1 hfv.2.2.1)]
    unfold A_face
    rw [hb, if_pos nI0_eq, cl_n (by omega), cl_n (by omega), cl_n (by omega), cl_n (by omega)]
  · exact ⟨fun g => absurd g (lt0_ne hb), fun _ => ⟨by unfold A_face; rw [if_neg (lt0_ne hb)], rfl⟩⟩
theorem x_faceMask (hV : VS S) (hI : IC S T D μ) (a1 a2 a3 a4 : Int32) : CtrP l ω M_X6_faceMask [.ref 0, .int a1, .int a2, .int a3, .int a4] μ (A_fmask S a1 a2 a3 a4) := by
  obtain ⟨p, hp, hr, hR⟩ := IC_pl hI
  refine Ct_X6_faceMask (ex_p (c_checkPlace hV hI _ _ _ _ _ _) (Tr_X6_faceMask_12 ?_))
  rcases bar_c hV (lo := 1) (hi := 6) (by decide) (by decide) a1 a2 a3 a4 with ⟨x, n, m, i, rfl, rfl, rfl, rfl, hv, h1, h2, h3, hb⟩ | hb
  · obtain ⟨v1, v2, v3, v4⟩ := id hv
    have hx48 : x < 48 := Nat.lt_of_lt_of_le v1 hV.1
    have hm64 := p2_lt v2 v3
    have hfv := face_v hV hv h1 h3
    refine ⟨fun _ => ?_, fun g => absurd (by rw [hb]; exact nI0_eq) g⟩
    rw [hr, pk_pack x hx48 m hm64]
    refine ⟨cel_o hp, ex_p (c_faceOf hp hV hR hv h1 h3) (Tr_X6_faceMask_39 ⟨?_, rfl⟩)⟩
    rw [pk_mask (Nat.lt_of_lt_of_le hfv.1 hV.1) (p2_lt hfv.2.1 hfv.2.2.1)]
    unfold A_fmask
    rw [hb, if_pos nI0_eq, cl_n (by omega), cl_n (by omega), cl_n (by omega), cl_n (by omega)]
  · exact ⟨fun g => absurd g (lt0_ne hb), fun _ => ⟨by unfold A_fmask; rw [if_neg (lt0_ne hb)], rfl⟩⟩
theorem m_faceCell (hV : VS S) (hI : IM S T D μ) (a1 a2 a3 a4 : Int32) : Ctr l ω M_X7_faceCell [.ref 29, .int a1, .int a2, .int a3, .int a4] μ (fun v μ' => v = some (.int (A_face S a1 a2 a3 a4)) ∧ kM μ μ') := by
  refine Ct_X7_faceCell (ex_p (c_simplexBarred hV hI (by decide) (by decide) _ _ _ _) (Tr_X7_faceCell_12 ?_))
  rcases bar_c hV (lo := 1) (hi := 6) (by decide) (by decide) a1 a2 a3 a4 with ⟨x, n, m, i, rfl, rfl, rfl, rfl, hv, h1, h2, h3, hb⟩ | hb
  · obtain ⟨v1, v2, v3, v4⟩ := id hv
    have hx48 : x < 48 := Nat.lt_of_lt_of_le v1 hV.1
    have hm64 := p2_lt v2 v3
    refine ⟨fun _ => ex_q (c_takeFace (by decide) hV hI.1 hv h1 h3) (fun v μ1 hq => ?_), fun g => absurd (by rw [hb]; decide) g⟩
    obtain ⟨rfl, rfl⟩ := hq
    refine Tr_X7_faceCell_32 ⟨?_, kM_got⟩
    rw [ri_wi, if_neg (by decide), ri_wi, if_pos (by decide)]
    unfold A_face
    rw [hb, if_pos nI0_eq, cl_n (by omega), cl_n (by omega), cl_n (by omega), cl_n (by omega)]
  · exact ⟨fun g => absurd g (lt0_nle hb), fun _ => ⟨by unfold A_face; rw [if_neg (lt0_ne hb)], kM_rf⟩⟩
theorem m_faceMask (hV : VS S) (hI : IM S T D μ) (a1 a2 a3 a4 : Int32) : Ctr l ω M_X7_faceMask [.ref 29, .int a1, .int a2, .int a3, .int a4] μ (fun v μ' => v = some (.int (A_fmask S a1 a2 a3 a4)) ∧ kM μ μ') := by
  refine Ct_X7_faceMask (ex_p (c_simplexBarred hV hI (by decide) (by decide) _ _ _ _) (Tr_X7_faceMask_12 ?_))
  rcases bar_c hV (lo := 1) (hi := 6) (by decide) (by decide) a1 a2 a3 a4 with ⟨x, n, m, i, rfl, rfl, rfl, rfl, hv, h1, h2, h3, hb⟩ | hb
  · obtain ⟨v1, v2, v3, v4⟩ := id hv
    have hx48 : x < 48 := Nat.lt_of_lt_of_le v1 hV.1
    have hm64 := p2_lt v2 v3
    refine ⟨fun _ => ex_q (c_takeFace (by decide) hV hI.1 hv h1 h3) (fun v μ1 hq => ?_), fun g => absurd (by rw [hb]; decide) g⟩
    obtain ⟨rfl, rfl⟩ := hq
    refine Tr_X7_faceMask_32 ⟨?_, kM_got⟩
    rw [ri_wi, if_pos (by decide)]
    unfold A_fmask
    rw [hb, if_pos nI0_eq, cl_n (by omega), cl_n (by omega), cl_n (by omega), cl_n (by omega)]
  · exact ⟨fun g => absurd g (lt0_nle hb), fun _ => ⟨by unfold A_fmask; rw [if_neg (lt0_ne hb)], kM_rf⟩⟩
theorem x_degeneracyMask (hV : VS S) (hI : IC S T D μ) (a1 a2 a3 a4 : Int32) : CtrP l ω M_X6_degeneracyMask [.ref 0, .int a1, .int a2, .int a3, .int a4] μ (A_deg S a1 a2 a3 a4) := by
  refine Ct_X6_degeneracyMask (ex_p (c_checkPlace hV hI _ _ _ _ _ _) (Tr_X6_degeneracyMask_11 ⟨fun g => ⟨?_, rfl⟩, fun g => ⟨?_, rfl⟩⟩))
  · unfold A_deg; rw [if_pos g]
  · unfold A_deg; rw [if_neg g]
theorem m_degeneracyMask (hV : VS S) (hI : IM S T D μ) (a1 a2 a3 a4 : Int32) : CtrP l ω M_X7_degeneracyMask [.ref 29, .int a1, .int a2, .int a3, .int a4] μ (A_deg S a1 a2 a3 a4) := by
  refine Ct_X7_degeneracyMask (ex_p (c_simplexBarred hV hI (by decide) (by decide) _ _ _ _) (Tr_X7_degeneracyMask_11 ⟨fun g => ⟨?_, rfl⟩, fun g => ⟨?_, rfl⟩⟩))
  · unfold A_deg
    rcases bar_c hV (lo := 0) (hi := 5) (by decide) (by decide) a1 a2 a3 a4 with ⟨x, n, m, i, -, -, -, -, -, -, -, -, hb⟩ | hb
    · rw [hb, if_pos nI0_eq]; rfl
    · exact absurd g (lt0_nle hb)
  · unfold A_deg
    rw [if_neg]
    intro q
    rw [q] at g
    exact g (by decide)
theorem c_pointAt (hV : VS S) (hI : IC S T D μ) {x n m j : Nat} (hv : vsx S x n m) (hj : j ≤ n) : ∃ z, z < 64 ∧ vtR S j (n + 1) x n m < 48 ∧ CtrP l ω M_X6_pointAt [.ref 0, .int (nI (64 * x + m)), .int (nI n), .int (nI j)] μ (nI (64 * vtR S j (n + 1) x n m + z)) := by
  obtain ⟨p, hp, hr, hR⟩ := IC_pl hI
  have hn7 := hv.2.1
  have key : ∀ k x s m, vsx S x s m → (k ≤ j → s = k) → (j < k → s + 1 = k) → ∃ z, z < 64 ∧ vtR S j k x s m < 48 ∧ Good l ω M_X6_pointAt 9 [.ref 0, .null, .null, .int (nI j), .int (nI (64 * x + m)), .int (nI s), .int (nI k + (-1))] [] μ (fun v μ' => v = some (.int (nI (64 * vtR S j k x s m + z))) ∧ μ' = μ) := by
    intro k
    induction k with
    | zero =>
      intro x s m hv hk _
      exact ⟨m, p2_lt hv.2.1 hv.2.2.1, Nat.lt_of_lt_of_le hv.1 hV.1, Tr_X6_pointAt_9 ⟨fun _ => ⟨rfl, rfl⟩, fun g => absurd (by decide) g⟩⟩
    | succ i ih =>
      intro x s m hv hk1 hk2
      have h7 := hv.2.1
      have hi7 : i ≤ s ∧ i < 7 := by omega
      rw [pk_m1]
      by_cases hij : i = j
      · obtain ⟨z, z1, z2, z3⟩ := ih x s m hv (by omega) (by omega)
        rw [show vtR S j (i + 1) x s m = vtR S j i x s m by rw [vtR, if_pos hij]]
        refine ⟨z, z1, z2, Tr_X6_pointAt_9 ⟨fun g => absurd g (nI_pos (by omega)), fun _ => ⟨fun _ => z3, fun g => absurd (by rw [hij]) g⟩⟩⟩
      · have hs1 : 1 ≤ s := by omega
        have hfv := face_v hV hv hs1 hi7.1
        obtain ⟨z, z1, z2, z3⟩ := ih _ (s - 1) _ hfv (by omega) (by omega)
        rw [show vtR S j (i + 1) x s m = vtR S j i (fcx S x s m i) (s - 1) (fmx S x s m i) by rw [vtR, if_neg hij]]
        refine ⟨z, z1, z2, Tr_X6_pointAt_9 ⟨fun g => absurd g (nI_pos (by omega)), fun _ => ⟨fun g => absurd ((nI_eq (by omega) (by omega)).mp g) hij, fun _ => ?_⟩⟩⟩
        rw [hr]
        refine ⟨cel_o hp, ex_p (c_faceOf hp hV hR hv hs1 hi7.1) (Tr_X6_pointAt_33 ?_)⟩
        rw [show nI s + (-1) = nI (s - 1) by rw [← pk_m1 (s - 1)]; congr 2; omega]
        exact z3
  obtain ⟨z, z1, z2, z3⟩ := key (n + 1) x n m hv (by omega) (by omega)
  rw [pk_m1] at z3
  exact ⟨z, z1, z2, Ct_X6_pointAt z3⟩
theorem x_vertex (hV : VS S) (hI : IC S T D μ) (a1 a2 a3 a4 : Int32) : CtrP l ω M_X6_vertex [.ref 0, .int a1, .int a2, .int a3, .int a4] μ (A_vtx S a1 a2 a3 a4) := by
  refine Ct_X6_vertex (ex_p (c_checkPlace hV hI _ _ _ _ _ _) (Tr_X6_vertex_12 ?_))
  rcases bar_c hV (lo := 0) (hi := 6) (by decide) (by decide) a1 a2 a3 a4 with ⟨x, n, m, i, rfl, rfl, rfl, rfl, hv, h1, h2, h3, hb⟩ | hb
  · obtain ⟨v1, v2, v3, v4⟩ := id hv
    have hx48 : x < 48 := Nat.lt_of_lt_of_le v1 hV.1
    have hm64 := p2_lt v2 v3
    refine ⟨fun _ => ?_, fun g => absurd (by rw [hb]; exact nI0_eq) g⟩
    rw [pk_pack x hx48 m hm64]
    obtain ⟨z, z1, z2, z3⟩ := c_pointAt (l := l) (ω := ω) hV hI hv h3
    refine ex_p z3 (Tr_X6_vertex_36 ⟨?_, rfl⟩)
    rw [pk_cell z2 z1]
    unfold A_vtx
    rw [hb, if_pos nI0_eq, cl_n (by omega), cl_n (by omega), cl_n (by omega), cl_n (by omega)]
  · exact ⟨fun g => absurd g (lt0_ne hb), fun _ => ⟨by unfold A_vtx; rw [if_neg (lt0_ne hb)], rfl⟩⟩
theorem m_vertex (hV : VS S) (hI : IM S T D μ) (a1 a2 a3 a4 : Int32) : Ctr l ω M_X7_vertex [.ref 29, .int a1, .int a2, .int a3, .int a4] μ (fun v μ' => v = some (.int (A_vtx S a1 a2 a3 a4)) ∧ kM μ μ') := by
  refine Ct_X7_vertex (ex_p (c_simplexBarred hV hI (by decide) (by decide) _ _ _ _) (Tr_X7_vertex_12 ?_))
  rcases bar_c hV (lo := 0) (hi := 6) (by decide) (by decide) a1 a2 a3 a4 with ⟨x, n, m, j, rfl, rfl, rfl, rfl, hv, h1, h2, h3, hb⟩ | hb
  · obtain ⟨v1, v2, v3, v4⟩ := id hv
    have hx48 : x < 48 := Nat.lt_of_lt_of_le v1 hV.1
    have hm64 := p2_lt v2 v3
    refine ⟨fun _ => ?_, fun g => absurd (by rw [hb]; decide) g⟩
    have key : ∀ k x s m μ1, kM μ μ1 → ss_i μ1 29 9 = nI x → ss_i μ1 29 10 = nI m → vsx S x s m → (k ≤ j → s = k) → (j < k → s + 1 = k) → Good l ω M_X7_vertex 38 [.ref 29, .null, .null, .null, .int (nI j), .null, .int (nI s), .int (nI k + (-1))] [] μ1 (fun v μ' => v = some (.int (nI (vtR S j k x s m))) ∧ kM μ μ') := by
      intro k
      induction k with
      | zero =>
        intro x s m μ1 hk e1 e2 hv _ _
        exact Tr_X7_vertex_38 ⟨fun _ => ⟨by rw [e1]; rfl, hk⟩, fun g => absurd (by decide) g⟩
      | succ i ih =>
        intro x s m μ1 hk e1 e2 hv hk1 hk2
        have h7 := hv.2.1
        have hi7 : i ≤ s ∧ i < 7 := by omega
        rw [pk_m1]
        by_cases hij : i = j
        · rw [show vtR S j (i + 1) x s m = vtR S j i x s m by rw [vtR, if_pos hij]]
          exact Tr_X7_vertex_38 ⟨fun g => absurd g (nI_pos (by omega)), fun _ => ⟨fun _ => ih x s m μ1 hk e1 e2 hv (by omega) (by omega), fun g => absurd (by rw [hij]) g⟩⟩
        · have hs1 : 1 ≤ s := by omega
          have hfv := face_v hV hv hs1 hi7.1
          rw [show vtR S j (i + 1) x s m = vtR S j i (fcx S x s m i) (s - 1) (fmx S x s m i) by rw [vtR, if_neg hij]]
          refine Tr_X7_vertex_38 ⟨fun g => absurd g (nI_pos (by omega)), fun _ => ⟨fun g => absurd ((nI_eq (by omega) (by omega)).mp g) hij, fun _ => ?_⟩⟩
          rw [e1, e2]
          refine ex_q (c_takeFace (by decide) hV (IM_k hI hk).1 hv hs1 hi7.1) (fun v μ2 hq => ?_)
          obtain ⟨rfl, rfl⟩ := hq
          refine Tr_X7_vertex_67 ?_
          rw [show nI s + (-1) = nI (s - 1) by rw [← pk_m1 (s - 1)]; congr 2; omega]
          refine ih _ (s - 1) _ _ (kM_tr hk kM_got) ?_ ?_ hfv (by omega) (by omega)
          · rw [ri_wi, if_neg (by decide), ri_wi, if_pos (by decide)]
          · rw [ri_wi, if_pos (by decide)]
    have := key (n + 1) x n m (ss_wi (ss_wi μ 29 9 (nI x)) 29 10 (nI m)) kM_got (by rw [ri_wi, if_neg (by decide), ri_wi, if_pos (by decide)]) (by rw [ri_wi, if_pos (by decide)]) hv (by omega) (by omega)
    rw [pk_m1] at this
    unfold A_vtx
    rw [hb, if_pos nI0_eq, cl_n (by omega), cl_n (by omega), cl_n (by omega), cl_n (by omega)]
    exact this
  · exact ⟨fun g => absurd g (lt0_nle hb), fun _ => ⟨by unfold A_vtx; rw [if_neg (lt0_ne hb)], kM_rf⟩⟩
end FQ

section PW
variable {l : Launch} {ω : Wd} {μ : Mm} {S T : SS} {D : DD}
theorem d_p2 : ∀ a, a < 5 → ∀ b, b < 5 → 2 ^ a - 1 = 2 ^ b - 1 → a = b := by decide +kernel
theorem okP_lt {p : PP} (h : okP S T p) (h5 : p.1 < 5) (hS : VS S) (hT : VS T) : p.2.1 < 48 ∧ p.2.2.1 < 16 ∧ p.2.2.2.1 < 48 ∧ p.2.2.2.2 < 16 := by
  obtain ⟨q1, q2, -, q4, q5, -, -⟩ := h
  have h16 : 2 ^ p.1 ≤ 16 := two_le (b := 4) (by omega)
  exact ⟨Nat.lt_of_lt_of_le q1 hS.1, by omega, Nat.lt_of_lt_of_le q4 hT.1, by omega⟩
theorem okP_eq {p q : PP} (hp : okP S T p) (hq : okP S T q) (p5 : p.1 < 5) (q5 : q.1 < 5) (h1 : p.2.1 = q.2.1) (h2 : p.2.2.1 = q.2.2.1) (h3 : p.2.2.2.1 = q.2.2.2.1) (h4 : p.2.2.2.2 = q.2.2.2.2) : p = q := by
  have e : p.1 = q.1 := d_p2 _ p5 _ q5 (by rw [← hp.2.2.2.2.2.2, ← hq.2.2.2.2.2.2, h2, h4])
  obtain ⟨a, b, c, d, f⟩ := p
  obtain ⟨a', b', c', d', f'⟩ := q
  simp only at e h1 h2 h3 h4
  rw [e, h1, h2, h3, h4]
theorem c_find {L : List PP} {q : PP} (hS : VS S) (hT : VS T) (hP : PC L μ) (h48 : L.length ≤ 48) (hL : ∀ p, p ∈ L → p.1 < 5 ∧ okP S T p) (hq : okP S T q) (q5 : q.1 < 5) : CtrP l ω M_X4_find [.ref 12, .int (nI (64 * q.2.1 + q.2.2.1)), .int (nI (64 * q.2.2.2.1 + q.2.2.2.2))] μ (nI (lst L q L.length)) := by
  obtain ⟨a1, a2, a3, a4⟩ := okP_lt hq q5 hS hT
  refine Ct_X4_find ?_
  refine upto0 (G := fun i => Good l ω M_X4_find 5 [.ref 12, .int (nI (64 * q.2.1 + q.2.2.1)), .int (nI (64 * q.2.2.2.1 + q.2.2.2.2)), .int (nI (lst L q i)), .int (nI i)] [] μ (fun v μ' => v = some (.int (nI (lst L q L.length))) ∧ μ' = μ)) L.length ?_ ?_ 0 (by omega)
  · refine Tr_X4_find_5 ?_
    rw [hP.1]
    exact ⟨fun _ => ⟨rfl, rfl⟩, fun g => absurd (nI_le (Nat.le_refl _) (by omega)) g⟩
  · intro i hi ih
    obtain ⟨m1, m2⟩ := hL _ (el_mem hi)
    obtain ⟨b1, b2, b3, b4⟩ := okP_lt m2 m1 hS hT
    obtain ⟨-, p2, p3⟩ := hP.2 i hi
    rw [lst] at ih
    refine Tr_X4_find_5 ?_
    rw [hP.1, cl_n (by omega), p2, p3, nI_eq (by omega) (by omega), nI_eq (by omega) (by omega), nI_add]
    refine ⟨fun g => absurd g (nI_ge hi (by omega)), fun _ => ⟨inb_n (n := 48) rfl (by omega) (by decide), fun g => ?_, fun g => ⟨inb_n (n := 48) rfl (by omega) (by decide), fun g2 => ?_, fun g2 => ?_⟩⟩⟩
    · rw [if_neg (fun r => g (by rw [r]))] at ih; exact ih
    · rw [if_neg (fun r => g2 (by rw [r]))] at ih; exact ih
    · have e : el L i = q := okP_eq m2 hq m1 q5 (by omega) (by omega) (by omega) (by omega)
      rw [if_pos e] at ih; exact ih
theorem c_faceOfPair {L : List PP} {p : PP} {i : Nat} (hS : VS S) (hT : VS T) (hP : PC L μ) (h48 : L.length ≤ 48) (hL : ∀ p, p ∈ L ↔ p.1 < 5 ∧ okP S T p) (hp : p ∈ L) (h1 : 1 ≤ p.1) (hi : i ≤ p.1) : CtrP l ω M_X4_faceOfPair [.ref 12, .int (nI (64 * fX S p i + fA S p i)), .int (nI (64 * fY T p i + fB T p i))] μ (nI (64 * lst L (fQ S T p i) L.length + fK S T p i)) := by
  obtain ⟨m1, m2⟩ := (hL p).mp hp
  obtain ⟨f1, f2, f3, f4, f5, f6, f7, f8⟩ := f_ok hS hT m2 h1 (by omega) hi
  have hx : fX S p i < 48 := Nat.lt_of_lt_of_le f3.1 hS.1
  have hy : fY T p i < 48 := Nat.lt_of_lt_of_le f4.1 hT.1
  have q5 : (fQ S T p i).1 < 5 := by show popN (fK S T p i) < 5; omega
  have hin := lst_lt ((hL _).mpr ⟨q5, f1⟩)
  obtain ⟨a1, a2, a3, a4⟩ := okP_lt f1 q5 hS hT
  have a2' : gatN (fA S p i) (fK S T p i) < 16 := a2
  have a4' : gatN (fB T p i) (fK S T p i) < 16 := a4
  have eK : nI (fA S p i) ||| nI (fB T p i) = nI (fK S T p i) := d_orN _ (by omega) _ (by omega)
  refine Ct_X4_faceOfPair ?_
  rw [pk_cell hx (by omega), pk_cell hy (by omega), pk_mask hx (by omega), pk_mask hy (by omega), eK, d_ga _ (by omega) _ (by omega), d_ga _ (by omega) _ (by omega), pk_pack _ hx _ (by omega), pk_pack _ hy _ (by omega)]
  refine ex_p (c_find hS hT hP h48 (fun p h => (hL p).mp h) f1 q5) (Tr_X4_faceOfPair_52 ?_)
  rw [pk_pack _ (by omega) _ (by omega)]
  exact ⟨rfl, rfl⟩
theorem c_writeTo {p t : Nat} {L : List PP} (hp : p = 1 ∨ p = 4) (ht : t = 5 - p) (hS : VS S) (hT : VS T) (hRp : RC p S μ) (hR : RC 7 T μ) (hP : PC L μ) (h48 : L.length ≤ 48) (hL : ∀ p, p ∈ L ↔ p.1 < 5 ∧ okP S T p) : Ctr l ω M_X4_writeTo [.ref 12, .ref t, .ref p, .ref 7] μ (fun v μ' => v = none ∧ RC t (psS S T L) μ' ∧ (∀ q k, q ≠ t → q ≠ t + 1 → q ≠ t + 2 → q ≠ 16 → ss_i μ' q k = ss_i μ q k) ∧ μ'.2.2 = μ.2.2) := by
  have hct : cel t := by unfold cel; omega
  have hcp : cel p := by unfold cel; omega
  have hd4 : ∀ c, c < L.length → (el L c).1 ≤ 4 := fun c hc => by have := ((hL _).mp (el_mem hc)).1; omega
  refine Ct_X4_writeTo ⟨cel_o hct, ?_⟩
  refine upto1 (G := fun c μ1 => Good l ω M_X4_writeTo 8 [.ref 12, .ref t, .ref p, .ref 7, .int (nI c), .null, .null, .null, .null] [] μ1 _) (I := fun c μ1 => RC t (cutS (psS S T L) c) μ1 ∧ (∀ q k, q ≠ t → q ≠ t + 1 → q ≠ t + 2 → q ≠ 16 → ss_i μ1 q k = ss_i μ q k) ∧ μ1.2.2 = μ.2.2) L.length ?_ ?_ 0 (by omega) _ ⟨⟨by rw [ri_wi, if_pos ⟨rfl, rfl⟩]; rfl, fun c hc => absurd hc (by show ¬ c < 0; omega)⟩, fun q k a b c d => by rw [ri_wi, if_neg (by omega)], rfl⟩
  · intro μ1 ⟨k1, k2, k3⟩
    refine Tr_X4_writeTo_8 ?_
    rw [k2 12 4 (by omega) (by omega) (by omega) (by omega), hP.1]
    exact ⟨fun _ => ⟨rfl, k1, k2, k3⟩, fun g => absurd (nI_le (Nat.le_refl _) (by omega)) g⟩
  · intro c μ1 hc ⟨k1, k2, k3⟩ ih
    have h4 := hd4 c hc
    have hmem := el_mem hc
    obtain ⟨m1, m2⟩ := (hL _).mp hmem
    obtain ⟨e1, e2, e3⟩ := hP.2 c hc
    refine Tr_X4_writeTo_8 ?_
    rw [k2 12 4 (by omega) (by omega) (by omega) (by omega), hP.1, cl_n (by omega), k2 13 c (by omega) (by omega) (by omega) (by omega), e1]
    refine ⟨fun g => absurd g (nI_ge hc (by omega)), fun _ => ⟨inb_n (n := 48) rfl (by omega) (by decide), ?_⟩⟩
    have fin : ∀ μ2, RC t (cutS (psS S T L) c) μ2 → (∀ q k, q ≠ t → q ≠ t + 1 → q ≠ t + 2 → q ≠ 16 → ss_i μ2 q k = ss_i μ q k) → μ2.2.2 = μ.2.2 → (1 ≤ (el L c).1 → ∀ k, k ≤ (el L c).1 → ss_i μ2 16 k = nI (64 * sf (psS S T L) c k + sm (psS S T L) c k)) → oCl t 0 = true ∧ ∃ Q1, Ctr l ω M_X0_append [.ref t, .int (nI (el L c).1), .ref 16] μ2 Q1 ∧ ∀ v μ1, Q1 v μ1 → Good l ω M_X4_writeTo 106 [.ref 12, .ref t, .ref p, .ref 7, .int (nI c), .null, .null, .null, .null] (v.toList ++ []) μ1 (fun v μ' => v = none ∧ RC t (psS S T L) μ' ∧ (∀ q k, q ≠ t → q ≠ t + 1 → q ≠ t + 2 → q ≠ 16 → ss_i μ' q k = ss_i μ q k) ∧ μ'.2.2 = μ.2.2) := by
      intro μ2 n1 n2 n3 n4
      refine ⟨cel_o hct, ex_q (c_append hct n1.1 (show c < 48 by omega) rfl) (fun v μ3 hq => ?_)⟩
      obtain ⟨rfl, rfl⟩ := hq
      refine Tr_X4_writeTo_106 ?_
      rw [nI_add]
      refine ih _ ⟨?_, fun q k a b d e => ?_, n3⟩
      · rw [← cut_app]
        exact ap_R (S := cutS (psS S T L) c) n1 (by omega) h4 n4 (fun i hi => hd4 i (Nat.lt_trans hi hc))
      · rw [ap_i, if_neg (by omega), if_neg (by omega), if_neg (by omega)]; exact n2 q k a b d e
    by_cases h0 : (el L c).1 = 0
    · refine Tr_X4_writeTo_29 ?_
      rw [h0] at fin ⊢
      exact ⟨fun _ => fin μ1 k1 k2 k3 (fun h => by omega), fun g => absurd (by decide) g⟩
    · have hpos : ¬ nI (el L c).1 ≤ 0 := fun g => by
        have := Int32.lt_of_lt_of_le (nI_lt (show 0 < (el L c).1 by omega) (by omega)) g
        exact absurd this (by decide)
      refine upto1 (G := fun i μ2 => Good l ω M_X4_writeTo 29 [.ref 12, .ref t, .ref p, .ref 7, .int (nI c), .int (nI (el L c).1), .int (nI i), .null, .null] [] μ2 _) (I := fun i μ2 => RC t (cutS (psS S T L) c) μ2 ∧ (∀ q k, q ≠ t → q ≠ t + 1 → q ≠ t + 2 → q ≠ 16 → ss_i μ2 q k = ss_i μ q k) ∧ μ2.2.2 = μ.2.2 ∧ ∀ k, k < i → ss_i μ2 16 k = nI (64 * sf (psS S T L) c k + sm (psS S T L) c k)) ((el L c).1 + 1) ?_ ?_ 0 (by omega) μ1 ⟨k1, k2, k3, fun k hk => by omega⟩
      · intro μ2 ⟨n1, n2, n3, n4⟩
        refine Tr_X4_writeTo_29 ⟨fun g => absurd g hpos, fun _ => ⟨fun _ => fin μ2 n1 n2 n3 (fun _ k hk => n4 k (by omega)), fun g => absurd (nI_lt (by omega) (by omega)) g⟩⟩
      · intro i μ2 hi ⟨n1, n2, n3, n4⟩ ih2
        refine Tr_X4_writeTo_29 ⟨fun g => absurd g hpos, fun _ => ⟨fun g => absurd g (nI_nlt (by omega) (by omega)), fun _ => ⟨inb_n (n := 48) rfl (by omega) (by decide), cel_o hcp, ?_⟩⟩⟩
        rw [cl_n (by omega), n2 14 c (by omega) (by omega) (by omega) (by omega), e2]
        have hRp2 : RC p S μ2 := RC_same hRp (fun q k hq => n2 q k (by omega) (by omega) (by omega) (by omega))
        have hR2 : RC 7 T μ2 := RC_same hR (fun q k hq => n2 q k (by omega) (by omega) (by omega) (by omega))
        have hP2 : PC L μ2 := PC_same hP (fun q k a b => n2 q k (by omega) (by omega) (by omega) (by omega))
        refine ex_p (c_faceOf hcp hS hRp2 ⟨m2.1, by omega, m2.2.1, m2.2.2.1⟩ (by omega) (by omega)) ?_
        refine Tr_X4_writeTo_56 ?_
        rw [cl_n (by omega), n2 15 c (by omega) (by omega) (by omega) (by omega), e3]
        refine ⟨inb_n (n := 48) rfl (by omega) (by decide), rfl, ex_p (c_faceOf (Or.inr (Or.inr rfl)) hT hR2 ⟨m2.2.2.2.1, by omega, m2.2.2.2.2.1, m2.2.2.2.2.2.1⟩ (by omega) (by omega)) ?_⟩
        refine Tr_X4_writeTo_73 (ex_p (c_faceOfPair hS hT hP2 h48 hL hmem (by omega) (by omega)) ?_)
        refine Tr_X4_writeTo_89 ⟨inb_n (n := 5) rfl (by omega) (by decide), ?_⟩
        rw [nI_add, cl_n (by omega)]
        refine ih2 _ ⟨RC_same n1 (fun q k hq => by rw [ri_wi, if_neg (by omega)]), fun q k a b d e => by rw [ri_wi, if_neg (by omega)]; exact n2 q k a b d e, n3, fun k hk => ?_⟩
        rw [ri_wi]
        by_cases hki : k = i
        · rw [if_pos ⟨rfl, hki⟩, hki]; rfl
        · rw [if_neg (by omega)]; exact n4 k (by omega)
def gdT (S T : SS) : Nat := gdN S (sn S) + gdN T (sn T)
def A_prd (S T : SS) : Int32 := if gdT S T ≤ 4 then if (prL S T 5).length ≤ 48 then nI (prL S T 5).length else -105 else -102
def N_prdS (S T : SS) : SS := if gdT S T ≤ 4 ∧ (prL S T 5).length ≤ 48 then psS S T (prL S T 5) else S
def N_prdD (S T : SS) (D : DD) : DD := if gdT S T ≤ 4 ∧ (prL S T 5).length ≤ 48 then eD else D
theorem prd_V (hS : VS S) (hT : VS T) : VS (N_prdS S T) := by
  unfold N_prdS
  split
  · rename_i h; exact ps_V hS hT rfl h.2
  · exact hS
theorem prd_D (hD : DV S D) : DV (N_prdS S T) (N_prdD S T D) := by
  unfold N_prdS N_prdD
  split
  · exact eD_V
  · exact hD
theorem x_product (hS : VS S) (hT : VS T) (hI : IC S T D μ) : Ctr l ω M_X6_product [.ref 0] μ (fun v μ' => v = some (.int (A_prd S T)) ∧ IC (N_prdS S T) T (N_prdD S T D) μ' ∧ fM μ μ') := by
  obtain ⟨p, hp4, hr, hr1, hR, hR7, hDC⟩ := id hI
  have hp : cel p := by unfold cel; omega
  have g1 := gd_4 hS (sn S) (Nat.le_refl _)
  have g2 := gd_4 hT (sn T) (Nat.le_refl _)
  refine Ct_X6_product ?_
  rw [show ss_r μ 0 0 = p from hr]
  refine ⟨cel_o hp, ex_p (c_greatest hp hS hR) (Tr_X6_product_7 (ex_p (c_greatest (Or.inr (Or.inr rfl)) hT hR7) (Tr_X6_product_14 ?_)))⟩
  rw [show ss_r μ 0 0 = p from hr, nI_add]
  refine ⟨fun g => ?_, fun g => ?_⟩
  · have hg : gdT S T ≤ 4 := by
      rcases Nat.lt_or_ge 4 (gdT S T) with q | q
      · exact absurd g (nI_ge q (by unfold gdT at *; omega))
      · exact q
    have hL5 : prL S T 5 = prL S T (gdN S (sn S) + gdN T (sn T) + 1) := prL_5 rfl hg
    refine ex_q (c_collect hp4 hS hT hR hR7 hg) (fun v μ1 hq => ?_)
    rw [← hL5] at hq
    obtain ⟨f1, ⟨rfl, f2, f3⟩ | ⟨rfl, f2⟩⟩ := hq
    · have hA : A_prd S T = nI (prL S T 5).length := by unfold A_prd; rw [if_pos hg, if_pos f2]
      have hS' : N_prdS S T = psS S T (prL S T 5) := by unfold N_prdS; rw [if_pos ⟨hg, f2⟩]
      have hD' : N_prdD S T D = eD := by unfold N_prdD; rw [if_pos ⟨hg, f2⟩]
      rw [hA, hS', hD']
      refine Tr_X6_product_40 ⟨fun _ => ?_, fun g => absurd nI1_ne g⟩
      rw [show ss_r μ1 0 0 = p by show μ1.2.2 0 = p; rw [f1.2]; exact hr, show ss_r μ1 0 1 = 5 - p by show μ1.2.2 1 = 5 - p; rw [f1.2]; exact hr1]
      refine ex_q (c_writeTo hp4 rfl hS hT (RC_same hR (fun q k hq => f1.1 q k (by omega))) (RC_same hR7 (fun q k hq => f1.1 q k (by omega))) f3 f2 (fun p => prL_mem)) (fun v μ2 hq => ?_)
      obtain ⟨rfl, w1, w2, w3⟩ := hq
      have r0 : ss_r μ2 0 0 = p := by show μ2.2.2 0 = p; rw [w3, f1.2]; exact hr
      have r1 : ss_r μ2 0 1 = 5 - p := by show μ2.2.2 1 = 5 - p; rw [w3, f1.2]; exact hr1
      refine Tr_X6_product_65 ?_
      rw [r0, r1]
      refine ex_q (Ct_X1_drop (Q := fun v μ' => v = none ∧ μ' = ss_wi (ss_wr (ss_wr μ2 0 (5 - p)) 1 p) 10 1 (nI 0)) ⟨rfl, rfl⟩) (fun v μ3 hq => ?_)
      obtain ⟨rfl, rfl⟩ := hq
      have s0 : ss_r (ss_wi (ss_wr (ss_wr μ2 0 (5 - p)) 1 p) 10 1 (nI 0)) 0 0 = 5 - p := rfl
      have hsame : ∀ q k, ¬ (q = 10 ∧ k = 1) → ss_i (ss_wi (ss_wr (ss_wr μ2 0 (5 - p)) 1 p) 10 1 (nI 0)) q k = ss_i μ2 q k := by
        intro q k h
        rw [ri_wi, if_neg h]; rfl
      have hct : cel (5 - p) := by unfold cel; omega
      have hRt : RC (5 - p) (psS S T (prL S T 5)) (ss_wi (ss_wr (ss_wr μ2 0 (5 - p)) 1 p) 10 1 (nI 0)) := RC_same w1 (fun q k hq => hsame q k (by omega))
      refine Tr_X6_product_90 ?_
      rw [s0]
      refine ⟨cel_o hct, by rw [hRt.1]; rfl, ⟨5 - p, by omega, rfl, ?_, hRt, RC_same hR7 (fun q k hq => by rw [hsame q k (by omega), w2 q k (by omega) (by omega) (by omega) (by omega), f1.1 q k (by omega)]), ⟨by rw [ri_wi, if_pos ⟨rfl, rfl⟩]; rfl, fun q => absurd q (by show ¬ 1 ≤ (0 : Nat); omega)⟩⟩, fun q k hq => by rw [hsame q k (by omega), w2 q k (by omega) (by omega) (by omega) (by omega), f1.1 q k (by omega)]⟩
      show p = 5 - (5 - p)
      omega
    · have hA : A_prd S T = -105 := by unfold A_prd; rw [if_pos hg, if_neg (by omega)]
      have hS' : N_prdS S T = S := by unfold N_prdS; rw [if_neg (by omega)]
      have hD' : N_prdD S T D = D := by unfold N_prdD; rw [if_neg (by omega)]
      rw [hA, hS', hD']
      refine Tr_X6_product_40 ⟨fun g => absurd nI0_eq g, fun _ => ⟨rfl, IC_k hI ⟨fun q k a b => f1.1 q k (by omega), f1.2, fun q k a => f1.1 q k (by omega)⟩, fun q k hq => f1.1 q k (by omega)⟩⟩
  · have hg : ¬ gdT S T ≤ 4 := fun q => g (nI_le q (by omega))
    have hA : A_prd S T = -102 := by unfold A_prd; rw [if_neg hg]
    have hS' : N_prdS S T = S := by unfold N_prdS; rw [if_neg (fun r => hg r.1)]
    have hD' : N_prdD S T D = D := by unfold N_prdD; rw [if_neg (fun r => hg r.1)]
    rw [hA, hS', hD']
    exact ⟨rfl, hI, fM_rf⟩
end PW

section PR
variable {l : Launch} {ω : Wd} {μ : Mm} {S T : SS} {D : DD}
theorem nI_max {a b : Nat} (ha : a < 2 ^ 30) (hb : b < 2 ^ 30) : (if nI a < nI b then nI b else nI a) = nI (max a b) := by
  by_cases h : a < b
  · rw [if_pos (nI_lt h (by omega)), Nat.max_eq_right (by omega)]
  · rw [if_neg (nI_nlt (by omega) (by omega)), Nat.max_eq_left (by omega)]
theorem c_greatest {t : Nat} (ht : cel t) (hV : VS S) (hR : RC t S μ) : CtrP l ω M_X0_greatestDimension [.ref t] μ (nI (gdN S (sn S))) := by
  have h48 := hV.1
  refine Ct_X0_greatestDimension ?_
  refine upto0 (G := fun i => Good l ω M_X0_greatestDimension 4 [.ref t, .int (nI (gdN S i)), .int (nI i)] [] μ (fun v μ' => v = some (.int (nI (gdN S (sn S)))) ∧ μ' = μ)) (sn S) ?_ ?_ 0 (by omega)
  · refine Tr_X0_greatestDimension_4 ?_
    rw [hR.1]
    exact ⟨cel_o ht, fun _ => ⟨rfl, rfl⟩, fun g => absurd (nI_le (Nat.le_refl _) (by omega)) g⟩
  · intro i hi ih
    have h1 := (hV.2 i hi).1
    have h2 := gd_4 hV i (by omega)
    refine Tr_X0_greatestDimension_4 ?_
    rw [hR.1, cel_r0 ht, cl_n (by omega), (hR.2 i hi).1, nI_max (by omega) (by omega)]
    refine ⟨cel_o ht, fun g => absurd g (nI_ge hi (by omega)), fun _ => ⟨cel_o ht, inb_n (cel_1 ht) (by omega) (by decide), Tr_X0_greatestDimension_22 ?_⟩⟩
    rw [nI_add]
    exact ih
def PC (L : List PP) (μ : Mm) : Prop := ss_i μ 12 4 = nI L.length ∧ ∀ i, i < L.length → ss_i μ 13 i = nI (el L i).1 ∧ ss_i μ 14 i = nI (64 * (el L i).2.1 + (el L i).2.2.1) ∧ ss_i μ 15 i = nI (64 * (el L i).2.2.2.1 + (el L i).2.2.2.2)
def fP (μ μ' : Mm) : Prop := (∀ q k, (q < 12 ∨ 15 < q) → ss_i μ' q k = ss_i μ q k) ∧ μ'.2.2 = μ.2.2
theorem fP_tr {μ μ1 μ2 : Mm} (h : fP μ μ1) (g : fP μ1 μ2) : fP μ μ2 := ⟨fun q k a => (g.1 q k a).trans (h.1 q k a), g.2.trans h.2⟩
theorem fP_rf {μ : Mm} : fP μ μ := ⟨fun _ _ _ => rfl, rfl⟩
theorem PC_same {L : List PP} {μ μ' : Mm} (h : PC L μ) (k : ∀ q k, 12 ≤ q → q ≤ 15 → ss_i μ' q k = ss_i μ q k) : PC L μ' := ⟨by rw [k 12 4 (by decide) (by decide)]; exact h.1, fun i hi => by rw [k 13 i (by decide) (by decide), k 14 i (by decide) (by decide), k 15 i (by decide) (by decide)]; exact h.2 i hi⟩
def pcM (μ : Mm) (c n x A y B : Nat) : Mm := ss_wi (ss_wi (ss_wi (ss_wi μ 13 c (nI n)) 14 c (nI (64 * x + A))) 15 c (nI (64 * y + B))) 12 4 (nI (c + 1))
theorem PC_ap {L : List PP} {n x A y B : Nat} (h : PC L μ) : PC (L ++ [(n, x, A, y, B)]) (pcM μ L.length n x A y B) ∧ fP μ (pcM μ L.length n x A y B) := by
  have hl : (L ++ [(n, x, A, y, B)]).length = L.length + 1 := by rw [List.length_append]; rfl
  refine ⟨⟨by rw [hl]; unfold pcM; rw [ri_wi, if_pos ⟨rfl, rfl⟩], fun i hi => ?_⟩, ⟨fun q k hq => ?_, rfl⟩⟩
  · rw [hl] at hi
    have e13 : ss_i (pcM μ L.length n x A y B) 13 i = if i = L.length then nI n else ss_i μ 13 i := by
      unfold pcM
      rw [ri_wi, if_neg (by omega), ri_wi, if_neg (by omega), ri_wi, if_neg (by omega), ri_wi]
      simp only [true_and]
    have e14 : ss_i (pcM μ L.length n x A y B) 14 i = if i = L.length then nI (64 * x + A) else ss_i μ 14 i := by
      unfold pcM
      rw [ri_wi, if_neg (by omega), ri_wi, if_neg (by omega), ri_wi]
      simp only [true_and]
      rw [ri_wi, if_neg (show ¬ (14 = 13 ∧ i = L.length) by omega)]
    have e15 : ss_i (pcM μ L.length n x A y B) 15 i = if i = L.length then nI (64 * y + B) else ss_i μ 15 i := by
      unfold pcM
      rw [ri_wi, if_neg (by omega), ri_wi]
      simp only [true_and]
      rw [ri_wi, if_neg (show ¬ (15 = 14 ∧ i = L.length) by omega), ri_wi, if_neg (show ¬ (15 = 13 ∧ i = L.length) by omega)]
    rw [e13, e14, e15]
    by_cases hil : i = L.length
    · subst hil
      rw [el_last, if_pos rfl, if_pos rfl, if_pos rfl]
      exact ⟨rfl, rfl, rfl⟩
    · rw [el_ap (by omega), if_neg hil, if_neg hil, if_neg hil]
      exact h.2 i (by omega)
  · unfold pcM
    rw [ri_wi, if_neg (by omega), ri_wi, if_neg (by omega), ri_wi, if_neg (by omega), ri_wi, if_neg (by omega)]
theorem ism_p {n m e : Nat} (hn : n < 7) (hm : m < 2 ^ n) (he : e < 2 ^ 30) : iIsM (nI n) (nI m) (nI e) = if popN m = e then nI 1 else nI 0 := by
  have h64 := p2_lt hn hm
  have := pop_lt64 m h64
  have h2n : 2 ^ n ≤ 64 := two_le (b := 6) (by omega)
  unfold iIsM
  rw [if_neg (nI_pos (by omega)), d_low n hn, if_neg (nI_nlt (by omega) (by omega)), d_bc m h64]
  by_cases h : popN m = e
  · rw [if_pos (by rw [h]), if_pos h]
  · rw [if_neg (fun q => h ((nI_eq (by omega) (by omega)).mp q)), if_neg h]
theorem d_orN : ∀ A, A < 16 → ∀ B, B < 16 → nI A ||| nI B = nI (A ||| B) := by decide +kernel
theorem or_low {n A B : Nat} (hn : n < 5) (hA : A < 2 ^ n) (hB : B < 2 ^ n) : nI A ||| nI B = iLow (nI n) ↔ A ||| B = 2 ^ n - 1 := by
  have h16 : 2 ^ n ≤ 16 := two_le (b := 4) (by omega)
  have h0 := Nat.or_lt_two_pow hA hB
  rw [d_orN A (by omega) B (by omega), d_low n (by omega), nI_eq (by omega) (by omega)]
def okC (tot : List PP) (μ : Mm) (v : Option Value) (μ' : Mm) : Prop := fP μ μ' ∧ ((v = some (.int (nI 1)) ∧ tot.length ≤ 48 ∧ PC tot μ') ∨ (v = some (.int (nI 0)) ∧ 48 < tot.length))
theorem c_partners {n x A : Nat} {L : List PP} (hT : VS T) (hR : RC 7 T μ) (hP : PC L μ) (hL : L.length ≤ 48) (hn : n < 5) (hx : x < 48) (hA : A < 2 ^ n) : Ctr l ω M_X4_collectPartners [.ref 12, .int (nI (64 * x + A)), .ref 7, .int (nI n)] μ (okC (L ++ prP T n x A) μ) := by
  have h48 := hT.1
  have h16 : 2 ^ n ≤ 16 := two_le (b := 4) (by omega)
  refine Ct_X4_collectPartners ?_
  refine upto1 (G := fun y μ1 => Good l ω M_X4_collectPartners 3 [.ref 12, .int (nI (64 * x + A)), .ref 7, .int (nI n), .int (nI y), .null, .null] [] μ1 (okC (L ++ prP T n x A) μ)) (I := fun y μ1 => fP μ μ1 ∧ (L ++ fm (prY T n x A) y).length ≤ 48 ∧ PC (L ++ fm (prY T n x A) y) μ1) (sn T) ?_ ?_ 0 (by omega) μ ⟨fP_rf, by show (L ++ []).length ≤ 48; rw [List.append_nil]; exact hL, by show PC (L ++ []) μ; rw [List.append_nil]; exact hP⟩
  · intro μ1 ⟨k1, k2, k3⟩
    refine Tr_X4_collectPartners_3 ?_
    rw [k1.1 7 2 (by omega), hR.1]
    exact ⟨rfl, fun _ => ⟨k1, Or.inl ⟨rfl, k2, k3⟩⟩, fun g => absurd (nI_le (Nat.le_refl _) (by omega)) g⟩
  · intro y μ1 hy ⟨k1, k2, k3⟩ ih
    refine Tr_X4_collectPartners_3 ?_
    rw [k1.1 7 2 (by omega), hR.1]
    refine ⟨rfl, fun g => absurd g (nI_ge hy (by omega)), fun _ => ?_⟩
    have hstep : L ++ fm (prY T n x A) (y + 1) = (L ++ fm (prY T n x A) y) ++ fm (prB T n x A y) (2 ^ n) := by rw [fm, List.append_assoc]; rfl
    have htot : (L ++ fm (prY T n x A) (y + 1)).length ≤ (L ++ prP T n x A).length := by
      rw [List.length_append, List.length_append]
      have := fm_len (f := prY T n x A) (i := y + 1) (e := sn T) (by omega)
      unfold prP; omega
    refine upto1 (G := fun B μ2 => Good l ω M_X4_collectPartners 15 [.ref 12, .int (nI (64 * x + A)), .ref 7, .int (nI n), .int (nI y), .int (nI B), .null] [] μ2 (okC (L ++ prP T n x A) μ)) (I := fun B μ2 => fP μ μ2 ∧ ((L ++ fm (prY T n x A) y) ++ fm (prB T n x A y) B).length ≤ 48 ∧ PC ((L ++ fm (prY T n x A) y) ++ fm (prB T n x A y) B) μ2) (2 ^ n) ?_ ?_ 0 (Nat.zero_le _) μ1 ⟨k1, by show (_ ++ []).length ≤ 48; rw [List.append_nil]; exact k2, by show PC (_ ++ []) μ1; rw [List.append_nil]; exact k3⟩
    · intro μ2 ⟨m1, m2, m3⟩
      refine Tr_X4_collectPartners_15 ?_
      rw [d_low n (by omega)]
      refine ⟨fun _ => ?_, fun g => absurd (nI_lt (by have := Nat.two_pow_pos n; omega) (by omega)) g⟩
      rw [nI_add]
      rw [← hstep] at m2 m3
      exact ih μ2 ⟨m1, m2, m3⟩
    · intro B μ2 hB ⟨m1, m2, m3⟩ ih2
      have hsd := (hT.2 y hy).1
      have hfB : (L ++ fm (prY T n x A) y) ++ fm (prB T n x A y) (B + 1) = ((L ++ fm (prY T n x A) y) ++ fm (prB T n x A y) B) ++ prB T n x A y B := by rw [fm, List.append_assoc _ _ (prB T n x A y B)]
      have skip : ¬ (A ||| B = 2 ^ n - 1 ∧ popN B = sd T y) → Good l ω M_X4_collectPartners 15 [.ref 12, .int (nI (64 * x + A)), .ref 7, .int (nI n), .int (nI y), .int (nI (B + 1)), .null] [] μ2 (okC (L ++ prP T n x A) μ) := by
        intro hno
        refine ih2 μ2 ?_
        rw [hfB]
        unfold prB
        rw [if_neg hno, List.append_nil]
        exact ⟨m1, m2, m3⟩
      refine Tr_X4_collectPartners_15 ?_
      rw [cel_r0 (Or.inr (Or.inr rfl)), pk_mask hx (by omega), cl_n (by omega), m1.1 8 y (by omega), (hR.2 y hy).1, or_low hn hA hB, ism_p (by omega) hB (by omega), nI_add, nI_add]
      refine ⟨fun g => absurd g (by rw [d_low n (by omega)]; exact nI_nlt (by omega) (by omega)), fun _ => ⟨fun g => skip (fun q => g q.1), fun g => ⟨rfl, inb_n (n := 48) rfl (by omega) (by decide), fun g2 => ?_, fun g2 => ?_⟩⟩⟩
      · exact skip (fun q => by rw [if_pos q.2] at g2; exact absurd g2 nI1_ne)
      · have hor := Decidable.not_not.mp g
        have hpo : popN B = sd T y := by
          by_cases q : popN B = sd T y
          · exact q
          · rw [if_neg q] at g2; exact absurd nI0_eq g2
        have hp1 : prB T n x A y B = [(n, x, A, y, B)] := by unfold prB; rw [if_pos ⟨hor, hpo⟩]
        generalize hLL : (L ++ fm (prY T n x A) y) ++ fm (prB T n x A y) B = LL at m2 m3 hfB
        rw [hp1] at hfB
        rw [m3.1, cl_n (by omega)]
        refine ⟨fun g3 => ?_, fun g3 => ⟨m1, Or.inr ⟨rfl, ?_⟩⟩⟩
        · have hlt : LL.length < 48 := (nI_ltI (by omega) (by decide)).mp g3
          have e1 : ss_i (ss_wi μ2 13 LL.length (nI n)) 12 4 = nI LL.length := by rw [ri_wi, if_neg (by omega)]; exact m3.1
          have e2 : ss_i (ss_wi (ss_wi μ2 13 LL.length (nI n)) 14 LL.length (nI (64 * x + A))) 12 4 = nI LL.length := by rw [ri_wi, if_neg (by omega)]; exact e1
          rw [e1, cl_n (by omega), e2, cl_n (by omega)]
          have e3 : ss_i (ss_wi (ss_wi (ss_wi μ2 13 LL.length (nI n)) 14 LL.length (nI (64 * x + A))) 15 LL.length (iPack (nI y) (nI B))) 12 4 = nI LL.length := by rw [ri_wi, if_neg (by omega)]; exact e2
          rw [e3, nI_add, pk_pack y (by omega) B (by omega)]
          refine ⟨inb_n (n := 48) rfl hlt (by decide), inb_n (n := 48) rfl hlt (by decide), inb_n (n := 48) rfl hlt (by decide), ?_⟩
          obtain ⟨a1, a2⟩ := PC_ap (n := n) (x := x) (A := A) (y := y) (B := B) m3
          refine ih2 _ ?_
          rw [hfB]
          exact ⟨fP_tr m1 a2, by rw [List.length_append]; show LL.length + 1 ≤ 48; omega, a1⟩
        · have hge : ¬ LL.length < 48 := fun q => g3 (nI_lt q (by decide))
          have h1 : (LL ++ [(n, x, A, y, B)]).length ≤ (L ++ fm (prY T n x A) (y + 1)).length := by
            rw [← hfB, hstep]
            simp only [List.length_append]
            have := fm_len (f := prB T n x A y) (i := B + 1) (e := 2 ^ n) (by omega)
            omega
          rw [List.length_append] at h1
          have h1' : LL.length + 1 ≤ (L ++ fm (prY T n x A) (y + 1)).length := h1
          omega
theorem c_collect {p g : Nat} (hp : p = 1 ∨ p = 4) (hS : VS S) (hT : VS T) (hRp : RC p S μ) (hR : RC 7 T μ) (hg : g ≤ 4) : Ctr l ω M_X4_collect [.ref 12, .ref p, .ref 7, .int (nI g)] μ (okC (prL S T (g + 1)) μ) := by
  have h48 := hS.1
  have hc : cel p := by unfold cel; omega
  refine Ct_X4_collect ?_
  refine upto1 (G := fun n μ1 => Good l ω M_X4_collect 8 [.ref 12, .ref p, .ref 7, .int (nI g), .int (nI n), .null, .null] [] μ1 (okC (prL S T (g + 1)) μ)) (I := fun n μ1 => fP μ μ1 ∧ (prL S T n).length ≤ 48 ∧ PC (prL S T n) μ1) (g + 1) ?_ ?_ 0 (by omega) _ ⟨⟨fun q k hq => by rw [ri_wi, if_neg (by omega)], rfl⟩, by show (0 : Nat) ≤ 48; omega, ⟨by rw [ri_wi, if_pos ⟨rfl, rfl⟩]; rfl, fun i hi => absurd hi (by show ¬ i < 0; omega)⟩⟩
  · intro μ1 ⟨k1, k2, k3⟩
    exact Tr_X4_collect_8 ⟨fun _ => ⟨k1, Or.inl ⟨rfl, k2, k3⟩⟩, fun g => absurd (nI_lt (by omega) (by omega)) g⟩
  · intro n μ1 hn ⟨k1, k2, k3⟩ ih
    refine Tr_X4_collect_8 ⟨fun g => absurd g (nI_nlt (by omega) (by omega)), fun _ => ?_⟩
    have hs1 : prL S T (n + 1) = prL S T n ++ fm (prX S T n) (sn S) := rfl
    have ht1 := fm_len (f := prN S T) (i := n + 1) (e := g + 1) (by omega)
    have h16 : 2 ^ n ≤ 16 := two_le (b := 4) (by omega)
    refine upto1 (G := fun x μ2 => Good l ω M_X4_collect 17 [.ref 12, .ref p, .ref 7, .int (nI g), .int (nI n), .int (nI x), .null] [] μ2 (okC (prL S T (g + 1)) μ)) (I := fun x μ2 => fP μ μ2 ∧ (prL S T n ++ fm (prX S T n) x).length ≤ 48 ∧ PC (prL S T n ++ fm (prX S T n) x) μ2) (sn S) ?_ ?_ 0 (by omega) μ1 ⟨k1, by show (_ ++ []).length ≤ 48; rw [List.append_nil]; exact k2, by show PC (_ ++ []) μ1; rw [List.append_nil]; exact k3⟩
    · intro μ2 ⟨m1, m2, m3⟩
      refine Tr_X4_collect_17 ?_
      rw [m1.1 p 2 (by omega), hRp.1, nI_add]
      exact ⟨cel_o hc, fun _ => ih μ2 ⟨m1, m2, m3⟩, fun g => absurd (nI_le (Nat.le_refl _) (by omega)) g⟩
    · intro x μ2 hx ⟨m1, m2, m3⟩ ih2
      have hsd := (hS.2 x hx).1
      refine Tr_X4_collect_17 ?_
      rw [m1.1 p 2 (by omega), hRp.1]
      refine ⟨cel_o hc, fun g => absurd g (nI_ge hx (by omega)), fun _ => ?_⟩
      have hs2 : prL S T n ++ fm (prX S T n) (x + 1) = (prL S T n ++ fm (prX S T n) x) ++ fm (prA S T n x) (2 ^ n) := by rw [fm, List.append_assoc]; rfl
      have ht2 : (prL S T n ++ fm (prX S T n) (x + 1)).length ≤ (prL S T (n + 1)).length := by
        rw [hs1]
        simp only [List.length_append]
        have := fm_len (f := prX S T n) (i := x + 1) (e := sn S) (by omega)
        omega
      refine upto1 (G := fun A μ3 => Good l ω M_X4_collect 29 [.ref 12, .ref p, .ref 7, .int (nI g), .int (nI n), .int (nI x), .int (nI A)] [] μ3 (okC (prL S T (g + 1)) μ)) (I := fun A μ3 => fP μ μ3 ∧ ((prL S T n ++ fm (prX S T n) x) ++ fm (prA S T n x) A).length ≤ 48 ∧ PC ((prL S T n ++ fm (prX S T n) x) ++ fm (prA S T n x) A) μ3) (2 ^ n) ?_ ?_ 0 (Nat.zero_le _) μ2 ⟨m1, by show (_ ++ []).length ≤ 48; rw [List.append_nil]; exact m2, by show PC (_ ++ []) μ2; rw [List.append_nil]; exact m3⟩
      · intro μ3 ⟨o1, o2, o3⟩
        refine Tr_X4_collect_29 ?_
        rw [d_low n (by omega)]
        refine ⟨fun _ => ?_, fun g => absurd (nI_lt (by have := Nat.two_pow_pos n; omega) (by omega)) g⟩
        rw [nI_add]
        rw [← hs2] at o2 o3
        exact ih2 μ3 ⟨o1, o2, o3⟩
      · intro A μ3 hA ⟨o1, o2, o3⟩ ih3
        have hs3 : (prL S T n ++ fm (prX S T n) x) ++ fm (prA S T n x) (A + 1) = ((prL S T n ++ fm (prX S T n) x) ++ fm (prA S T n x) A) ++ prA S T n x A := by rw [fm, List.append_assoc _ _ (prA S T n x A)]
        have ht3 : ((prL S T n ++ fm (prX S T n) x) ++ fm (prA S T n x) (A + 1)).length ≤ (prL S T n ++ fm (prX S T n) (x + 1)).length := by
          rw [hs2]
          simp only [List.length_append]
          have := fm_len (f := prA S T n x) (i := A + 1) (e := 2 ^ n) (by omega)
          omega
        refine Tr_X4_collect_29 ?_
        rw [cel_r0 hc, cl_n (by omega), o1.1 (p + 1) x (by omega), (hRp.2 x hx).1, ism_p (by omega) hA (by omega), nI_add]
        refine ⟨fun g => absurd g (by rw [d_low n (by omega)]; exact nI_nlt (by omega) (by omega)), fun _ => ⟨cel_o hc, inb_n (cel_1 hc) (by omega) (by decide), fun gg => ?_, fun gg => ?_⟩⟩
        · have hne : ¬ popN A = sd S x := fun q => by rw [if_pos q] at gg; exact absurd gg nI1_ne
          rw [nI_add]
          refine ih3 μ3 ?_
          rw [hs3]
          unfold prA
          rw [if_neg hne, List.append_nil]
          exact ⟨o1, o2, o3⟩
        · have heq : popN A = sd S x := by
            by_cases q : popN A = sd S x
            · exact q
            · rw [if_neg q] at gg; exact absurd nI0_eq gg
          have hpa : prA S T n x A = prP T n x A := by unfold prA; rw [if_pos heq]
          rw [hpa] at hs3
          rw [pk_pack x (by omega) A (by omega)]
          refine ex_q (c_partners hT (RC_same hR (fun q k hq => o1.1 q k (by omega))) o3 o2 (by omega) (by omega) hA) (fun v μ4 hq => ?_)
          obtain ⟨f1, ⟨rfl, f2, f3⟩ | ⟨rfl, f2⟩⟩ := hq
          · refine Tr_X4_collect_66 ⟨fun _ => ?_, fun g => absurd nI1_ne g⟩
            rw [nI_add]
            refine ih3 μ4 ?_
            rw [hs3]
            exact ⟨fP_tr o1 f1, f2, f3⟩
          · refine Tr_X4_collect_66 ⟨fun g => absurd nI0_eq g, fun _ => ⟨fP_tr o1 f1, Or.inr ⟨rfl, ?_⟩⟩⟩
            rw [← hs3] at f2
            have ht1' : (prL S T (n + 1)).length ≤ (prL S T (g + 1)).length := ht1
            omega
end PR

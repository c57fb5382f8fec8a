section P7
variable {l : Launch} {ω : Wd} {μ : Mm} {S T : SS} {D : DD}
def PM (L : List PP) (μ : Mm) : Prop := ss_i μ 29 26 = nI (min L.length 49) ∧ ∀ i, i < L.length → i < 48 → (ss_i μ 44 i = nI (el L i).1 ∧ ss_i μ 45 i = nI (el L i).2.1) ∧ ss_i μ 47 i = nI (el L i).2.2.1 ∧ ss_i μ 46 i = nI (el L i).2.2.2.1 ∧ ss_i μ 48 i = nI (el L i).2.2.2.2
/-- what the laying of pairs leaves -/
def fL (μ μ' : Mm) : Prop := (∀ q k, (q < 29 ∨ 30 ≤ q ∧ q ≤ 43) → ss_i μ' q k = ss_i μ q k) ∧ μ'.2.2 = μ.2.2 ∧ ∀ k, k < 9 → ss_i μ' 29 k = ss_i μ 29 k
theorem fL_rf {μ : Mm} : fL μ μ := ⟨fun _ _ _ => rfl, rfl, fun _ _ => rfl⟩
theorem fL_tr {μ μ1 μ2 : Mm} (h : fL μ μ1) (g : fL μ1 μ2) : fL μ μ2 := ⟨fun q k a => (g.1 q k a).trans (h.1 q k a), g.2.1.trans h.2.1, fun k a => (g.2.2 k a).trans (h.2.2 k a)⟩
theorem fL_k {μ μ' : Mm} (h : fL μ μ') : kM μ μ' := ⟨fun q k a => h.1 q k (by omega), h.2.1, fun k a => h.2.2 k (by omega), fun q k a b => h.1 q k (by omega)⟩
theorem PM_same {L : List PP} {μ μ' : Mm} (h : PM L μ) (h0 : ss_i μ' 29 26 = ss_i μ 29 26) (k : ∀ q k, 44 ≤ q → q ≤ 48 → ss_i μ' q k = ss_i μ q k) : PM L μ' := ⟨by rw [h0]; exact h.1, fun i hi h48 => by rw [k 44 i (by decide) (by decide), k 45 i (by decide) (by decide), k 46 i (by decide) (by decide), k 47 i (by decide) (by decide), k 48 i (by decide) (by decide)]; exact h.2 i hi h48⟩
theorem c_addPair {L : List PP} {n x A y B : Nat} (h : PM L μ) : Ctr l ω M_X7_addPair [.ref 29, .int (nI n), .int (nI x), .int (nI A), .int (nI y), .int (nI B)] μ (fun v μ' => v = none ∧ PM (L ++ [(n, x, A, y, B)]) μ' ∧ fL μ μ') := by
  have hl : (L ++ [(n, x, A, y, B)]).length = L.length + 1 := by rw [List.length_append]; rfl
  refine Ct_X7_addPair ?_
  rw [h.1]
  refine ⟨fun g => ?_, fun g => ?_⟩
  · have hge : 48 ≤ L.length := by
      rcases Nat.lt_or_ge L.length 48 with q | q
      · exact absurd g (nI_ge (by omega) (by omega))
      · exact q
    refine Tr_X7_addPair_61 ?_
    rw [h.1]
    have arr : ∀ (a : Int32) (i : Nat), i < (L ++ [(n, x, A, y, B)]).length → i < 48 → (ss_i (ss_wi μ 29 26 a) 44 i = nI (el (L ++ [(n, x, A, y, B)]) i).1 ∧ ss_i (ss_wi μ 29 26 a) 45 i = nI (el (L ++ [(n, x, A, y, B)]) i).2.1) ∧ ss_i (ss_wi μ 29 26 a) 47 i = nI (el (L ++ [(n, x, A, y, B)]) i).2.2.1 ∧ ss_i (ss_wi μ 29 26 a) 46 i = nI (el (L ++ [(n, x, A, y, B)]) i).2.2.2.1 ∧ ss_i (ss_wi μ 29 26 a) 48 i = nI (el (L ++ [(n, x, A, y, B)]) i).2.2.2.2 := by
      intro a i hi hi48
      rw [el_ap (by omega)]
      exact h.2 i (by omega) hi48
    have fr : ∀ a : Int32, fL μ (ss_wi μ 29 26 a) := fun a => ⟨fun q k hq => by rw [ri_wi, if_neg (by omega)], rfl, fun k hk => by rw [ri_wi, if_neg (by omega)]⟩
    refine ⟨fun g2 => ⟨rfl, ⟨?_, arr _⟩, fr _⟩, fun g2 => ⟨rfl, ⟨?_, arr _⟩, fr _⟩⟩
    · have : L.length = 48 := by
        rcases Nat.lt_or_ge 48 L.length with q | q
        · exact absurd g2 (nI_ge (by omega) (by omega))
        · omega
      rw [ri_wi, if_pos ⟨rfl, rfl⟩, hl, nI_add]; congr 1; omega
    · have : 48 < L.length := by
        rcases Nat.lt_or_ge 48 L.length with q | q
        · exact q
        · exact absurd (nI_le (by omega) (by omega)) g2
      rw [ri_wi, if_pos ⟨rfl, rfl⟩, hl, nI_add]; congr 1; omega
  · have hlt : L.length < 48 := by
      rcases Nat.lt_or_ge L.length 48 with q | q
      · exact q
      · exact absurd (nI_le (by omega) (by omega)) g
    have hmin : min L.length 49 = L.length := by omega
    rw [hmin, cl_n (by omega)]
    have h0 : ss_i μ 29 26 = nI L.length := by rw [h.1, hmin]
    have rd : ∀ (μ : Mm) (p : Nat) (a : Int32), p ≠ 29 → ss_i (ss_wi μ p L.length a) 29 26 = ss_i μ 29 26 := fun μ p a hp => by rw [ri_wi, if_neg (fun r => hp r.1.symm)]
    refine ⟨inb_n (n := 48) rfl hlt (by decide), Tr_X7_addPair_19 ?_⟩
    rw [rd _ _ _ (by decide), h0, cl_n (by omega)]
    refine ⟨inb_n (n := 48) rfl hlt (by decide), Tr_X7_addPair_29 ?_⟩
    rw [rd _ _ _ (by decide), rd _ _ _ (by decide), h0, cl_n (by omega)]
    refine ⟨inb_n (n := 48) rfl hlt (by decide), Tr_X7_addPair_39 ?_⟩
    rw [rd _ _ _ (by decide), rd _ _ _ (by decide), rd _ _ _ (by decide), h0, cl_n (by omega)]
    refine ⟨inb_n (n := 48) rfl hlt (by decide), Tr_X7_addPair_50 ?_⟩
    rw [rd _ _ _ (by decide), rd _ _ _ (by decide), rd _ _ _ (by decide), rd _ _ _ (by decide), h0, cl_n (by omega)]
    refine ⟨inb_n (n := 48) rfl hlt (by decide), Tr_X7_addPair_61 ?_⟩
    rw [rd _ _ _ (by decide), rd _ _ _ (by decide), rd _ _ _ (by decide), rd _ _ _ (by decide), rd _ _ _ (by decide), h0, nI_add]
    refine ⟨fun _ => ⟨rfl, ⟨by rw [ri_wi, if_pos ⟨rfl, rfl⟩, hl]; congr 1; omega, fun i hi hi48 => ?_⟩, ⟨fun q k hq => ?_, rfl, fun k hk => ?_⟩⟩, fun g => absurd (nI_le (by omega) (by omega)) g⟩
    · rw [hl] at hi
      by_cases hil : i = L.length
      · subst hil
        rw [el_last]
        refine ⟨⟨?_, ?_⟩, ?_, ?_, ?_⟩ <;> simp [ri_wi]
      · rw [el_ap (by omega)]
        have e : ∀ q, ss_i (ss_wi (ss_wi (ss_wi (ss_wi (ss_wi (ss_wi μ 44 L.length (nI n)) 45 L.length (nI x)) 47 L.length (nI A)) 46 L.length (nI y)) 48 L.length (nI B)) 29 26 (nI (L.length + 1))) q i = if q = 29 ∧ i = 26 then nI (L.length + 1) else ss_i μ q i := by
          intro q
          rw [ri_wi]
          by_cases h29 : q = 29 ∧ i = 26
          · rw [if_pos h29, if_pos h29]
          · rw [if_neg h29, if_neg h29, ri_wi, if_neg (by omega), ri_wi, if_neg (by omega), ri_wi, if_neg (by omega), ri_wi, if_neg (by omega), ri_wi, if_neg (by omega)]
        rw [e 44, e 45, e 46, e 47, e 48]
        exact h.2 i (by omega) hi48
    · rw [ri_wi, if_neg (by omega), ri_wi, if_neg (by omega), ri_wi, if_neg (by omega), ri_wi, if_neg (by omega), ri_wi, if_neg (by omega), ri_wi, if_neg (by omega)]
    · rw [ri_wi, if_neg (by omega), ri_wi, if_neg (by omega), ri_wi, if_neg (by omega), ri_wi, if_neg (by omega), ri_wi, if_neg (by omega), ri_wi, if_neg (by omega)]
theorem c_layPairs (hS : VS S) (hT : VS T) (hI : IM S T D μ) : Ctr l ω M_X7_layPairs [.ref 29] μ (fun v μ' => v = none ∧ PM (prL S T 5) μ' ∧ fL μ μ') := by
  obtain ⟨hR, hR7, -⟩ := hI
  have h48 := hS.1
  have h48T := hT.1
  have r0 : ∀ {μ1 : Mm}, fL μ μ1 → ss_i μ1 29 0 = nI (sn S) := fun h => by rw [h.2.2 0 (by decide)]; exact hR.1
  have r1 : ∀ {μ1 : Mm}, fL μ μ1 → ss_i μ1 29 1 = nI (sn T) := fun h => by rw [h.2.2 1 (by decide)]; exact hR7.1
  have rx : ∀ {μ1 : Mm} {x : Nat}, fL μ μ1 → x < sn S → ss_i μ1 30 x = nI (sd S x) := fun h hx => by rw [h.1 30 _ (by omega)]; exact RM_d0 hR hx
  have ry : ∀ {μ1 : Mm} {y : Nat}, fL μ μ1 → y < sn T → ss_i μ1 30 (48 + y) = nI (sd T y) := fun h hy => by rw [h.1 30 _ (by omega)]; exact RM_d hR7 hy
  refine Ct_X7_layPairs ?_
  refine upto1 (G := fun n μ1 => Good l ω M_X7_layPairs 7 [.ref 29, .int (nI n), .null, .null, .null, .null] [] μ1 _) (I := fun n μ1 => fL μ μ1 ∧ PM (prL S T n) μ1) 5 ?_ ?_ 0 (by omega) _ ⟨⟨fun q k hq => by rw [ri_wi, if_neg (by omega)], rfl, fun k hk => by rw [ri_wi, if_neg (by omega)]⟩, ⟨by rw [ri_wi, if_pos ⟨rfl, rfl⟩]; rfl, fun i hi => absurd hi (by show ¬ i < 0; omega)⟩⟩
  · intro μ1 ⟨k1, k2⟩
    exact Tr_X7_layPairs_7 ⟨fun _ => ⟨rfl, k2, k1⟩, fun g => absurd (by decide) g⟩
  · intro n μ1 hn ⟨k1, k2⟩ ih
    have h16 : 2 ^ n ≤ 16 := two_le (b := 4) (by omega)
    have h20 := Nat.two_pow_pos n
    refine Tr_X7_layPairs_7 ⟨fun g => absurd g (nI_ge hn (by omega)), fun _ => ?_⟩
    refine upto1 (G := fun x μ2 => Good l ω M_X7_layPairs 14 [.ref 29, .int (nI n), .int (nI x), .null, .null, .null] [] μ2 _) (I := fun x μ2 => fL μ μ2 ∧ PM (prL S T n ++ fm (prX S T n) x) μ2) (sn S) ?_ ?_ 0 (by omega) μ1 ⟨k1, by show PM (_ ++ []) μ1; rw [List.append_nil]; exact k2⟩
    · intro μ2 ⟨m1, m2⟩
      refine Tr_X7_layPairs_14 ?_
      rw [r0 m1, nI_add]
      exact ⟨fun _ => ih μ2 ⟨m1, m2⟩, fun g => absurd (nI_le (Nat.le_refl _) (by omega)) g⟩
    · intro x μ2 hx ⟨m1, m2⟩ ih2
      have hsd := (hS.2 x hx).1
      refine Tr_X7_layPairs_14 ?_
      rw [r0 m1]
      refine ⟨fun g => absurd g (nI_ge hx (by omega)), fun _ => ?_⟩
      refine upto1 (G := fun A μ3 => Good l ω M_X7_layPairs 24 [.ref 29, .int (nI n), .int (nI x), .int (nI A), .null, .null] [] μ3 _) (I := fun A μ3 => fL μ μ3 ∧ PM ((prL S T n ++ fm (prX S T n) x) ++ fm (prA S T n x) A) μ3) (2 ^ n) ?_ ?_ 0 (Nat.zero_le _) μ2 ⟨m1, by show PM (_ ++ []) μ2; rw [List.append_nil]; exact m2⟩
      · intro μ3 ⟨o1, o2⟩
        refine Tr_X7_layPairs_24 ?_
        rw [d_low n (by omega), nI_add]
        refine ⟨fun _ => ih2 μ3 ⟨o1, ?_⟩, fun g => absurd (nI_lt (by omega) (by omega)) g⟩
        rw [List.append_assoc] at o2
        exact o2
      · intro A μ3 hA ⟨o1, o2⟩ ih3
        refine Tr_X7_layPairs_24 ⟨fun g => absurd g (by rw [d_low n (by omega)]; exact nI_nlt (by omega) (by omega)), fun _ => ?_⟩
        generalize hLL : (prL S T n ++ fm (prX S T n) x) ++ fm (prA S T n x) A = LL at o2
        have hs3 : (prL S T n ++ fm (prX S T n) x) ++ fm (prA S T n x) (A + 1) = LL ++ prA S T n x A := by rw [← hLL, fm, List.append_assoc _ _ (prA S T n x A)]
        rw [hs3] at ih3
        have hpA := pop_lt64 A (by omega)
        by_cases hpo : popN A = sd S x
        · have hpa : prA S T n x A = prP T n x A := by unfold prA; rw [if_pos hpo]
          rw [hpa] at ih3
          refine upto1 (G := fun y μ4 => Good l ω M_X7_layPairs 35 [.ref 29, .int (nI n), .int (nI x), .int (nI A), .int (nI y), .null] [] μ4 _) (I := fun y μ4 => fL μ μ4 ∧ PM (LL ++ fm (prY T n x A) y) μ4) (sn T) ?_ ?_ 0 (by omega) μ3 ⟨o1, by show PM (LL ++ []) μ3; rw [List.append_nil]; exact o2⟩
          · intro μ4 ⟨q1, q2⟩
            refine Tr_X7_layPairs_35 ?_
            rw [r1 q1, nI_add]
            exact ⟨fun _ => ih3 μ4 ⟨q1, q2⟩, fun g => absurd (nI_le (Nat.le_refl _) (by omega)) g⟩
          · intro y μ4 hy ⟨q1, q2⟩ ih4
            have hsdT := (hT.2 y hy).1
            refine Tr_X7_layPairs_35 ?_
            rw [r1 q1, cl_n (by omega), rx q1 hx, d_b7 A (by omega), hpo]
            refine ⟨fun g => absurd g (nI_ge hy (by omega)), fun _ => ⟨inb_n (n := 96) rfl (by omega) (by decide), fun g => absurd rfl g, fun _ => ?_⟩⟩
            refine upto1 (G := fun B μ5 => Good l ω M_X7_layPairs 60 [.ref 29, .int (nI n), .int (nI x), .int (nI A), .int (nI y), .int (nI B)] [] μ5 _) (I := fun B μ5 => fL μ μ5 ∧ PM ((LL ++ fm (prY T n x A) y) ++ fm (prB T n x A y) B) μ5) (2 ^ n) ?_ ?_ 0 (Nat.zero_le _) μ4 ⟨q1, by show PM (_ ++ []) μ4; rw [List.append_nil]; exact q2⟩
            · intro μ5 ⟨s1, s2⟩
              refine Tr_X7_layPairs_60 ?_
              rw [d_low n (by omega), nI_add]
              refine ⟨fun _ => ih4 μ5 ⟨s1, ?_⟩, fun g => absurd (nI_lt (by omega) (by omega)) g⟩
              rw [List.append_assoc] at s2
              exact s2
            · intro B μ5 hB ⟨s1, s2⟩ ih5
              generalize hMM : (LL ++ fm (prY T n x A) y) ++ fm (prB T n x A y) B = MM at s2
              have hs5 : (LL ++ fm (prY T n x A) y) ++ fm (prB T n x A y) (B + 1) = MM ++ prB T n x A y B := by rw [← hMM, fm, List.append_assoc _ _ (prB T n x A y B)]
              rw [hs5] at ih5
              have hpB := pop_lt64 B (by omega)
              refine Tr_X7_layPairs_60 ?_
              rw [nI_add 48 y, cl_n (by omega), ry s1 hy, or_low hn hA hB, d_b7 B (by omega), nI_eq (by omega) (by omega)]
              have skip : ¬ (A ||| B = 2 ^ n - 1 ∧ popN B = sd T y) → Good l ω M_X7_layPairs 109 [.ref 29, .int (nI n), .int (nI x), .int (nI A), .int (nI y), .int (nI B)] [] μ5 (fun v μ' => v = none ∧ PM (prL S T 5) μ' ∧ fL μ μ') := by
                intro hno
                refine Tr_X7_layPairs_109 ?_
                rw [nI_add]
                refine ih5 μ5 ⟨s1, ?_⟩
                unfold prB
                rw [if_neg hno, List.append_nil]
                exact s2
              refine ⟨fun g => absurd g (by rw [d_low n (by omega)]; exact nI_nlt (by omega) (by omega)), fun _ => ⟨fun g => skip (fun r => g r.1), fun g => ⟨inb_n (n := 96) rfl (by omega) (by decide), fun g2 => skip (fun r => g2 r.2), fun g2 => ?_⟩⟩⟩
              have hpb : prB T n x A y B = [(n, x, A, y, B)] := by unfold prB; rw [if_pos ⟨Decidable.not_not.mp g, Decidable.not_not.mp g2⟩]
              rw [hpb] at ih5
              refine ex_q (c_addPair s2) (fun v μ6 hq => ?_)
              obtain ⟨rfl, t1, t2⟩ := hq
              refine Tr_X7_layPairs_109 ?_
              rw [nI_add]
              exact ih5 μ6 ⟨fL_tr s1 t2, t1⟩
        · have hpa : prA S T n x A = [] := by unfold prA; rw [if_neg hpo]
          rw [hpa, List.append_nil] at ih3
          refine Tr_X7_layPairs_35 ?_
          rw [cl_n (by omega), rx o1 hx, d_b7 A (by omega), nI_eq (by omega) (by omega), nI_add]
          exact ⟨fun _ => ih3 μ3 ⟨o1, o2⟩, fun _ => ⟨inb_n (n := 96) rfl (by omega) (by decide), fun _ => ih3 μ3 ⟨o1, o2⟩, fun g => absurd hpo g⟩⟩
end P7

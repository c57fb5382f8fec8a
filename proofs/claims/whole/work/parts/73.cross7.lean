/-! the reference clears a cross -/
theorem add1 {y x m q : Nat} (hx : 0 < x) (hy : y < m) (hxm : x < m) (hq : q = y / x) : ((y : Int) + ((m - q : Nat) : Int) * x) % m = (y : Int) % x := by
  have h1 : y / x ≤ y := Nat.div_le_self y x
  rw [show ((m - q : Nat) : Int) = (m : Int) - ((y / x : Nat) : Int) by omega, add_mm, red1 hx hy hxm]
section CX
variable {l : Launch} {ω : Wd} {μ : Mm} {R C m : Nat} {W : MX}
theorem c_clearsCross {t : Nat} (H : HW R C m) (h : RW R C m W μ) (htR : t < R) (htC : t < C) (hv : W t t ≠ 0) (hcl : ClE W t R C) : Ctr l ω M_X7_clearsCross [.ref 29, .int (nI t)] μ (fun v μ' => ∃ (W' : MX) (s0 : Int32), v = some (.int s0) ∧ kL 37 μ μ' ∧ RW R C m W' μ' ∧ EQ m R C W W' ∧ PB m W W' t R C ∧ (∀ r c, r < R → c < C → (r < t ∨ c < t) → W' r c = W r c) ∧ W' t t = W t t ∧ (∀ r, t < r → r < R → W' r t = W r t % W t t) ∧ (∀ c, t < c → c < C → W' t c = W t c % W t t) ∧ ((s0 = nI 1 ∧ isoE W' t R C) ∨ (s0 = nI 0 ∧ ¬ isoE W' t R C))) := by
  have H' := H
  obtain ⟨hR, hC, m0, m46⟩ := H
  obtain ⟨v0, v1⟩ := RW_b h htR htC
  obtain ⟨x, hx⟩ := Int.eq_ofNat_of_zero_le v0
  have x0 : 0 < x := by omega
  have xm : x < m := by omega
  rw [hx]
  have pz : decide (¬ lI (x : Int) = 0) = true := lI_n0 x0 (by omega)
  refine Ct_X7_clearsCross ?_
  rw [nI_add]
  have second : ∀ (E1 : MX) (μ1 : Mm) (s1 : Int32), kL 37 μ μ1 → RW R C m E1 μ1 → EQ m R C W E1 → PB m W E1 t R C → (∀ c, c < C → E1 t c = W t c) → (∀ r, t < r → r < R → E1 r t = W r t % x) → (∀ r c, r < R → c < C → (r < t ∨ c < t) → E1 r c = W r c) → ((s1 = nI 1 ∧ ∀ r, t < r → r < R → E1 r t = 0) ∨ (s1 = nI 0 ∧ ¬ ∀ r, t < r → r < R → E1 r t = 0)) → Good l ω M_X7_clearsCross 104 [.ref 29, .int (nI t), .int s1, .int (nI (t + 1)), .null, .null] [] μ1 (fun v μ' => ∃ (W' : MX) (s0 : Int32), v = some (.int s0) ∧ kL 37 μ μ' ∧ RW R C m W' μ' ∧ EQ m R C W W' ∧ PB m W W' t R C ∧ (∀ r c, r < R → c < C → (r < t ∨ c < t) → W' r c = W r c) ∧ W' t t = x ∧ (∀ r, t < r → r < R → W' r t = W r t % x) ∧ (∀ c, t < c → c < C → W' t c = W t c % x) ∧ ((s0 = nI 1 ∧ isoE W' t R C) ∨ (s0 = nI 0 ∧ ¬ isoE W' t R C))) := by
    intro E1 μ1 s1 f1 f2 f3 f0 f4 f5 f6 f7
    refine upto1 (σ := Int32 × Mm) (G := fun i s => t < i → Good l ω M_X7_clearsCross 104 [.ref 29, .int (nI t), .int s.1, .int (nI i), .null, .null] [] s.2 _) (I := fun i s => kL 37 μ s.2 ∧ ∃ E2 : MX, RW R C m E2 s.2 ∧ EQ m R C W E2 ∧ PB m W E2 t R C ∧ (∀ r, r < R → E2 r t = E1 r t) ∧ (∀ c, t < c → c < C → c < i → E2 t c = W t c % x) ∧ (∀ r c, r < R → i ≤ c → c < C → E2 r c = E1 r c) ∧ (∀ r c, r < R → c < C → (r < t ∨ c < t) → E2 r c = W r c) ∧ ((s.1 = nI 1 ∧ (∀ r, t < r → r < R → E2 r t = 0) ∧ ∀ c, t < c → c < i → E2 t c = 0) ∨ (s.1 = nI 0 ∧ ¬ ((∀ r, t < r → r < R → E2 r t = 0) ∧ ∀ c, t < c → c < i → E2 t c = 0)))) C ?_ ?_ (t + 1) (by omega) (s1, μ1) ⟨f1, E1, f2, f3, f0, fun _ _ => rfl, fun c a b w => by omega, fun _ _ _ _ _ => rfl, f6, ?_⟩ (by omega)
    · intro ⟨s2, μ2⟩ ⟨k1, E2, k2, k3, k0, k4, k5, k6, k7, k8⟩ _
      dsimp only at k1 k2 k8 ⊢
      refine Tr_X7_clearsCross_104 ?_
      rw [k2.2.1]
      have nar : narrow .boolean (.int s2) = .int s2 := by
        rcases k8 with q | q
        · rw [q.1]; decide
        · rw [q.1]; decide
      exact ⟨fun _ => ⟨nar, E2, s2, rfl, k1, k2, k3, k0, k7, by rw [k4 t htR, f4 t htC]; exact hx, fun r a b => by rw [k4 r b]; exact f5 r a b, fun c a b => k5 c a b b, k8⟩, fun g => absurd (nI_le (Nat.le_refl _) (by omega)) g⟩
    · intro i ⟨s2, μ2⟩ hiC ⟨k1, E2, k2, k3, k0, k4, k5, k6, k7, k8⟩ ih hti
      dsimp only at k1 k2 k8 ⊢
      have bi := RW_b h htR hiC
      obtain ⟨y, hy⟩ := Int.eq_ofNat_of_zero_le bi.1
      have ey : E2 t i = (y : Int) := by rw [k6 t i htR (Nat.le_refl _) hiC, f4 i hiC]; exact hy
      have e2t : E2 t t = (x : Int) := by rw [k4 t htR, f4 t htC]; exact hx
      refine Tr_X7_clearsCross_104 ?_
      have ed : lI (y : Int) / lI (x : Int) = lI ((y / x : Nat) : Int) := by rw [lI_div (by omega) (by omega) (by omega) (by omega)]; rfl
      have hq : y / x ≤ y := Nat.div_le_self y x
      have es : lI (m : Int) - lI ((y / x : Nat) : Int) = lI ((m - y / x : Nat) : Int) := by rw [lI_sub]; congr 1; omega
      have c0 : lg_cmp (lI (y : Int)) (lN 0) = 0 ↔ (y : Int) = ((0 : Nat) : Int) := by rw [lN_I]; exact cmp_0 (by omega) (by omega) (by decide) (by decide)
      have nt : inb 37 2 (nI (t * 48 + t)) = true := inb_n (n := 2304) rfl (by omega) (by decide)
      have ni : inb 37 2 (nI (t * 48 + i)) = true := inb_n (n := 2304) rfl (by omega) (by decide)
      rw [k2.2.1, pk_mul, nI_add, nI_add, nI_add, Nat.mul_comm 48, cl_n (n := t * 48 + i) (by omega), cl_n (n := t * 48 + t) (by omega), RW_g k2 t i htR hiC, RW_g k2 t t htR htC, ey, e2t, k2.2.2.1, ed, es, c0]
      refine ⟨fun g => absurd g (nI_ge hiC (by omega)), fun _ => ⟨ni, nt, pz, ni, fun g => ?_, fun g => ?_⟩⟩
      · refine ih (s2, μ2) ⟨k1, E2, k2, k3, k0, k4, fun c a b w => ?_, fun r c hr a b => k6 r c hr (by omega) b, k7, ?_⟩ (by omega)
        · by_cases hci : c = i
          · rw [hci, ey, g, hy, g]; rfl
          · exact k5 c a b (by omega)
        · have iff : (∀ c, t < c → c < i + 1 → E2 t c = 0) ↔ ∀ c, t < c → c < i → E2 t c = 0 := ⟨fun q c a b => q c a (by omega), fun q c a b => by
            by_cases hci : c = i
            · rw [hci, ey]; exact g
            · exact q c a (by omega)⟩
          dsimp only
          rw [iff]; exact k8
      · refine ex_q (c_addColumn (f := m - y / x) H' k2 hiC htC (by omega) (Nat.sub_le _ _)) (fun v μ3 hq3 => ?_)
        obtain ⟨rfl, d2, d1⟩ := hq3
        have dti : (if i = i then (E2 t i + ((m - y / x : Nat) : Int) * E2 t t) % m else E2 t i) = (y : Int) % x := by rw [if_pos rfl, ey, e2t, add1 x0 (by omega) xm rfl]
        have bti := RW_b d1 htR hiC
        have gti := RW_g d1 t i htR hiC
        try dsimp only at bti gti
        rw [dti] at bti gti
        have cz : lg_cmp (lI ((y : Int) % x)) (lN 0) = 0 ↔ (y : Int) % x = ((0 : Nat) : Int) := by rw [lN_I]; exact cmp_0 (by omega) (by omega) (by decide) (by decide)
        have nx : ∀ s3 : Int32, ((s3 = nI 1 ∧ s2 = nI 1 ∧ (y : Int) % x = 0) ∨ (s3 = nI 0 ∧ ¬ (s2 = nI 1 ∧ (y : Int) % x = 0))) → Good l ω M_X7_clearsCross 104 [.ref 29, .int (nI t), .int s3, .int (nI (i + 1)), .null, .null] [] μ3 (fun v μ' => ∃ (W' : MX) (s0 : Int32), v = some (.int s0) ∧ kL 37 μ μ' ∧ RW R C m W' μ' ∧ EQ m R C W W' ∧ PB m W W' t R C ∧ (∀ r c, r < R → c < C → (r < t ∨ c < t) → W' r c = W r c) ∧ W' t t = x ∧ (∀ r, t < r → r < R → W' r t = W r t % x) ∧ (∀ c, t < c → c < C → W' t c = W t c % x) ∧ ((s0 = nI 1 ∧ isoE W' t R C) ∨ (s0 = nI 0 ∧ ¬ isoE W' t R C))) := by
          intro s3 hs3
          refine ih (s3, μ3) ⟨kL_tr k1 d2, _, d1, EQ_tr k3 (EQ_subC (f := ((y / x : Nat) : Int)) hiC htC (by omega) (fun r c hr hc => ?_)), PB_tr k0 (fun g hg hb r c a b a' b' => ?_), fun r hr => ?_, fun c a b w => ?_, fun r c hr a b => ?_, fun r c hr hc w => ?_, ?_⟩ (by omega)
          · by_cases hci : c = i
            · rw [if_pos hci, if_pos hci, show ((m - y / x : Nat) : Int) = (m : Int) - ((y / x : Nat) : Int) by omega, add_mm]; exact em_d _ _
            · rw [if_neg hci, if_neg hci]; exact ⟨0, by omega⟩
          · try dsimp only
            by_cases hci : c = i
            · rw [if_pos hci]
              exact dv_em hg (Int.dvd_add (hb r i a b (by omega) hiC) (Int.dvd_mul_of_dvd_right (hb r t a b (Nat.le_refl _) htC)))
            · rw [if_neg hci]; exact hb r c a b a' b'
          · try dsimp only
            rw [if_neg (by omega)]; exact k4 r hr
          · try dsimp only
            by_cases hci : c = i
            · rw [if_pos hci, ey, e2t, add1 x0 (by omega) xm rfl, hci, hy]
            · rw [if_neg hci]; exact k5 c a b (by omega)
          · try dsimp only
            rw [if_neg (by omega)]; exact k6 r c hr (by omega) b
          · try dsimp only
            by_cases hci : c = i
            · subst hci
              have hrp : r < t := by omega
              have b := RW_b h hr hc
              rw [if_pos rfl, k7 r c hr hc w, k7 r t hr htC (Or.inl hrp), hcl r t hr htC (by omega) (Or.inl hrp), Int.mul_zero, Int.add_zero, Int.emod_eq_of_lt b.1 b.2]
            · rw [if_neg hci]; exact k7 r c hr hc w
          · try dsimp only
            have iff : ((∀ r, t < r → r < R → (if t = i then (E2 r i + ((m - y / x : Nat) : Int) * E2 r t) % m else E2 r t) = 0) ∧ ∀ c, t < c → c < i + 1 → (if c = i then (E2 t i + ((m - y / x : Nat) : Int) * E2 t t) % m else E2 t c) = 0) ↔ ((((∀ r, t < r → r < R → E2 r t = 0) ∧ ∀ c, t < c → c < i → E2 t c = 0)) ∧ (y : Int) % x = 0) := by
              constructor
              · intro q
                refine ⟨⟨fun r a b => ?_, fun c a b => ?_⟩, ?_⟩
                · have := q.1 r a b
                  rwa [if_neg (by omega)] at this
                · have := q.2 c a (by omega)
                  rwa [if_neg (by omega)] at this
                · have := q.2 i hti (by omega)
                  rwa [dti] at this
              · intro q
                refine ⟨fun r a b => ?_, fun c a b => ?_⟩
                · rw [if_neg (by omega)]; exact q.1.1 r a b
                · by_cases hci : c = i
                  · rw [if_pos hci, ey, e2t, add1 x0 (by omega) xm rfl]; exact q.2
                  · rw [if_neg hci]; exact q.1.2 c a (by omega)
            rw [iff]
            rcases k8 with ⟨e1, e2⟩ | ⟨e1, e2⟩
            · rcases hs3 with ⟨q1, q2, q3⟩ | ⟨q1, q2⟩
              · exact Or.inl ⟨q1, e2, q3⟩
              · exact Or.inr ⟨q1, fun w => q2 ⟨e1, w.2⟩⟩
            · rcases hs3 with ⟨q1, q2, q3⟩ | ⟨q1, q2⟩
              · rw [e1] at q2; exact absurd q2 (by decide)
              · exact Or.inr ⟨q1, fun w => e2 w.1⟩
        refine Tr_X7_clearsCross_166 ?_
        rw [pk_mul, nI_add, nI_add, Nat.mul_comm 48, cl_n (by omega), gti, cz]
        refine ⟨fun q => nx _ (Or.inr ⟨rfl, fun w => by rw [w.1] at q; exact absurd q nI1_ne⟩), fun q => ⟨ni, fun w => nx _ (Or.inr ⟨rfl, fun z => w z.2⟩), fun w => nx _ (Or.inl ⟨rfl, ?_, Decidable.not_not.mp w⟩)⟩⟩
        rcases k8 with ⟨e1, e2⟩ | ⟨e1, e2⟩
        · exact e1
        · exact absurd (by rw [e1]; exact nI0_eq) q
    · dsimp only
      have iff : ((∀ r, t < r → r < R → E1 r t = 0) ∧ ∀ c, t < c → c < t + 1 → E1 t c = 0) ↔ ∀ r, t < r → r < R → E1 r t = 0 := ⟨fun q => q.1, fun q => ⟨q, fun c a b => by omega⟩⟩
      rw [iff]; exact f7
  refine upto1 (σ := Int32 × Mm) (G := fun i s => t < i → Good l ω M_X7_clearsCross 6 [.ref 29, .int (nI t), .int s.1, .int (nI i), .null, .null] [] s.2 _) (I := fun i s => kL 37 μ s.2 ∧ ∃ E2 : MX, RW R C m E2 s.2 ∧ EQ m R C W E2 ∧ PB m W E2 t R C ∧ (∀ c, c < C → E2 t c = W t c) ∧ (∀ r, t < r → r < R → r < i → E2 r t = W r t % x) ∧ (∀ r c, c < C → i ≤ r → r < R → E2 r c = W r c) ∧ (∀ r c, r < R → c < C → (r < t ∨ c < t) → E2 r c = W r c) ∧ ((s.1 = nI 1 ∧ ∀ r, t < r → r < i → E2 r t = 0) ∨ (s.1 = nI 0 ∧ ¬ ∀ r, t < r → r < i → E2 r t = 0))) R ?_ ?_ (t + 1) (by omega) (nI 1, μ) ⟨kL_rf, W, h, EQ_rf, PB_rf, fun _ _ => rfl, fun c a b w => by omega, fun _ _ _ _ _ => rfl, fun _ _ _ _ _ => rfl, Or.inl ⟨rfl, fun r a b => by omega⟩⟩ (by omega)
  · intro ⟨s2, μ2⟩ ⟨k1, E2, k2, k3, k0, k4, k5, k6, k7, k8⟩ _
    dsimp only at k1 k2 k8 ⊢
    refine Tr_X7_clearsCross_6 ?_
    rw [k2.1, nI_add]
    exact ⟨fun _ => second E2 μ2 s2 k1 k2 k3 k0 k4 (fun r a b => k5 r a b b) k7 k8, fun g => absurd (nI_le (Nat.le_refl _) (by omega)) g⟩
  · intro i ⟨s2, μ2⟩ hiR ⟨k1, E2, k2, k3, k0, k4, k5, k6, k7, k8⟩ ih hti
    dsimp only at k1 k2 k8 ⊢
    have bi := RW_b h hiR htC
    obtain ⟨y, hy⟩ := Int.eq_ofNat_of_zero_le bi.1
    have ey : E2 i t = (y : Int) := by rw [k6 i t htC (Nat.le_refl _) hiR]; exact hy
    have e2t : E2 t t = (x : Int) := by rw [k4 t htC]; exact hx
    refine Tr_X7_clearsCross_6 ?_
    have ed : lI (y : Int) / lI (x : Int) = lI ((y / x : Nat) : Int) := by rw [lI_div (by omega) (by omega) (by omega) (by omega)]; rfl
    have hq : y / x ≤ y := Nat.div_le_self y x
    have es : lI (m : Int) - lI ((y / x : Nat) : Int) = lI ((m - y / x : Nat) : Int) := by rw [lI_sub]; congr 1; omega
    have c0 : lg_cmp (lI (y : Int)) (lN 0) = 0 ↔ (y : Int) = ((0 : Nat) : Int) := by rw [lN_I]; exact cmp_0 (by omega) (by omega) (by decide) (by decide)
    have nt : inb 37 2 (nI (t * 48 + t)) = true := inb_n (n := 2304) rfl (by omega) (by decide)
    have ni : inb 37 2 (nI (i * 48 + t)) = true := inb_n (n := 2304) rfl (by omega) (by decide)
    rw [k2.1, pk_mul, pk_mul, nI_add, nI_add, nI_add, nI_add, Nat.mul_comm 48, Nat.mul_comm 48, cl_n (n := i * 48 + t) (by omega), cl_n (n := t * 48 + t) (by omega), RW_g k2 i t hiR htC, RW_g k2 t t htR htC, ey, e2t, k2.2.2.1, ed, es, c0]
    refine ⟨fun g => absurd g (nI_ge hiR (by omega)), fun _ => ⟨ni, nt, pz, ni, fun g => ?_, fun g => ?_⟩⟩
    · refine ih (s2, μ2) ⟨k1, E2, k2, k3, k0, k4, fun c a b w => ?_, fun r c hr a b => k6 r c hr (by omega) b, k7, ?_⟩ (by omega)
      · by_cases hci : c = i
        · rw [hci, ey, g, hy, g]; rfl
        · exact k5 c a b (by omega)
      · have iff : (∀ c, t < c → c < i + 1 → E2 c t = 0) ↔ ∀ c, t < c → c < i → E2 c t = 0 := ⟨fun q c a b => q c a (by omega), fun q c a b => by
          by_cases hci : c = i
          · rw [hci, ey]; exact g
          · exact q c a (by omega)⟩
        dsimp only
        rw [iff]; exact k8
    · refine ex_q (c_addRow (f := m - y / x) H' k2 hiR htR (by omega) (Nat.sub_le _ _)) (fun v μ3 hq3 => ?_)
      obtain ⟨rfl, d2, d1⟩ := hq3
      have dti : (if i = i then (E2 i t + ((m - y / x : Nat) : Int) * E2 t t) % m else E2 i t) = (y : Int) % x := by rw [if_pos rfl, ey, e2t, add1 x0 (by omega) xm rfl]
      have bti := RW_b d1 hiR htC
      have gti := RW_g d1 i t hiR htC
      try dsimp only at bti gti
      rw [dti] at bti gti
      have cz : lg_cmp (lI ((y : Int) % x)) (lN 0) = 0 ↔ (y : Int) % x = ((0 : Nat) : Int) := by rw [lN_I]; exact cmp_0 (by omega) (by omega) (by decide) (by decide)
      have nx : ∀ s3 : Int32, ((s3 = nI 1 ∧ s2 = nI 1 ∧ (y : Int) % x = 0) ∨ (s3 = nI 0 ∧ ¬ (s2 = nI 1 ∧ (y : Int) % x = 0))) → Good l ω M_X7_clearsCross 6 [.ref 29, .int (nI t), .int s3, .int (nI (i + 1)), .null, .null] [] μ3 (fun v μ' => ∃ (W' : MX) (s0 : Int32), v = some (.int s0) ∧ kL 37 μ μ' ∧ RW R C m W' μ' ∧ EQ m R C W W' ∧ PB m W W' t R C ∧ (∀ r c, r < R → c < C → (r < t ∨ c < t) → W' r c = W r c) ∧ W' t t = x ∧ (∀ r, t < r → r < R → W' r t = W r t % x) ∧ (∀ c, t < c → c < C → W' t c = W t c % x) ∧ ((s0 = nI 1 ∧ isoE W' t R C) ∨ (s0 = nI 0 ∧ ¬ isoE W' t R C))) := by
        intro s3 hs3
        refine ih (s3, μ3) ⟨kL_tr k1 d2, _, d1, EQ_tr k3 (EQ_subR (f := ((y / x : Nat) : Int)) hiR htR (by omega) (fun r c hr hc => ?_)), PB_tr k0 (fun g hg hb r c a b a' b' => ?_), fun c hc => ?_, fun r a b w => ?_, fun r c hc a b => ?_, fun r c hr hc w => ?_, ?_⟩ (by omega)
        · by_cases hci : r = i
          · rw [if_pos hci, if_pos hci, show ((m - y / x : Nat) : Int) = (m : Int) - ((y / x : Nat) : Int) by omega, add_mm]; exact em_d _ _
          · rw [if_neg hci, if_neg hci]; exact ⟨0, by omega⟩
        · try dsimp only
          by_cases hci : r = i
          · rw [if_pos hci]
            exact dv_em hg (Int.dvd_add (hb i c (by omega) hiR a' b') (Int.dvd_mul_of_dvd_right (hb t c (Nat.le_refl _) htR a' b')))
          · rw [if_neg hci]; exact hb r c a b a' b'
        · try dsimp only
          rw [if_neg (by omega)]; exact k4 c hc
        · try dsimp only
          by_cases hci : r = i
          · rw [if_pos hci, ey, e2t, add1 x0 (by omega) xm rfl, hci, hy]
          · rw [if_neg hci]; exact k5 r a b (by omega)
        · try dsimp only
          rw [if_neg (by omega)]; exact k6 r c hc (by omega) b
        · try dsimp only
          by_cases hci : r = i
          · subst hci
            have hcp : c < t := by omega
            have b := RW_b h hr hc
            rw [if_pos rfl, k7 r c hr hc w, k4 c hc, hcl t c htR hc (by omega) (Or.inr hcp), Int.mul_zero, Int.add_zero, Int.emod_eq_of_lt b.1 b.2]
          · rw [if_neg hci]; exact k7 r c hr hc w
        · try dsimp only
          have iff : (∀ c, t < c → c < i + 1 → (if c = i then (E2 i t + ((m - y / x : Nat) : Int) * E2 t t) % m else E2 c t) = 0) ↔ ((∀ c, t < c → c < i → E2 c t = 0) ∧ (y : Int) % x = 0) := by
            constructor
            · intro q
              refine ⟨fun c a b => ?_, ?_⟩
              · have := q c a (by omega)
                rwa [if_neg (by omega)] at this
              · have := q i hti (by omega)
                rwa [dti] at this
            · intro q c a b
              by_cases hci : c = i
              · rw [if_pos hci, ey, e2t, add1 x0 (by omega) xm rfl]; exact q.2
              · rw [if_neg hci]; exact q.1 c a (by omega)
          rw [iff]
          rcases k8 with ⟨e1, e2⟩ | ⟨e1, e2⟩
          · rcases hs3 with ⟨q1, q2, q3⟩ | ⟨q1, q2⟩
            · exact Or.inl ⟨q1, e2, q3⟩
            · exact Or.inr ⟨q1, fun w => q2 ⟨e1, w.2⟩⟩
          · rcases hs3 with ⟨q1, q2, q3⟩ | ⟨q1, q2⟩
            · rw [e1] at q2; exact absurd q2 (by decide)
            · exact Or.inr ⟨q1, fun w => e2 w.1⟩
      refine Tr_X7_clearsCross_68 ?_
      rw [pk_mul, nI_add, nI_add, Nat.mul_comm 48, cl_n (by omega), gti, cz]
      refine ⟨fun q => nx _ (Or.inr ⟨rfl, fun w => by rw [w.1] at q; exact absurd q nI1_ne⟩), fun q => ⟨ni, fun w => nx _ (Or.inr ⟨rfl, fun z => w z.2⟩), fun w => nx _ (Or.inl ⟨rfl, ?_, Decidable.not_not.mp w⟩)⟩⟩
      rcases k8 with ⟨e1, e2⟩ | ⟨e1, e2⟩
      · exact e1
      · exact absurd (by rw [e1]; exact nI0_eq) q
end CX

/-! the class isolates a pivot -/
def isoE (E : MX) (p R C : Nat) : Prop := (∀ r, p < r → r < R → E r p = 0) ∧ ∀ c, p < c → c < C → E p c = 0
def LE0 (x y : Int) : Prop := y ≠ 0 → x ≠ 0 ∧ x ≤ y
theorem LE0_rf {x : Int} : LE0 x x := fun h => ⟨h, Int.le_refl _⟩
theorem LE0_tr {x y z : Int} (h : LE0 x y) (g : LE0 y z) : LE0 x z := fun hz => ⟨(h (g hz).1).1, Int.le_trans (h (g hz).1).2 (g hz).2⟩
theorem less_y {x y : Int} (x0 : 0 ≤ x) (x1 : x < 2 ^ 62) (y0 : 0 ≤ y) (y1 : y < 2 ^ 62) : (iLess (lI x) (lI y) = 0 → LE0 y x) ∧ (¬ iLess (lI x) (lI y) = 0 → LE0 x y) := by
  have c1 : lg_cmp (lI x) (lN 0) = 0 ↔ x = ((0 : Nat) : Int) := by rw [lN_I]; exact cmp_0 (by omega) (by omega) (by decide) (by decide)
  have c2 : lg_cmp (lI y) (lN 0) = 0 ↔ y = ((0 : Nat) : Int) := by rw [lN_I]; exact cmp_0 (by omega) (by omega) (by decide) (by decide)
  have c3 : 0 ≤ lg_cmp (lI x) (lI y) ↔ y ≤ x := cmp_ge (by omega) (by omega) (by omega) (by omega)
  unfold iLess
  by_cases hx : x = ((0 : Nat) : Int)
  · rw [if_pos (c1.mpr hx)]
    exact ⟨fun _ h => absurd hx h, fun q => absurd nI0_eq q⟩
  · rw [if_neg (fun q => hx (c1.mp q))]
    by_cases hy : y = ((0 : Nat) : Int)
    · rw [if_pos (c2.mpr hy)]
      exact ⟨fun q => absurd q nI1_ne, fun _ h => absurd hy h⟩
    · rw [if_neg (fun q => hy (c2.mp q))]
      by_cases hyx : y ≤ x
      · rw [if_pos (c3.mpr hyx)]
        exact ⟨fun _ _ => ⟨hy, hyx⟩, fun q => absurd nI0_eq q⟩
      · rw [if_neg (fun q => hyx (c3.mp q))]
        exact ⟨fun q => absurd q nI1_ne, fun _ _ => ⟨hx, by omega⟩⟩
section IS
variable {l : Launch} {ω : Wd} {μ : Mm} {R C m : Nat} {E : MX}
theorem c_isIsolated {p : Nat} (H : HB R C m) (h : RX R C m E μ) (hpR : p < R) (hpC : p < C) : Ctr l ω M_X5_isIsolated [.ref 22, .int (nI p)] μ (fun v μ' => μ' = μ ∧ ((v = some (.int (nI 1)) ∧ isoE E p R C) ∨ (v = some (.int (nI 0)) ∧ ¬ isoE E p R C))) := by
  obtain ⟨hRC, hR, hC, m0, m46⟩ := H
  refine Ct_X5_isIsolated ?_
  rw [nI_add]
  have second : (∀ r, p < r → r < R → E r p = 0) → ∀ e i, i + e = C → p < i → (∀ c, p < c → c < i → E p c = 0) → Good l ω M_X5_isIsolated 35 [.ref 22, .int (nI p), .int (nI i)] [] μ (fun v μ' => μ' = μ ∧ ((v = some (.int (nI 1)) ∧ isoE E p R C) ∨ (v = some (.int (nI 0)) ∧ ¬ isoE E p R C))) := by
    intro h1 e
    induction e with
    | zero =>
      intro i hi hp hz
      refine Tr_X5_isIsolated_35 ?_
      rw [h.2.1]
      exact ⟨fun _ => ⟨rfl, Or.inl ⟨rfl, h1, fun c a b => hz c a (by omega)⟩⟩, fun g => absurd (nI_le (by omega) (by omega)) g⟩
    | succ e ih =>
      intro i hi hp hz
      have ix := rc_ix hRC hpR (show i < C by omega)
      have b := RX_b h hpR (show i < C by omega)
      refine Tr_X5_isIsolated_35 ?_
      rw [h.2.1, pk_mul, nI_add, nI_add, cl_n (by omega), RX_g h p i hpR (by omega), lN_I, cmp_0 (by omega) (by omega) (by decide) (by decide)]
      refine ⟨fun g => absurd g (nI_ge (by omega) (by omega)), fun _ => ⟨inb_n (n := 576) rfl ix (by decide), fun g => ?_, fun g => ⟨rfl, Or.inr ⟨rfl, fun q => g (q.2 i hp (by omega))⟩⟩⟩⟩
      refine ih (i + 1) (by omega) (by omega) (fun c a b => ?_)
      by_cases hci : c = i
      · rw [hci]; exact g
      · exact hz c a (by omega)
  have first : ∀ e i, i + e = R → p < i → (∀ r, p < r → r < i → E r p = 0) → Good l ω M_X5_isIsolated 4 [.ref 22, .int (nI p), .int (nI i)] [] μ (fun v μ' => μ' = μ ∧ ((v = some (.int (nI 1)) ∧ isoE E p R C) ∨ (v = some (.int (nI 0)) ∧ ¬ isoE E p R C))) := by
    intro e
    induction e with
    | zero =>
      intro i hi hp hz
      refine Tr_X5_isIsolated_4 ?_
      rw [h.1, nI_add]
      exact ⟨fun _ => second (fun r a b => hz r a (by omega)) (C - (p + 1)) (p + 1) (by omega) (by omega) (fun c a b => by omega), fun g => absurd (nI_le (by omega) (by omega)) g⟩
    | succ e ih =>
      intro i hi hp hz
      have ix := rc_ix hRC (show i < R by omega) hpC
      have b := RX_b h (show i < R by omega) hpC
      refine Tr_X5_isIsolated_4 ?_
      rw [h.1, h.2.1, pk_mul, nI_add, nI_add, nI_add, cl_n (by omega), RX_g h i p (by omega) hpC, lN_I, cmp_0 (by omega) (by omega) (by decide) (by decide)]
      refine ⟨fun g => absurd g (nI_ge (by omega) (by omega)), fun _ => ⟨inb_n (n := 576) rfl ix (by decide), fun g => ?_, fun g => ⟨rfl, Or.inr ⟨rfl, fun q => g (q.1 i hp (by omega))⟩⟩⟩⟩
      refine ih (i + 1) (by omega) (by omega) (fun c a b => ?_)
      by_cases hci : c = i
      · rw [hci]; exact g
      · exact hz c a (by omega)
  exact first (R - (p + 1)) (p + 1) (by omega) (by omega) (fun r a b => by omega)
theorem c_moveLeast {p : Nat} (H : HB R C m) (h : RX R C m E μ) (hpR : p < R) (hpC : p < C) : Ctr l ω M_X5_moveLeast [.ref 22, .int (nI p)] μ (fun v μ' => v = none ∧ kE μ μ' ∧ ∃ a b, p ≤ a ∧ a < R ∧ p ≤ b ∧ b < C ∧ (a = p ∨ b = p) ∧ (∀ r, p ≤ r → r < R → LE0 (E a b) (E r p)) ∧ (∀ c, p ≤ c → c < C → LE0 (E a b) (E p c)) ∧ RX R C m (fun r c => E (swp p a r) (swp p b c)) μ') := by
  have H' := H
  obtain ⟨hRC, hR, hC, m0, m46⟩ := H
  refine Ct_X5_moveLeast ?_
  rw [nI_add]
  have second : ∀ e i a b, i + e = C → p < i → p ≤ a → a < R → p ≤ b → b < C → (a = p ∨ b = p) → (∀ r, p ≤ r → r < R → LE0 (E a b) (E r p)) → (∀ c, p ≤ c → c < i → LE0 (E a b) (E p c)) → Good l ω M_X5_moveLeast 51 [.ref 22, .int (nI p), .int (nI a), .int (nI b), .int (nI i)] [] μ (fun v μ' => v = none ∧ kE μ μ' ∧ ∃ a b, p ≤ a ∧ a < R ∧ p ≤ b ∧ b < C ∧ (a = p ∨ b = p) ∧ (∀ r, p ≤ r → r < R → LE0 (E a b) (E r p)) ∧ (∀ c, p ≤ c → c < C → LE0 (E a b) (E p c)) ∧ RX R C m (fun r c => E (swp p a r) (swp p b c)) μ') := by
    intro e
    induction e with
    | zero =>
      intro i a b hi hp h1 h2 h3 h4 h5 h6 h7
      refine Tr_X5_moveLeast_51 ?_
      rw [h.2.1]
      refine ⟨fun _ => ex_q (c_swapRows H' h hpR h2) (fun v μ1 hq => ?_), fun g => absurd (nI_le (by omega) (by omega)) g⟩
      obtain ⟨rfl, d1, d2⟩ := hq
      refine Tr_X5_moveLeast_96 (ex_q (c_swapColumns H' d1 hpC h4) (fun v μ2 hq => ?_))
      obtain ⟨rfl, d3, d4⟩ := hq
      exact Tr_X5_moveLeast_102 ⟨rfl, kE_tr d2 d4, a, b, h1, h2, h3, h4, h5, h6, fun c q w => h7 c q (by omega), d3⟩
    | succ e ih =>
      intro i a b hi hp h1 h2 h3 h4 h5 h6 h7
      have hiC : i < C := by omega
      have ix := rc_ix hRC hpR hiC
      have ia := rc_ix hRC h2 h4
      have b1 := RX_b h hpR hiC
      have b2 := RX_b h h2 h4
      have ls := less_y b1.1 (by omega) b2.1 (by omega)
      refine Tr_X5_moveLeast_51 ?_
      rw [h.2.1, pk_mul, pk_mul, nI_add, nI_add, nI_add, cl_n (n := p * C + i) (by omega), cl_n (n := a * C + b) (by omega), RX_g h p i hpR hiC, RX_g h a b h2 h4]
      refine ⟨fun g => absurd g (nI_ge (by omega) (by omega)), fun _ => ⟨inb_n (n := 576) rfl ix (by decide), inb_n (n := 576) rfl ia (by decide), fun g => ?_, fun g => ?_⟩⟩
      · refine ih (i + 1) a b (by omega) (by omega) h1 h2 h3 h4 h5 h6 (fun c q w => ?_)
        by_cases hci : c = i
        · rw [hci]; exact ls.1 g
        · exact h7 c q (by omega)
      · have lt := ls.2 g
        refine ih (i + 1) p i (by omega) (by omega) (Nat.le_refl _) hpR (by omega) hiC (Or.inl rfl) (fun r q w => LE0_tr lt (h6 r q w)) (fun c q w => ?_)
        by_cases hci : c = i
        · rw [hci]; exact LE0_rf
        · exact LE0_tr lt (h7 c q (by omega))
  have first : ∀ e i a, i + e = R → p < i → p ≤ a → a < R → (∀ r, p ≤ r → r < i → LE0 (E a p) (E r p)) → Good l ω M_X5_moveLeast 9 [.ref 22, .int (nI p), .int (nI a), .int (nI p), .int (nI i)] [] μ (fun v μ' => v = none ∧ kE μ μ' ∧ ∃ a b, p ≤ a ∧ a < R ∧ p ≤ b ∧ b < C ∧ (a = p ∨ b = p) ∧ (∀ r, p ≤ r → r < R → LE0 (E a b) (E r p)) ∧ (∀ c, p ≤ c → c < C → LE0 (E a b) (E p c)) ∧ RX R C m (fun r c => E (swp p a r) (swp p b c)) μ') := by
    intro e
    induction e with
    | zero =>
      intro i a hi hp h1 h2 h3
      refine Tr_X5_moveLeast_9 ?_
      rw [h.1, nI_add]
      refine ⟨fun _ => second (C - (p + 1)) (p + 1) a p (by omega) (by omega) h1 h2 (Nat.le_refl _) hpC (Or.inr rfl) (fun r q w => h3 r q (by omega)) (fun c q w => ?_), fun g => absurd (nI_le (by omega) (by omega)) g⟩
      rw [show c = p by omega]; exact h3 p (Nat.le_refl _) (by omega)
    | succ e ih =>
      intro i a hi hp h1 h2 h3
      have hiR : i < R := by omega
      have ix := rc_ix hRC hiR hpC
      have ia := rc_ix hRC h2 hpC
      have b1 := RX_b h hiR hpC
      have b2 := RX_b h h2 hpC
      have ls := less_y b1.1 (by omega) b2.1 (by omega)
      refine Tr_X5_moveLeast_9 ?_
      rw [h.1, h.2.1, pk_mul, pk_mul, nI_add, nI_add, nI_add, nI_add, cl_n (n := i * C + p) (by omega), cl_n (n := a * C + p) (by omega), RX_g h i p hiR hpC, RX_g h a p h2 hpC]
      refine ⟨fun g => absurd g (nI_ge (by omega) (by omega)), fun _ => ⟨inb_n (n := 576) rfl ix (by decide), inb_n (n := 576) rfl ia (by decide), fun g => ?_, fun g => ?_⟩⟩
      · refine ih (i + 1) a (by omega) (by omega) h1 h2 (fun c q w => ?_)
        by_cases hci : c = i
        · rw [hci]; exact ls.1 g
        · exact h3 c q (by omega)
      · have lt := ls.2 g
        refine ih (i + 1) i (by omega) (by omega) (by omega) hiR (fun c q w => ?_)
        by_cases hci : c = i
        · rw [hci]; exact LE0_rf
        · exact LE0_tr lt (h3 c q (by omega))
  exact first (R - (p + 1)) (p + 1) p (by omega) (by omega) (Nat.le_refl _) hpR (fun r a b => by rw [show r = p by omega]; exact LE0_rf)
end IS

theorem em_d (x m : Int) : m ∣ x % m - x := by
  have := Int.emod_add_mul_ediv x m
  exact ⟨-(x / m), by rw [Int.mul_neg]; omega⟩
def ClE (E : MX) (p R C : Nat) : Prop := ∀ r c, r < R → c < C → r ≠ c → (r < p ∨ c < p) → E r c = 0
theorem red1 {y x m : Nat} (hx : 0 < x) (hy : y < m) (hxm : x < m) : ((y : Int) - ((y / x : Nat) : Int) * x) % m = (y : Int) % x := by
  have h1 := Nat.mod_add_div y x
  have h2 := Nat.mod_lt y hx
  have e : (y : Int) - ((y / x : Nat) : Int) * x = ((y % x : Nat) : Int) := by
    rw [← Int.natCast_mul, Nat.mul_comm]; omega
  rw [e, Int.emod_eq_of_lt (by omega) (by omega), Int.natCast_emod]
section RC6
variable {l : Launch} {ω : Wd} {μ : Mm} {R C m : Nat} {E : MX}
theorem c_reduceCross {p : Nat} (H : HB R C m) (h : RX R C m E μ) (hpR : p < R) (hpC : p < C) (hv : E p p ≠ 0) (hcl : ClE E p R C) : Ctr l ω M_X5_reduceCross [.ref 22, .int (nI p)] μ (fun v μ' => v = none ∧ kE μ μ' ∧ ∃ E' : MX, RX R C m E' μ' ∧ EQ m R C E E' ∧ E' p p = E p p ∧ (∀ r, p < r → r < R → E' r p = E r p % E p p) ∧ (∀ c, p < c → c < C → E' p c = E p c % E p p) ∧ ∀ r c, r < R → c < C → (r < p ∨ c < p) → E' r c = E r c) := by
  have H' := H
  obtain ⟨hRC, hR, hC, m0, m46⟩ := H
  obtain ⟨v0, v1⟩ := RX_b h hpR hpC
  obtain ⟨x, hx⟩ := Int.eq_ofNat_of_zero_le v0
  have x0 : 0 < x := by omega
  have xm : x < m := by omega
  have ip := rc_ix hRC hpR hpC
  have pz : decide (¬ lI (x : Int) = 0) = true := lI_n0 x0 (by omega)
  refine Ct_X5_reduceCross ?_
  have c0 : lg_cmp (lI (x : Int)) (lN 0) = 0 ↔ (x : Int) = ((0 : Nat) : Int) := by rw [lN_I]; exact cmp_0 (by omega) (by omega) (by decide) (by decide)
  rw [h.2.1, pk_mul, nI_add, cl_n (by omega), RX_g h p p hpR hpC, hx, c0, nI_add]
  refine ⟨inb_n (n := 576) rfl ip (by decide), fun _ => ?_, fun g => absurd (Decidable.not_not.mp g) (by omega)⟩
  have second : ∀ (E1 : MX) (μ1 : Mm), kE μ μ1 → RX R C m E1 μ1 → EQ m R C E E1 → (∀ c, c < C → E1 p c = E p c) → (∀ r, p < r → r < R → E1 r p = E r p % x) → (∀ r c, r < R → c < C → (r < p ∨ c < p) → E1 r c = E r c) → Good l ω M_X5_reduceCross 55 [.ref 22, .int (nI p), .long (lI (x : Int)), .null, .int (nI (p + 1))] [] μ1 (fun v μ' => v = none ∧ kE μ μ' ∧ ∃ E' : MX, RX R C m E' μ' ∧ EQ m R C E E' ∧ E' p p = x ∧ (∀ r, p < r → r < R → E' r p = E r p % x) ∧ (∀ c, p < c → c < C → E' p c = E p c % x) ∧ ∀ r c, r < R → c < C → (r < p ∨ c < p) → E' r c = E r c) := by
    intro E1 μ1 f1 f2 f3 f4 f5 f6
    refine upto1 (G := fun i μ2 => p < i → Good l ω M_X5_reduceCross 55 [.ref 22, .int (nI p), .long (lI (x : Int)), .null, .int (nI i)] [] μ2 _) (I := fun i μ2 => kE μ μ2 ∧ ∃ E2 : MX, RX R C m E2 μ2 ∧ EQ m R C E E2 ∧ (∀ r, r < R → E2 r p = E1 r p) ∧ (∀ c, p < c → c < C → c < i → E2 p c = E p c % x) ∧ (∀ r c, r < R → i ≤ c → c < C → E2 r c = E1 r c) ∧ ∀ r c, r < R → c < C → (r < p ∨ c < p) → E2 r c = E r c) C ?_ ?_ (p + 1) (by omega) μ1 ⟨f1, E1, f2, f3, fun _ _ => rfl, fun c a b w => by omega, fun _ _ _ _ _ => rfl, f6⟩ (by omega)
    · intro μ2 ⟨k1, E2, k2, k3, k4, k5, k6, k7⟩ _
      refine Tr_X5_reduceCross_55 ?_
      rw [k2.2.1]
      exact ⟨fun _ => ⟨rfl, k1, E2, k2, k3, by rw [k4 p hpR, f4 p hpC]; exact hx, fun r a b => by rw [k4 r b]; exact f5 r a b, fun c a b => k5 c a b b, k7⟩, fun g => absurd (nI_le (Nat.le_refl _) (by omega)) g⟩
    · intro i μ2 hiC ⟨k1, E2, k2, k3, k4, k5, k6, k7⟩ ih hpi
      have ii := rc_ix hRC hpR hiC
      have bi := RX_b h hpR hiC
      obtain ⟨y, hy⟩ := Int.eq_ofNat_of_zero_le bi.1
      have ey : E2 p i = (y : Int) := by rw [k6 p i hpR (Nat.le_refl _) hiC, f4 i hiC]; exact hy
      have e2p : E2 p p = (x : Int) := by rw [k4 p hpR, f4 p hpC]; exact hx
      refine Tr_X5_reduceCross_55 ?_
      have ed : lI (y : Int) / lI (x : Int) = lI ((y / x : Nat) : Int) := by rw [lI_div (by omega) (by omega) (by omega) (by omega)]; rfl
      have hq : y / x < m := Nat.lt_of_le_of_lt (Nat.div_le_self y x) (by omega)
      rw [k2.2.1, pk_mul, nI_add, cl_n (by omega), RX_g k2 p i hpR hiC, ey, ed]
      refine ⟨fun g => absurd g (nI_ge hiC (by omega)), fun _ => ⟨inb_n (n := 576) rfl ii (by decide), pz, ?_⟩⟩
      refine ex_q (c_subtractColumn H' k2 hiC hpC (by omega) hq) (fun v μ3 hq3 => ?_)
      obtain ⟨rfl, d1, d2⟩ := hq3
      refine Tr_X5_reduceCross_80 ?_
      rw [nI_add]
      refine ih μ3 ⟨kE_tr k1 d2, _, d1, EQ_tr k3 (EQ_subC (f := ((y / x : Nat) : Int)) hiC hpC (by omega) (fun r c hr hc => ?_)), fun r hr => ?_, fun c a b w => ?_, fun r c hr a b => ?_, fun r c hr hc w => ?_⟩ (by omega)
      · by_cases hci : c = i
        · rw [if_pos hci, if_pos hci]; exact em_d _ _
        · rw [if_neg hci, if_neg hci]; exact ⟨0, by omega⟩
      · try dsimp only
        rw [if_neg (by omega)]; exact k4 r hr
      · try dsimp only
        by_cases hci : c = i
        · rw [if_pos hci, ey, e2p, red1 x0 (by omega) xm, hci, hy]
        · rw [if_neg hci]; exact k5 c a b (by omega)
      · try dsimp only
        rw [if_neg (by omega)]; exact k6 r c hr (by omega) b
      · try dsimp only
        by_cases hci : c = i
        · subst hci
          have hrp : r < p := by omega
          have b := RX_b h hr hc
          rw [if_pos rfl, k7 r c hr hc w, k7 r p hr hpC (Or.inl hrp), hcl r p hr hpC (by omega) (Or.inl hrp), Int.mul_zero, Int.sub_zero, Int.emod_eq_of_lt b.1 b.2]
        · rw [if_neg hci]; exact k7 r c hr hc w
  refine upto1 (G := fun i μ2 => p < i → Good l ω M_X5_reduceCross 19 [.ref 22, .int (nI p), .long (lI (x : Int)), .null, .int (nI i)] [] μ2 _) (I := fun i μ2 => kE μ μ2 ∧ ∃ E2 : MX, RX R C m E2 μ2 ∧ EQ m R C E E2 ∧ (∀ c, c < C → E2 p c = E p c) ∧ (∀ r, p < r → r < R → r < i → E2 r p = E r p % x) ∧ (∀ r c, c < C → i ≤ r → r < R → E2 r c = E r c) ∧ ∀ r c, r < R → c < C → (r < p ∨ c < p) → E2 r c = E r c) R ?_ ?_ (p + 1) (by omega) μ ⟨kE_rf, E, h, EQ_rf, fun _ _ => rfl, fun c a b w => by omega, fun _ _ _ _ _ => rfl, fun _ _ _ _ _ => rfl⟩ (by omega)
  · intro μ2 ⟨k1, E2, k2, k3, k4, k5, k6, k7⟩ _
    refine Tr_X5_reduceCross_19 ?_
    rw [k2.1, nI_add]
    exact ⟨fun _ => second E2 μ2 k1 k2 k3 k4 (fun r a b => k5 r a b b) k7, fun g => absurd (nI_le (Nat.le_refl _) (by omega)) g⟩
  · intro i μ2 hiR ⟨k1, E2, k2, k3, k4, k5, k6, k7⟩ ih hpi
    have ii := rc_ix hRC hiR hpC
    have bi := RX_b h hiR hpC
    obtain ⟨y, hy⟩ := Int.eq_ofNat_of_zero_le bi.1
    have ey : E2 i p = (y : Int) := by rw [k6 i p hpC (Nat.le_refl _) hiR]; exact hy
    have e2p : E2 p p = (x : Int) := by rw [k4 p hpC]; exact hx
    refine Tr_X5_reduceCross_19 ?_
    have ed : lI (y : Int) / lI (x : Int) = lI ((y / x : Nat) : Int) := by rw [lI_div (by omega) (by omega) (by omega) (by omega)]; rfl
    have hq : y / x < m := Nat.lt_of_le_of_lt (Nat.div_le_self y x) (by omega)
    rw [k2.1, k2.2.1, pk_mul, nI_add, nI_add, cl_n (by omega), RX_g k2 i p hiR hpC, ey, ed]
    refine ⟨fun g => absurd g (nI_ge hiR (by omega)), fun _ => ⟨inb_n (n := 576) rfl ii (by decide), pz, ?_⟩⟩
    refine ex_q (c_subtractRow H' k2 hiR hpR (by omega) hq) (fun v μ3 hq3 => ?_)
    obtain ⟨rfl, d1, d2⟩ := hq3
    refine Tr_X5_reduceCross_44 ?_
    rw [nI_add]
    refine ih μ3 ⟨kE_tr k1 d2, _, d1, EQ_tr k3 (EQ_subR (f := ((y / x : Nat) : Int)) hiR hpR (by omega) (fun r c hr hc => ?_)), fun c hc => ?_, fun r a b w => ?_, fun r c hc a b => ?_, fun r c hr hc w => ?_⟩ (by omega)
    · by_cases hri : r = i
      · rw [if_pos hri, if_pos hri]; exact em_d _ _
      · rw [if_neg hri, if_neg hri]; exact ⟨0, by omega⟩
    · try dsimp only
      rw [if_neg (by omega)]; exact k4 c hc
    · try dsimp only
      by_cases hri : r = i
      · rw [if_pos hri, ey, e2p, red1 x0 (by omega) xm, hri, hy]
      · rw [if_neg hri]; exact k5 r a b (by omega)
    · try dsimp only
      rw [if_neg (by omega)]; exact k6 r c hc (by omega) b
    · try dsimp only
      by_cases hri : r = i
      · subst hri
        have hcp : c < p := by omega
        have b := RX_b h hr hc
        rw [if_pos rfl, k7 r c hr hc w, k4 c hc, hcl p c hpR hc (by omega) (Or.inr hcp), Int.mul_zero, Int.sub_zero, Int.emod_eq_of_lt b.1 b.2]
      · rw [if_neg hri]; exact k7 r c hr hc w
/-- a number that is not 0 beside the pivot -/
def oth (E : MX) (p R C : Nat) (w : Int) : Prop := (∃ r, p < r ∧ r < R ∧ E r p = w) ∨ ∃ c, p < c ∧ c < C ∧ E p c = w
theorem oth_b {μ : Mm} {p : Nat} {w : Int} (h : RX R C m E μ) (hpR : p < R) (hpC : p < C) (ho : oth E p R C w) : 0 ≤ w ∧ w < m := by
  rcases ho with ⟨r, _, b, rfl⟩ | ⟨c, _, b, rfl⟩
  · exact RX_b h b hpC
  · exact RX_b h hpR b
theorem oth_ex {p : Nat} (h : ¬ isoE E p R C) : ∃ w, oth E p R C w ∧ w ≠ 0 := by
  refine Classical.byContradiction (fun q => h ⟨fun r a b => ?_, fun c a b => ?_⟩)
  · refine Classical.byContradiction (fun z => q ⟨_, Or.inl ⟨r, a, b, rfl⟩, z⟩)
  · refine Classical.byContradiction (fun z => q ⟨_, Or.inr ⟨c, a, b, rfl⟩, z⟩)
theorem half {v v' : Int} (h0 : 0 < v') (h1 : v' < v) : 2 * (v % v') < v := by
  have h2 := Int.emod_lt_of_pos v h0
  have h3 := Int.emod_add_mul_ediv v v'
  have h4 : 1 ≤ v / v' := by
    have : v' * 1 ≤ v := by omega
    exact (Int.le_ediv_iff_mul_le h0).mpr (by omega)
  have h5 := Int.mul_le_mul_of_nonneg_left h4 (show (0 : Int) ≤ v' by omega)
  omega
theorem half0 {v v' : Int} (h0 : 0 < v') (h1 : v' < v) (hz : v % v' = 0) : 2 * v' ≤ v := by
  have h3 := Int.emod_add_mul_ediv v v'
  have h4 : 2 ≤ v / v' := by
    rcases Int.lt_or_le (v / v') 2 with q | q
    · have := Int.mul_le_mul_of_nonneg_left (show v / v' ≤ 1 by omega) (show (0 : Int) ≤ v' by omega)
      omega
    · exact q
  have h5 := Int.mul_le_mul_of_nonneg_left h4 (show (0 : Int) ≤ v' by omega)
  omega
/-- one round: the least number of the cross comes, the rest falls below it -/
theorem c_round {p : Nat} {Q : Option Value → Mm → Prop} {i : Nat} (H : HB R C m) (h : RX R C m E μ) (hpR : p < R) (hpC : p < C) (hcl : ClE E p R C) (hni : ¬ isoE E p R C) (K : ∀ (μ' : Mm) (E' : MX) (v' : Int), kE μ μ' → RX R C m E' μ' → EQ m R C E E' → E' p p = v' → 0 < v' → (∀ w, oth E p R C w → w ≠ 0 → v' ≤ w) → (E p p ≠ 0 → v' ≤ E p p) → (∀ w, oth E' p R C w → w < v') → (v' < E p p → (oth E' p R C (E p p % v'))) → (∀ r c, r < R → c < C → (r < p ∨ c < p) → E' r c = E r c) → Good l ω M_X2_isolatePivot 35 [.ref 21, .int (nI p), .int (nI i)] [] μ' Q) : ∃ Q1, Ctr l ω M_X5_moveLeast [.ref 22, .int (nI p)] μ Q1 ∧ ∀ v μ1, Q1 v μ1 → Good l ω M_X2_isolatePivot 27 [.ref 21, .int (nI p), .int (nI i)] (v.toList ++ []) μ1 Q := by
  refine ex_q (c_moveLeast H h hpR hpC) (fun v μ1 hq => ?_)
  obtain ⟨rfl, a1, a, b, b1, b2, b3, b4, b5, b6, b7, b8⟩ := hq
  obtain ⟨w0, ow0, nw0⟩ := oth_ex hni
  have le : ∀ w, oth E p R C w → LE0 (E a b) w := by
    intro w ow
    rcases ow with ⟨r, q1, q2, rfl⟩ | ⟨c, q1, q2, rfl⟩
    · exact b6 r (by omega) q2
    · exact b7 c (by omega) q2
  have hnz : E a b ≠ 0 := (le w0 ow0 nw0).1
  have hb := RX_b h b2 b4
  have epp : E (swp p a p) (swp p b p) = E a b := by rw [swp_l, swp_l]
  have swf : ∀ r c, (r < p ∨ c < p) → r < R → c < C → E (swp p a r) (swp p b c) = E r c := by
    intro r c hw hr hc
    by_cases h1 : r < p
    · rw [swp_o (a := p) (b := a) (by omega) (by omega)]
      by_cases h2 : c < p
      · rw [swp_o (by omega) (by omega)]
      · have h3 : p ≤ swp p b c := by rcases swp_or p b c with q | q | q <;> omega
        rw [hcl r _ hr (swp_lt hpC b4 hc) (by omega) (Or.inl h1), hcl r c hr hc (by omega) (Or.inl h1)]
    · have h2 : c < p := by omega
      have h3 : p ≤ swp p a r := by rcases swp_or p a r with q | q | q <;> omega
      rw [swp_o (a := p) (b := b) (r := c) (by omega) (by omega), hcl _ c (swp_lt hpR b2 hr) hc (by omega) (Or.inr h2), hcl r c hr hc (by omega) (Or.inr h2)]
  refine Tr_X2_isolatePivot_27 (ex_q (c_reduceCross H b8 hpR hpC (by rw [epp]; exact hnz) (fun r c hr hc hne hw => by rw [swf r c hw hr hc]; exact hcl r c hr hc hne hw)) (fun v μ2 hq => ?_))
  obtain ⟨rfl, c1, E', c2, c3, c4, c5, c6, c7⟩ := hq
  rw [epp] at c4 c5 c6
  refine K μ2 E' (E a b) (kE_tr a1 c1) c2 (EQ_tr (EQ_tr (EQ_swR hpR b2) (EQ_swC (A := fun r c => E (swp p a r) c) hpC b4)) c3) c4 (by omega) (fun w ow nw => (le w ow nw).2) (fun q => (b6 p (Nat.le_refl _) hpR q).2) (fun w ow => ?_) (fun hlt => ?_) (fun r c hr hc hw => by rw [c7 r c hr hc hw]; exact swf r c hw hr hc)
  · rcases ow with ⟨r, q1, q2, rfl⟩ | ⟨c, q1, q2, rfl⟩
    · rw [c5 r q1 q2]; exact Int.emod_lt_of_pos _ (by omega)
    · rw [c6 c q1 q2]; exact Int.emod_lt_of_pos _ (by omega)
  · rcases b5 with rfl | rfl
    · have hbp : a < b := by
        rcases Nat.lt_or_ge a b with q | q
        · exact q
        · have : b = a := by omega
          rw [this] at hlt; omega
      refine Or.inr ⟨b, hbp, b4, ?_⟩
      rw [c6 b hbp b4, swp_l, swp_r]
    · have hap : b < a := by
        rcases Nat.lt_or_ge b a with q | q
        · exact q
        · have : a = b := by omega
          rw [this] at hlt; omega
      refine Or.inl ⟨a, hap, b2, ?_⟩
      rw [c5 a hap b2, swp_l, swp_r]
theorem c_isolatePivot {p : Nat} (H : HB R C m) (hm : m ≤ 2 ^ 39) (h : RX R C m E μ) (hpR : p < R) (hpC : p < C) (hcl : ClE E p R C) : Ctr l ω M_X2_isolatePivot [.ref 21, .int (nI p)] μ (fun v μ' => v = none ∧ kE μ μ' ∧ ∃ E' : MX, RX R C m E' μ' ∧ EQ m R C E E' ∧ isoE E' p R C ∧ ∀ r c, r < R → c < C → (r < p ∨ c < p) → E' r c = E r c) := by
  refine Ct_X2_isolatePivot ?_
  have key : ∀ e i a b (E1 : MX) (μ1 : Mm), e + i = 81 → 0 < i → kE μ μ1 → RX R C m E1 μ1 → EQ m R C E E1 → (∀ r c, r < R → c < C → (r < p ∨ c < p) → E1 r c = E r c) → a + b + i = 80 → 0 < E1 p p → E1 p p < 2 ^ b → (∀ w, oth E1 p R C w → w < E1 p p) → (isoE E1 p R C ∨ ∃ w, oth E1 p R C w ∧ w ≠ 0 ∧ 2 * w < 2 ^ a) → Good l ω M_X2_isolatePivot 2 [.ref 21, .int (nI p), .int (nI i)] [] μ1 (fun v μ' => v = none ∧ kE μ μ' ∧ ∃ E' : MX, RX R C m E' μ' ∧ EQ m R C E E' ∧ isoE E' p R C ∧ ∀ r c, r < R → c < C → (r < p ∨ c < p) → E' r c = E r c) := by
    intro e
    induction e with
    | zero => intro i a b E1 μ1 he h0 f1 f2 f3 f4 f5; omega
    | succ e ih =>
      intro i a b E1 μ1 he h0 f1 f2 f3 f4 f5 f6 f7 f8 f9
      refine Tr_X2_isolatePivot_2 ⟨fun g => absurd g (nI_ge (by omega) (by omega)), fun _ => ex_q (c_isIsolated H f2 hpR hpC) (fun v μ2 hq => ?_)⟩
      obtain ⟨rfl, ⟨rfl, hi⟩ | ⟨rfl, hi⟩⟩ := hq
      · exact Tr_X2_isolatePivot_16 ⟨fun _ => ⟨rfl, f1, E1, f2, f3, hi, f4⟩, fun g => absurd nI1_ne g⟩
      · refine Tr_X2_isolatePivot_16 ⟨fun g => absurd nI0_eq g, fun _ => ?_⟩
        obtain ⟨w, w1, w2, w3⟩ := f9.resolve_left hi
        have wb := oth_b f2 hpR hpC w1
        refine c_round H f2 hpR hpC (fun r c hr hc hne hw => by rw [f4 r c hr hc hw]; exact hcl r c hr hc hne hw) hi (fun μ3 E2 v' g1 g2 g3 g4 g5 g6 g7 g8 g9 g10 => ?_)
        refine Tr_X2_isolatePivot_35 ?_
        rw [nI_add]
        have hvw := g6 w w1 w2
        have hw8 := f8 w w1
        have ha : a ≠ 0 := fun q => by rw [q] at w3; omega
        obtain ⟨a', rfl⟩ : ∃ a', a = a' + 1 := ⟨a - 1, by omega⟩
        rw [Int.pow_succ] at w3
        refine ih (i + 1) b a' E2 μ3 (by omega) (by omega) (kE_tr f1 g1) g2 (EQ_tr f3 g3) (fun r c hr hc hw => by rw [g10 r c hr hc hw]; exact f4 r c hr hc hw) (by omega) (by omega) (by omega) (fun w' ow' => by rw [g4]; exact g8 w' ow') ?_
        have hlt : v' < E1 p p := by omega
        have ot := g9 hlt
        by_cases hz : E1 p p % v' = 0
        · have h2 := half0 g5 hlt hz
          by_cases hi2 : isoE E2 p R C
          · exact Or.inl hi2
          · obtain ⟨w', o1, o2⟩ := oth_ex hi2
            have := g8 w' o1
            exact Or.inr ⟨w', o1, o2, by omega⟩
        · have h2 := half g5 hlt
          exact Or.inr ⟨_, ot, hz, by omega⟩
  refine Tr_X2_isolatePivot_2 ⟨fun g => absurd g (nI_ge (by omega) (by omega)), fun _ => ex_q (c_isIsolated H h hpR hpC) (fun v μ2 hq => ?_)⟩
  obtain ⟨rfl, ⟨rfl, hi⟩ | ⟨rfl, hi⟩⟩ := hq
  · exact Tr_X2_isolatePivot_16 ⟨fun _ => ⟨rfl, kE_rf, E, h, EQ_rf, hi, fun _ _ _ _ _ => rfl⟩, fun g => absurd nI1_ne g⟩
  · refine Tr_X2_isolatePivot_16 ⟨fun g => absurd nI0_eq g, fun _ => ?_⟩
    refine c_round H h hpR hpC hcl hi (fun μ3 E2 v' g1 g2 g3 g4 g5 g6 g7 g8 g9 g10 => ?_)
    refine Tr_X2_isolatePivot_35 ?_
    rw [nI_add]
    have bb := RX_b g2 hpR hpC
    rw [g4] at bb
    refine key 80 1 40 39 E2 μ3 (by omega) (by omega) g1 g2 g3 g10 (by omega) (by omega) (by have : ((2 : Int) ^ 39) = 549755813888 := by decide
                                                                                             omega) (fun w' ow' => by rw [g4]; exact g8 w' ow') ?_
    by_cases hi2 : isoE E2 p R C
    · exact Or.inl hi2
    · obtain ⟨w', o1, o2⟩ := oth_ex hi2
      have := g8 w' o1
      have : ((2 : Int) ^ 40) = 1099511627776 := by decide
      exact Or.inr ⟨w', o1, o2, by omega⟩
end RC6

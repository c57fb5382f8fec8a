/-! the reference's factor at a place -/
section FA
variable {l : Launch} {ω : Wd} {μ : Mm} {R C m : Nat} {W : MX}
theorem c_oddRow {t : Nat} (H : HW R C m) (h : RW R C m W μ) (htR : t < R) (htC : t < C) (hv : W t t ≠ 0) : Ctr l ω M_X7_oddRow [.ref 29, .int (nI t)] μ (fun v μ' => μ' = μ ∧ ((v = some (.int (-109)) ∧ ∀ r c, t < r → r < R → t < c → c < C → W t t ∣ W r c) ∨ ∃ o c, v = some (.int (nI o)) ∧ t < o ∧ o < R ∧ t < c ∧ c < C ∧ ¬ W t t ∣ W o c)) := by
  obtain ⟨hR, hC, m0, m46⟩ := H
  obtain ⟨v0, v1⟩ := RW_b h htR htC
  let P : (Nat → Nat → Prop) → Int32 → Prop := fun S x => (x = -109 ∧ ∀ r c, t < r → r < R → t < c → c < C → S r c → W t t ∣ W r c) ∨ ∃ o c, x = nI o ∧ t < o ∧ o < R ∧ t < c ∧ c < C ∧ ¬ W t t ∣ W o c
  have P_c : ∀ (S S' : Nat → Nat → Prop) x, (∀ r c, t < r → r < R → t < c → c < C → S' r c → S r c) → P S x → P S' x := by
    intro S S' x hs hp
    rcases hp with ⟨h1, h2⟩ | h1
    · exact Or.inl ⟨h1, fun r c a b a' b' q => h2 r c a b a' b' (hs r c a b a' b' q)⟩
    · exact Or.inr h1
  refine Ct_X7_oddRow ?_
  rw [nI_add]
  have pz : decide (¬ lI (W t t) = 0) = true := by
    obtain ⟨x, hx⟩ := Int.eq_ofNat_of_zero_le v0
    rw [hx]; exact lI_n0 (by omega) (by omega)
  refine upto1 (σ := Int32) (G := fun i x => t < i → Good l ω M_X7_oddRow 7 [.ref 29, .int (nI t), .int x, .int (nI i), .null] [] μ _) (I := fun i x => P (fun r _ => r < i) x) R ?_ ?_ (t + 1) (by omega) (-109) (Or.inl ⟨rfl, fun r c a b a' b' q => by omega⟩) (by omega)
  · intro x hp _
    refine Tr_X7_oddRow_7 ?_
    rw [h.1]
    refine ⟨fun _ => ⟨rfl, ?_⟩, fun g => absurd (nI_le (Nat.le_refl _) (by omega)) g⟩
    rcases hp with ⟨h1, h2⟩ | ⟨o, c, h1, h2⟩
    · exact Or.inl ⟨by rw [h1], fun r c a b a' b' => h2 r c a b a' b' b⟩
    · exact Or.inr ⟨o, c, by rw [h1], h2⟩
  · intro i x hi hp ih hti
    refine Tr_X7_oddRow_7 ?_
    rw [h.1, nI_add]
    refine ⟨fun g => absurd g (nI_ge hi (by omega)), fun _ => ?_⟩
    refine upto1 (σ := Int32) (G := fun j x => t < j → Good l ω M_X7_oddRow 20 [.ref 29, .int (nI t), .int x, .int (nI i), .int (nI j)] [] μ _) (I := fun j x => P (fun r c => r < i ∨ (r = i ∧ c < j)) x) C ?_ ?_ (t + 1) (by omega) x (P_c _ _ x (fun r c _ _ _ _ q => by omega) hp) (by omega)
    · intro x hp2 _
      refine Tr_X7_oddRow_20 ?_
      rw [h.2.1, nI_add]
      exact ⟨fun _ => ih x (P_c _ _ x (fun r c _ _ _ _ q => by omega) hp2) (by omega), fun g => absurd (nI_le (Nat.le_refl _) (by omega)) g⟩
    · intro j x hj hp2 ih2 htj
      have bj := RW_b h hi hj
      have mod := Int.emod_nonneg (W i j) hv
      have mod2 := Int.emod_lt_of_pos (W i j) (show 0 < W t t by omega)
      refine Tr_X7_oddRow_20 ?_
      rw [h.2.1, pk_mul, pk_mul, nI_add, nI_add, nI_add, nI_add, Nat.mul_comm 48, Nat.mul_comm 48, cl_n (n := i * 48 + j) (by omega), cl_n (n := t * 48 + t) (by omega), RW_g h i j hi hj, RW_g h t t htR htC, lI_mod (by omega) (by omega) (by omega) (by omega), lN_I, cmp_0 (by omega) (by omega) (by decide) (by decide)]
      refine ⟨fun g => absurd g (nI_ge hj (by omega)), fun _ => ⟨inb_n (n := 2304) rfl (by omega) (by decide), inb_n (n := 2304) rfl (by omega) (by decide), pz, fun g => ?_, fun g => ?_⟩⟩
      · refine ih2 x ?_ (by omega)
        rcases hp2 with ⟨h1, h2⟩ | h1
        · refine Or.inl ⟨h1, fun r c a b a' b' q => ?_⟩
          by_cases hq : r = i ∧ c = j
          · rw [hq.1, hq.2]; exact Int.dvd_of_emod_eq_zero g
          · exact h2 r c a b a' b' (by omega)
        · exact Or.inr h1
      · exact ih2 _ (Or.inr ⟨i, j, rfl, hti, hi, htj, hj, fun q => g (Int.emod_eq_zero_of_dvd q)⟩) (by omega)
theorem c_head {t : Nat} {Q : Option Value → Mm → Prop} (H : HW R C m) (h : RW R C m W μ) (htR : t < R) (htC : t < C) (hcl : ClE W t R C) (K0 : (∀ r c, t ≤ r → r < R → t ≤ c → c < C → W r c = 0) → Q (some (.long (lI m))) μ) (K : ∀ (μ' : Mm) (W' : MX) (v : Int) (s0 : Int32), kL 37 μ μ' → RW R C m W' μ' → EQ m R C W W' → PB m W W' t R C → (∀ r c, r < R → c < C → (r < t ∨ c < t) → W' r c = W r c) → W' t t = v → 0 < v → (∀ r c, t ≤ r → r < R → t ≤ c → c < C → W r c ≠ 0 → v ≤ W r c) → (∃ r c, t ≤ r ∧ r < R ∧ t ≤ c ∧ c < C ∧ W r c = v) → (W t t ≠ 0 → W t t ≤ v → ∀ c, t < c → c < C → W' t c = W t c % v) → (∀ w, oth W' t R C w → w < v) → ((s0 = nI 1 ∧ isoE W' t R C) ∨ (s0 = nI 0 ∧ ¬ isoE W' t R C)) → Good l ω M_X7_factorAt 13 [.ref 29, .int (nI t), .null] [.int s0] μ' Q) : Good l ω M_X7_factorAt 0 [.ref 29, .int (nI t), .null] [] μ Q := by
  refine Tr_X7_factorAt_0 (ex_q (c_takesLeast H h htR htC) (fun v μ1 hq => ?_))
  rcases hq with ⟨rfl, rfl, hz⟩ | ⟨rfl, k1, a, b, b1, b2, b3, b4, b5, b6, b7, b8⟩
  · refine Tr_X7_factorAt_5 ⟨fun _ => ?_, fun g => absurd nI0_eq g⟩
    rw [h.2.2.1]; exact K0 hz
  · have epp : W (swp t a t) (swp t b t) = W a b := by rw [swp_l, swp_l]
    have hb := RW_b h b2 b4
    have swf : ∀ r c, (r < t ∨ c < t) → r < R → c < C → W (swp t a r) (swp t b c) = W r c := by
      intro r c hw hr hc
      by_cases h1 : r < t
      · rw [swp_o (a := t) (b := a) (by omega) (by omega)]
        by_cases h2 : c < t
        · rw [swp_o (by omega) (by omega)]
        · have h3 : t ≤ swp t b c := by rcases swp_or t b c with q | q | q <;> omega
          rw [hcl r _ hr (swp_lt htC b4 hc) (by omega) (Or.inl h1), hcl r c hr hc (by omega) (Or.inl h1)]
      · have h2 : c < t := by omega
        have h3 : t ≤ swp t a r := by rcases swp_or t a r with q | q | q <;> omega
        rw [swp_o (a := t) (b := b) (r := c) (by omega) (by omega), hcl _ c (swp_lt htR b2 hr) hc (by omega) (Or.inr h2), hcl r c hr hc (by omega) (Or.inr h2)]
    refine Tr_X7_factorAt_5 ⟨fun g => absurd g nI1_ne, fun _ => ex_q (c_clearsCross H b8 htR htC (by rw [epp]; exact b5) (fun r c hr hc hne hw => by rw [swf r c hw hr hc]; exact hcl r c hr hc hne hw)) (fun v μ2 hq => ?_)⟩
    obtain ⟨W', s0, rfl, c1, c2, c3, c4, c5, c6, c7, c8, c9⟩ := hq
    rw [epp] at c6 c7 c8
    refine K μ2 W' (W a b) s0 (kL_tr k1 c1) c2 (EQ_tr (EQ_tr (EQ_swR htR b2) (EQ_swC (A := fun r c => W (swp t a r) c) htC b4)) c3) (PB_tr (fun g _ hg r c q1 q2 q3 q4 => hg _ _ (by rcases swp_or t a r with q | q | q <;> omega) (swp_lt htR b2 q2) (by rcases swp_or t b c with q | q | q <;> omega) (swp_lt htC b4 q4)) c4) (fun r c hr hc hw => by rw [c5 r c hr hc hw]; exact swf r c hw hr hc) c6 (by omega) b6 ⟨a, b, b1, b2, b3, b4, rfl⟩ (fun q1 q2 c q3 q4 => ?_) (fun w ow => ?_) c9
    · rcases b7 q1 with ⟨e1, e2⟩ | e
      · rw [c8 c q3 q4]
        have w1 : swp t a t = t := by rw [e1]; exact swp_l t t
        have w2 : swp t b c = c := by rw [e2]; exact swp_o (by omega) (by omega)
        rw [w1, w2]
      · omega
    · rcases ow with ⟨r, q1, q2, rfl⟩ | ⟨c, q1, q2, rfl⟩
      · rw [c7 r q1 q2]; exact Int.emod_lt_of_pos _ (by omega)
      · rw [c8 c q1 q2]; exact Int.emod_lt_of_pos _ (by omega)
abbrev QF (R C m : Nat) (W : MX) (t : Nat) (μ : Mm) : Option Value → Mm → Prop := fun v μ' => ∃ (F : Nat) (W' : MX), v = some (.long (lI F)) ∧ kL 37 μ μ' ∧ RW R C m W' μ' ∧ EQ m R C W W' ∧ PB m W W' t R C ∧ (∀ r c, r < R → c < C → (r < t ∨ c < t) → W' r c = W r c) ∧ isoE W' t R C ∧ F = Nat.gcd (W' t t).toNat m ∧ ∀ r c, t < r → r < R → t < c → c < C → (F : Int) ∣ W' r c
theorem c_factorAt {t : Nat} (H : HW R C m) (h : RW R C m W μ) (htR : t < R) (htC : t < C) (hcl : ClE W t R C) : Ctr l ω M_X7_factorAt [.ref 29, .int (nI t)] μ (QF R C m W t μ) := by
  have m0 := H.2.2.1
  have m46 := H.2.2.2
  have key : ∀ (n : Nat) (W1 : MX) (μ1 : Mm), kL 37 μ μ1 → RW R C m W1 μ1 → EQ m R C W W1 → PB m W W1 t R C → (∀ r c, r < R → c < C → (r < t ∨ c < t) → W1 r c = W r c) → ((∀ r c, t ≤ r → r < R → t ≤ c → c < C → W1 r c = 0) ∨ ∃ r c, t ≤ r ∧ r < R ∧ t ≤ c ∧ c < C ∧ W1 r c ≠ 0 ∧ W1 r c ≤ n) → Good l ω M_X7_factorAt 0 [.ref 29, .int (nI t), .null] [] μ1 (QF R C m W t μ) := by
    intro n
    induction n with
    | zero =>
      intro W1 μ1 f1 f2 f3 f4 f5 f6
      have fz : ∀ r c, t ≤ r → r < R → t ≤ c → c < C → W1 r c = 0 := by
        rcases f6 with q | ⟨r, c, q1, q2, q3, q4, q5, q6⟩
        · exact q
        · have := RW_b f2 q2 q4; omega
      refine c_head H f2 htR htC (fun r c hr hc hne hw => by rw [f5 r c hr hc hw]; exact hcl r c hr hc hne hw) (fun hz => ⟨m, W1, rfl, f1, f2, f3, f4, f5, ⟨fun r a b => hz r t (by omega) b (Nat.le_refl _) htC, fun c a b => hz t c (Nat.le_refl _) htR (by omega) b⟩, by rw [hz t t (Nat.le_refl _) htR (Nat.le_refl _) htC]; exact (Nat.gcd_zero_left m).symm, fun r c a b a' b' => by rw [hz r c (by omega) b (by omega) b']; exact ⟨0, by omega⟩⟩) (fun μ2 W2 v s0 g1 g2 g3 g4 g5 g6 g7 g8 g9 g10 g11 g12 => ?_)
      obtain ⟨r, c, q1, q2, q3, q4, q5⟩ := g9
      rw [fz r c q1 q2 q3 q4] at q5; omega
    | succ n ih =>
      intro W1 μ1 f1 f2 f3 f4 f5 f6
      have cl1 : ClE W1 t R C := fun r c hr hc hne hw => by rw [f5 r c hr hc hw]; exact hcl r c hr hc hne hw
      refine c_head H f2 htR htC cl1 (fun hz => ⟨m, W1, rfl, f1, f2, f3, f4, f5, ⟨fun r a b => hz r t (by omega) b (Nat.le_refl _) htC, fun c a b => hz t c (Nat.le_refl _) htR (by omega) b⟩, by rw [hz t t (Nat.le_refl _) htR (Nat.le_refl _) htC]; exact (Nat.gcd_zero_left m).symm, fun r c a b a' b' => by rw [hz r c (by omega) b (by omega) b']; exact ⟨0, by omega⟩⟩) (fun μ2 W2 v s0 g1 g2 g3 g4 g5 g6 g7 g8 g9 g10 g11 g12 => ?_)
      have hvn : v ≤ n + 1 := by
        rcases f6 with q | ⟨r, c, q1, q2, q3, q4, q5, q6⟩
        · obtain ⟨r, c, q1, q2, q3, q4, q5⟩ := g9
          rw [q r c q1 q2 q3 q4] at q5; omega
        · have := g8 r c q1 q2 q3 q4 q5; omega
      have k1 := kL_tr f1 g1
      have k3 := EQ_tr f3 g3
      have k4 := PB_tr f4 g4
      have k5 : ∀ r c, r < R → c < C → (r < t ∨ c < t) → W2 r c = W r c := fun r c hr hc hw => by rw [g5 r c hr hc hw]; exact f5 r c hr hc hw
      have low : ∀ (E : MX) (v' : Int), (∀ w, oth E t R C w → w < v') → v' ≤ n + 1 → ¬ isoE E t R C → ∃ r c, t ≤ r ∧ r < R ∧ t ≤ c ∧ c < C ∧ E r c ≠ 0 ∧ E r c ≤ n := by
        intro E v' ho hv' hni
        obtain ⟨w, o1, o2⟩ := oth_ex hni
        have := ho w o1
        rcases o1 with ⟨r, q1, q2, q3⟩ | ⟨c, q1, q2, q3⟩
        · exact ⟨r, t, by omega, q2, Nat.le_refl _, htC, by rw [q3]; exact o2, by omega⟩
        · exact ⟨t, c, Nat.le_refl _, htR, by omega, q2, by rw [q3]; exact o2, by omega⟩
      rcases g12 with ⟨rfl, hi⟩ | ⟨rfl, hi⟩
      · refine Tr_X7_factorAt_13 ⟨fun g => absurd g nI1_ne, fun _ => ex_q (c_oddRow H g2 htR htC (by omega)) (fun u μ3 hq => ?_)⟩
        obtain ⟨rfl, ⟨rfl, hd⟩ | ⟨o, c0, rfl, o1, o2, o3, o4, o5⟩⟩ := hq
        · have bt := RW_b g2 htR htC
          have et : W2 t t = ((W2 t t).toNat : Int) := (Int.toNat_of_nonneg bt.1).symm
          have h48 := H.1
          have h48' := H.2.1
          refine Tr_X7_factorAt_21 ⟨fun g => absurd g (by decide), fun _ => ?_⟩
          rw [pk_mul, nI_add, Nat.mul_comm 48, cl_n (by omega), RW_g g2 t t htR htC, g2.2.2.1, et]
          refine ⟨inb_n (n := 2304) rfl (by omega) (by decide), ex_l (c_common m (W2 t t).toNat (by omega) (by omega)) (Tr_X7_factorAt_44 ⟨_, W2, rfl, k1, g2, k3, k4, k5, hi, rfl, fun r c a b a' b' => ?_⟩)⟩
          refine Int.dvd_trans ?_ (hd r c a b a' b')
          rw [et]
          exact Int.ofNat_dvd.mpr (Nat.gcd_dvd_left _ _)
        · have h48 := H.1
          refine Tr_X7_factorAt_21 ⟨fun _ => ?_, fun g => absurd (nI_pos' (by omega)) g⟩
          rw [lN_I]
          refine ex_q (c_addRow (f := 1) H g2 htR o2 (by omega) (by omega)) (fun u μ4 hq => ?_)
          obtain ⟨rfl, a1, a2⟩ := hq
          refine Tr_X7_factorAt_52 ?_
          generalize hE : (fun r c => if r = t then (W2 t c + ((1 : Nat) : Int) * W2 o c) % (m : Int) else W2 r c) = E at a2
          have Et : ∀ c, E t c = (W2 t c + ((1 : Nat) : Int) * W2 o c) % (m : Int) := fun c => by rw [← hE]; exact if_pos rfl
          have Eo : ∀ r c, r ≠ t → E r c = W2 r c := fun r c hr => by rw [← hE]; exact if_neg hr
          have b1 := RW_b g2 htR htC
          have Ett : E t t = v := by
            rw [Et, hi.1 o o1 o2, Int.mul_zero, Int.add_zero, Int.emod_eq_of_lt b1.1 b1.2]; exact g6
          have b2 := RW_b g2 o2 o4
          have Etc : E t c0 = W2 o c0 := by
            rw [Et, hi.2 c0 o3 o4, Int.zero_add, show ((1 : Nat) : Int) = 1 from rfl, Int.one_mul, Int.emod_eq_of_lt b2.1 b2.2]
          have q1 := kL_tr k1 a1
          have q3 : EQ m R C W E := EQ_tr k3 (EQ_subR (f := -1) htR o2 (by omega) (fun r c hr hc => by
            by_cases hrt : r = t
            · rw [hrt, if_pos rfl, Et, show W2 t c - -1 * W2 o c = W2 t c + ((1 : Nat) : Int) * W2 o c by omega]; exact em_d _ _
            · rw [if_neg hrt, Eo r c hrt]; exact ⟨0, by omega⟩))
          have q4 : PB m W E t R C := PB_tr k4 (fun g hg hb r c x1 x2 x3 x4 => by
            by_cases hrt : r = t
            · rw [hrt, Et]
              exact dv_em hg (Int.dvd_add (hb t c (Nat.le_refl _) htR x3 x4) (Int.dvd_mul_of_dvd_right (hb o c (by omega) o2 x3 x4)))
            · rw [Eo r c hrt]; exact hb r c x1 x2 x3 x4)
          have cl2 : ClE W2 t R C := fun r c hr hc hne hw => by rw [k5 r c hr hc hw]; exact hcl r c hr hc hne hw
          have q5 : ∀ r c, r < R → c < C → (r < t ∨ c < t) → E r c = W r c := by
            intro r c hr hc hw
            by_cases hrt : r = t
            · have hct : c < t := by omega
              have b3 := RW_b g2 htR hc
              rw [hrt, Et, cl2 o c o2 hc (by omega) (Or.inr hct), Int.mul_zero, Int.add_zero, Int.emod_eq_of_lt b3.1 b3.2]
              exact k5 t c htR hc (Or.inr hct)
            · rw [Eo r c hrt]; exact k5 r c hr hc hw
          by_cases hlow : ∃ r c, t ≤ r ∧ r < R ∧ t ≤ c ∧ c < C ∧ E r c ≠ 0 ∧ E r c ≤ n
          · exact ih E μ4 q1 a2 q3 q4 q5 (Or.inr hlow)
          · have hall : ∀ r c, t ≤ r → r < R → t ≤ c → c < C → E r c ≠ 0 → (n : Int) + 1 ≤ E r c := by
              intro r c x1 x2 x3 x4 x5
              rcases Int.lt_or_le (n : Int) (E r c) with w | w
              · omega
              · exact absurd ⟨r, c, x1, x2, x3, x4, x5, w⟩ hlow
            refine c_head H a2 htR htC (fun r c hr hc hne hw => by rw [q5 r c hr hc hw]; exact hcl r c hr hc hne hw) (fun hz => by
              have := hz t t (Nat.le_refl _) htR (Nat.le_refl _) htC
              rw [Ett] at this; omega) (fun μ5 W5 v5 s5 e1 e2 e3 e4 e5 e6 e7 e8 e9 e10 e11 e12 => ?_)
            have hv5 : v5 ≤ v := by
              have := e8 t t (Nat.le_refl _) htR (Nat.le_refl _) htC (by omega)
              omega
            have hv5' : v ≤ v5 := by
              obtain ⟨r, c, x1, x2, x3, x4, x5⟩ := e9
              have := hall r c x1 x2 x3 x4 (by omega)
              omega
            have hveq : v5 = v := by omega
            have nz : W5 t c0 ≠ 0 := by
              rw [e10 (by omega) (by omega) c0 o3 o4, Etc, hveq]
              intro q
              apply o5
              rw [g6]
              exact Int.dvd_of_emod_eq_zero q
            have hni : ¬ isoE W5 t R C := fun q => nz (q.2 c0 o3 o4)
            rcases e12 with ⟨_, w⟩ | ⟨rfl, _⟩
            · exact absurd w hni
            · refine Tr_X7_factorAt_13 ⟨fun _ => ?_, fun g => absurd nI0_eq g⟩
              exact ih W5 μ5 (kL_tr q1 e1) e2 (EQ_tr q3 e3) (PB_tr q4 e4) (fun r c hr hc hw => by rw [e5 r c hr hc hw]; exact q5 r c hr hc hw) (Or.inr (low W5 v5 e11 (by omega) hni))
      · refine Tr_X7_factorAt_13 ⟨fun _ => ?_, fun g => absurd nI0_eq g⟩
        exact ih W2 μ2 k1 g2 k3 k4 k5 (Or.inr (low W2 v g11 hvn hi))
  have start := key m W μ kL_rf h EQ_rf PB_rf (fun _ _ _ _ _ => rfl) (by
    by_cases hz : ∀ r c, t ≤ r → r < R → t ≤ c → c < C → W r c = 0
    · exact Or.inl hz
    · refine Or.inr (Classical.byContradiction (fun q => hz (fun r c x1 x2 x3 x4 => Classical.byContradiction (fun w => q ⟨r, c, x1, x2, x3, x4, w, by have := RW_b h x2 x4; omega⟩)))))
  exact ctr_of (by decide +kernel) rfl (Nat.le_of_ble_eq_true rfl) start
end FA

/-! the reference's rank by a prime -/
def kB (μ μ' : Mm) : Prop := (∀ q k, q ≠ 38 → q ≠ 39 → q ≠ 40 → ss_i μ' q k = ss_i μ q k) ∧ μ'.2.2 = μ.2.2 ∧ ∀ q k, q ≠ 37 → ss_l μ' q k = ss_l μ q k
theorem kB_rf {μ : Mm} : kB μ μ := ⟨fun _ _ _ _ _ => rfl, rfl, fun _ _ _ => rfl⟩
theorem kB_tr {μ μ1 μ2 : Mm} (h : kB μ μ1) (g : kB μ1 μ2) : kB μ μ2 := ⟨fun q k a b c => (g.1 q k a b c).trans (h.1 q k a b c), g.2.1.trans h.2.1, fun q k a => (g.2.2 q k a).trans (h.2.2 q k a)⟩
theorem kB_wi {μ : Mm} {p k : Nat} {v : Int32} (hp : p = 38 ∨ p = 39 ∨ p = 40) : kB μ (ss_wi μ p k v) := ⟨fun q j a b c => by rw [ri_wi, if_neg (by omega)], rfl, fun _ _ _ => rfl⟩
theorem kB_L {μ μ' : Mm} (h : kL 37 μ μ') : kB μ μ' := ⟨fun q k _ _ _ => kL_i h q k, h.2.1, h.2.2⟩
theorem kB_H {μ μ' : Mm} (h : kB μ μ') : kH μ μ' := ⟨fun q k a => h.1 q k (by omega) (by omega) (by omega), h.2.1⟩
section RB
variable {l : Launch} {ω : Wd} {μ : Mm} {R C p : Nat} {M : MX}
/-- the reference's matrix, as longs -/
def MI (R C : Nat) (M : MX) (μ : Mm) : Prop := ∀ r c, r < R → c < C → Int32.toInt64 (ss_i μ 36 (r * 48 + c)) = lI (M r c) ∧ -5 ≤ M r c ∧ M r c ≤ 5
theorem c_rankBy (hp : prm p) (p31 : p < 2 ^ 31) (hr : ss_i μ 29 12 = nI R) (hcl : ss_i μ 29 13 = nI C) (hR : R ≤ 48) (hC : C ≤ 48) (hM : MI R C M μ) : Ctr l ω M_X7_rankBy [.ref 29, .long (lI p)] μ (fun v μ' => ∃ (k : Nat) (π J : Nat → Nat), v = some (.int (nI k)) ∧ kB μ μ' ∧ RK p R C M k π J ∧ ∀ i, i < k → ss_i μ' 39 i = nI (π i) ∧ ss_i μ' 40 i = nI (J i)) := by
  have hp2 := hp.1
  have pz : decide (¬ lI (p : Int) = 0) = true := lI_n0 (by omega) (by omega)
  refine Ct_X7_rankBy ?_
  -- columns
  have main : ∀ μ0, kB μ μ0 → GR 37 48 R C (fun r c => M r c % p) μ0 → (∀ r, r < R → ss_i μ0 38 r = nI 0) → Good l ω M_X7_rankBy 75 [.ref 29, .long (lI p), .null, .int (nI 0), .int (nI 0), .null, .null] [] μ0 (fun v μ' => ∃ (k : Nat) (π J : Nat → Nat), v = some (.int (nI k)) ∧ kB μ μ' ∧ RK p R C M k π J ∧ ∀ i, i < k → ss_i μ' 39 i = nI (π i) ∧ ss_i μ' 40 i = nI (J i)) := by
    intro μ0 hk0 hg0 hu0
    refine upto1 (σ := Nat × Mm) (G := fun col s => Good l ω M_X7_rankBy 75 [.ref 29, .long (lI p), .null, .int (nI s.1), .int (nI col), .null, .null] [] s.2 _) (I := fun col s => ∃ (W : MX) (π J : Nat → Nat) (u : Nat → Bool), kB μ s.2 ∧ GR 37 48 R C W s.2 ∧ (∀ r c, r < R → c < C → 0 ≤ W r c ∧ W r c < p) ∧ EI p R C s.1 col M (fun r c => W (π r) c) π J ∧ s.1 ≤ col ∧ (∀ i, i < s.1 → W (π i) (J i) ≠ 0) ∧ (∀ a b, a < R → b < R → π a = π b → a = b) ∧ (∀ x, x < R → ∃ r, r < R ∧ π r = x) ∧ (∀ r, r < R → (ss_i s.2 38 r = 0 ↔ u r = false)) ∧ (∀ r, r < R → (u (π r) = true ↔ r < s.1)) ∧ ∀ i, i < s.1 → ss_i s.2 39 i = nI (π i) ∧ ss_i s.2 40 i = nI (J i)) C ?_ ?_ 0 (by omega) (0, μ0) ⟨fun r c => M r c % p, fun r => r, fun _ => 0, fun _ => false, hk0, hg0, fun r c _ _ => ⟨Int.emod_nonneg _ (by omega), Int.emod_lt_of_pos _ (by omega)⟩, EI_0 (fun r c _ _ => by
      have := Int.emod_add_mul_ediv (M r c) p
      exact ⟨-(M r c / p), by show M r c % p - M r c = _; rw [Int.mul_neg]; omega⟩), Nat.le_refl _, fun i hi => absurd hi (Nat.not_lt_zero i), fun a b _ _ h => h, fun x hx => ⟨x, hx, rfl⟩, fun r hr => by rw [hu0 r hr]; exact ⟨fun _ => rfl, fun _ => nI0_eq⟩, fun r hr => ⟨fun q => absurd (show false = true from q) (by decide), fun q => absurd q (Nat.not_lt_zero r)⟩, fun i hi => absurd hi (Nat.not_lt_zero i)⟩
    · intro ⟨k, μ1⟩ ⟨W, π, J, u, k1, k2, k3, k4, k5, k6, k7, k8, k9, k10, k11⟩
      dsimp only at k1 k2 k4 k5 k6 k9 k10 k11 ⊢
      refine Tr_X7_rankBy_75 ?_
      rw [k1.1 29 13 (by decide) (by decide) (by decide), hcl]
      refine ⟨fun _ => ⟨k, π, J, rfl, k1, ⟨k4.kR, k5, EI_phi k4, fun i hi => ⟨k4.b i (by have := k4.kR; omega), k4.j i hi⟩, fun q => ?_⟩, k11⟩, fun g => absurd (nI_le (Nat.le_refl _) (by omega)) g⟩
      have h1 := EI_det k4 (Nat.le_refl _)
      have h2 := Int.dvd_add h1 q
      rw [Int.sub_add_cancel] at h2
      refine prm_prod hp (fun i hi => ?_) h2
      have := k3 (π i) (J i) (k4.b i (by have := k4.kR; omega)) (k4.j i hi)
      have := k6 i hi
      omega
    · intro col ⟨k, μ1⟩ hcol ⟨W, π, J, u, k1, k2, k3, k4, k5, k6, k7, k8, k9, k10, k11⟩ ih
      dsimp only at k1 k2 k4 k5 k6 k9 k10 k11 ⊢
      have hkR := k4.kR
      have e12 : ss_i μ1 29 12 = nI R := by rw [k1.1 29 12 (by decide) (by decide) (by decide)]; exact hr
      have e13 : ss_i μ1 29 13 = nI C := by rw [k1.1 29 13 (by decide) (by decide) (by decide)]; exact hcl
      refine Tr_X7_rankBy_75 ?_
      rw [e13]
      refine ⟨fun g => absurd g (nI_ge hcol (by omega)), fun _ => ?_⟩
      -- no pivot
      have nne : (∀ r, r < R → u r = false → W r col = 0) → Good l ω M_X7_rankBy 148 [.ref 29, .long (lI p), .null, .int (nI k), .int (nI col), .int (-109), .null] [] μ1 (fun v μ' => ∃ (k : Nat) (π J : Nat → Nat), v = some (.int (nI k)) ∧ kB μ μ' ∧ RK p R C M k π J ∧ ∀ i, i < k → ss_i μ' 39 i = nI (π i) ∧ ss_i μ' 40 i = nI (J i)) := by
        intro hz
        refine Tr_X7_rankBy_148 ⟨fun _ => Tr_X7_rankBy_189 ?_, fun g => absurd (by decide) g⟩
        rw [nI_add]
        refine ih (k, μ1) ⟨W, π, J, u, k1, k2, k3, EI_skip k4 (fun r h1 h2 => hz _ (k4.b r h2) ?_), Nat.le_succ_of_le k5, k6, k7, k8, k9, k10, k11⟩
        cases hu : u (π r) with
        | false => rfl
        | true => exact absurd ((k10 r h2).mp hu) (by omega)
      -- a pivot
      have sme : ∀ pv, pv < R → u pv = false → W pv col ≠ 0 → Good l ω M_X7_rankBy 148 [.ref 29, .long (lI p), .null, .int (nI k), .int (nI col), .int (nI pv), .null] [] μ1 (fun v μ' => ∃ (k : Nat) (π J : Nat → Nat), v = some (.int (nI k)) ∧ kB μ μ' ∧ RK p R C M k π J ∧ ∀ i, i < k → ss_i μ' 39 i = nI (π i) ∧ ss_i μ' 40 i = nI (J i)) := by
        intro pv hpv hupv hW
        obtain ⟨r0, hr0, hπ0⟩ := k8 pv hpv
        have hk0 : k ≤ r0 := by
          rcases Nat.lt_or_ge r0 k with q | q
          · have := (k10 r0 hr0).mpr q
            rw [hπ0, hupv] at this
            exact absurd this (by decide)
          · exact q
        have sw : ∀ i, i < k → swp k r0 i = i := fun i hi => swp_o (by omega) (by omega)
        refine Tr_X7_rankBy_148 ⟨fun g => absurd g (nI_pos (by omega)), fun _ => ?_⟩
        rw [nz1, cl_n (n := pv) (by omega), cl_n (n := k) (by omega)]
        refine ⟨inb_n (n := 48) rfl (by omega) (by decide), inb_n (n := 48) rfl (by omega) (by decide), inb_n (n := 48) rfl (by omega) (by decide), ?_⟩
        let u' : Nat → Bool := fun x => if x = pv then true else u x
        have hu' : ∀ r, r < R → (ss_i (ss_wi (ss_wi (ss_wi μ1 38 pv (nI 1)) 39 k (nI pv)) 40 k (nI col)) 38 r = 0 ↔ u' r = false) := by
          intro r hr
          rw [ri_wi, if_neg (by omega), ri_wi, if_neg (by omega), ri_wi]
          by_cases hrp : r = pv
          · rw [if_pos ⟨rfl, hrp⟩]
            have : u' r = true := if_pos hrp
            rw [this]
            exact ⟨fun q => absurd q nI1_ne, fun q => absurd q (by decide)⟩
          · rw [if_neg (fun q => hrp q.2)]
            have : u' r = u r := if_neg hrp
            rw [this]; exact k9 r hr
        refine ex_q (c_clearColumn (u := u') (pv := pv) (col := col) hp p31 (by rw [ri_wi, if_neg (by omega), ri_wi, if_neg (by omega), ri_wi, if_neg (by omega)]; exact e12) (by rw [ri_wi, if_neg (by omega), ri_wi, if_neg (by omega), ri_wi, if_neg (by omega)]; exact e13) hR hC (F := W) (fun r c h1 h2 => k2 r c h1 h2) k3 hu' hpv (if_pos rfl) hcol hW) (fun v μ2 hq => ?_)
        obtain ⟨rfl, a1, f, a2, a3⟩ := hq
        refine Tr_X7_rankBy_189 ?_
        rw [nI_add, nI_add]
        -- the new order of rows
        have s1 := EI_swap (E' := fun r c => W (π (swp k r0 r)) c) k4 hk0 hr0 (by omega) (fun _ _ _ _ => rfl)
        have swlt : ∀ r, r < R → swp k r0 r < R := fun r h => swp_lt (by omega) hr0 h
        have inj' : ∀ a b, a < R → b < R → π (swp k r0 a) = π (swp k r0 b) → a = b := by
          intro a b ha hb h
          have := k7 _ _ (swlt a ha) (swlt b hb) h
          rw [← swp_inv k r0 a, this, swp_inv]
        have πk : π (swp k r0 k) = pv := by rw [swp_l]; exact hπ0
        have ule : ∀ r, r ≤ k → u' (π (swp k r0 r)) = true := by
          intro r hrk
          by_cases hrk' : r = k
          · rw [hrk', πk]; exact if_pos rfl
          · rw [sw r (by omega)]
            show (if π r = pv then true else u (π r)) = true
            by_cases q : π r = pv
            · rw [if_pos q]
            · rw [if_neg q]; exact (k10 r (by omega)).mpr (by omega)
        have ugt : ∀ r, k < r → r < R → u' (π (swp k r0 r)) = false := by
          intro r hrk hrR
          show (if π (swp k r0 r) = pv then true else u (π (swp k r0 r))) = false
          rw [if_neg (fun q => by
            have := inj' r k hrR (by omega) (by rw [q, πk])
            omega)]
          have hge : k ≤ swp k r0 r := by rcases swp_or k r0 r with w | w | w <;> omega
          cases hu : u (π (swp k r0 r)) with
          | false => rfl
          | true => exact absurd ((k10 _ (swlt r hrR)).mp hu) (by omega)
        have s2 := EI_clear (E' := fun r c => (fun r c => if u' r = false ∧ col ≤ c then (W r c - f r * W pv c) % p else W r c) (π (swp k r0 r)) c) (fun r => f (π (swp k r0 r))) s1 (by omega) hcol (fun r c h1 _ => by
          show (if u' (π (swp k r0 r)) = false ∧ col ≤ c then _ else _) = _
          rw [if_neg (fun q => by rw [ule r h1] at q; exact absurd q.1 (by decide))]) (fun r c h1 h2 h3 => by
          show (p : Int) ∣ (if u' (π (swp k r0 r)) = false ∧ col ≤ c then (W (π (swp k r0 r)) c - f (π (swp k r0 r)) * W pv c) % p else W (π (swp k r0 r)) c) - (W (π (swp k r0 r)) c - f (π (swp k r0 r)) * W (π (swp k r0 k)) c)
          rw [πk]
          by_cases hcc : col ≤ c
          · rw [if_pos ⟨ugt r h1 h2, hcc⟩]
            have := Int.emod_add_mul_ediv (W (π (swp k r0 r)) c - f (π (swp k r0 r)) * W pv c) p
            exact ⟨-((W (π (swp k r0 r)) c - f (π (swp k r0 r)) * W pv c) / p), by rw [Int.mul_neg]; omega⟩
          · rw [if_neg (fun q => hcc q.2)]
            have := s1.z k c (Nat.le_refl _) (by omega) (by omega)
            rw [πk] at this
            rw [this, Int.mul_zero]
            exact ⟨0, by omega⟩) (fun r c h1 h2 h3 => by
          show (if u' (π (swp k r0 r)) = false ∧ col ≤ c then (W (π (swp k r0 r)) c - f (π (swp k r0 r)) * W pv c) % p else W (π (swp k r0 r)) c) = 0
          by_cases hcc : c = col
          · rw [if_pos ⟨ugt r h1 h2, by omega⟩, hcc]
            exact Int.emod_eq_zero_of_dvd (a2 _ (k4.b _ (swlt r h2)) (ugt r h1 h2))
          · rw [if_neg (by omega)]
            exact s1.z r c (by omega) h2 (by omega))
        refine ih (k + 1, μ2) ⟨_, fun r => π (swp k r0 r), _, u', kB_tr k1 (kB_tr (kB_wi (by omega)) (kB_tr (kB_wi (by omega)) (kB_tr (kB_wi (by omega)) (kB_L a1)))), a3, fun r c h1 h2 => ?_, s2, Nat.succ_le_succ k5, fun i hi => ?_, inj', fun x hx => ?_, fun r hr => ?_, fun r hr => ?_, fun i hi => ?_⟩
        · try dsimp only
          by_cases hq : u' r = false ∧ col ≤ c
          · rw [if_pos hq]; exact ⟨Int.emod_nonneg _ (by omega), Int.emod_lt_of_pos _ (by omega)⟩
          · rw [if_neg hq]; exact k3 r c h1 h2
        · dsimp only at hi ⊢
          rw [if_neg (fun q => by rw [ule i (by omega)] at q; exact absurd q.1 (by decide))]
          by_cases hik : i < k
          · rw [if_pos hik, sw i hik]; exact k6 i hik
          · rw [if_neg hik, show i = k by omega, πk]; exact hW
        · obtain ⟨r, h1, h2⟩ := k8 x hx
          exact ⟨swp k r0 r, swlt r h1, by dsimp only; rw [swp_inv]; exact h2⟩
        · dsimp only
          rw [kL_i a1]; exact hu' r hr
        · dsimp only
          refine ⟨fun q => ?_, fun q => ule r (by omega)⟩
          rcases Nat.lt_or_ge k r with w | w
          · rw [ugt r w hr] at q; exact absurd q (by decide)
          · omega
        · dsimp only at hi ⊢
          rw [kL_i a1, kL_i a1]
          by_cases hik : i < k
          · have := k11 i hik
            rw [ri_wi, if_neg (by omega), ri_wi, if_neg (by omega), ri_wi, if_neg (by omega), ri_wi, if_neg (by omega), ri_wi, if_neg (by omega), ri_wi, if_neg (by omega), if_pos hik, sw i hik]
            exact this
          · have hik' : i = k := by omega
            rw [ri_wi, if_neg (by omega), ri_wi, if_pos ⟨rfl, hik'⟩, ri_wi, if_pos ⟨rfl, hik'⟩, if_neg hik, hik', πk]
            exact ⟨rfl, rfl⟩
      -- the search
      have key : ∀ e i, i + e = R → (∀ r, r < i → u r = false → W r col = 0) → Good l ω M_X7_rankBy 91 [.ref 29, .long (lI p), .null, .int (nI k), .int (nI col), .int (-109), .int (nI i)] [] μ1 (fun v μ' => ∃ (k : Nat) (π J : Nat → Nat), v = Option.some (.int (nI k)) ∧ kB μ μ' ∧ RK p R C M k π J ∧ ∀ i, i < k → ss_i μ' 39 i = nI (π i) ∧ ss_i μ' 40 i = nI (J i)) := by
        intro e
        induction e with
        | zero =>
          intro i hi hz
          refine Tr_X7_rankBy_91 ?_
          rw [e12]
          exact ⟨fun _ => nne (fun r hr => hz r (by omega)), fun g => absurd (nI_le (by omega) (by omega)) g⟩
        | succ e ihe =>
          intro i hi hz
          have hiR : i < R := by omega
          have gi := k2 i col hiR hcol
          have bi := k3 i col hiR hcol
          refine Tr_X7_rankBy_91 ?_
          rw [e12, cl_n (n := i) (by omega), k9 i hiR, pk_mul, nI_add, nI_add, Nat.mul_comm 48, cl_n (by omega), gi, lN_I, cmp_0 (by omega) (by omega) (by decide) (by decide)]
          refine ⟨fun g => absurd g (nI_ge hiR (by omega)), fun _ => ⟨fun g => absurd g (by decide), fun _ => ⟨inb_n (n := 48) rfl (by omega) (by decide), fun g => ?_, fun g => ⟨inb_n (n := 2304) rfl (by omega) (by decide), fun g2 => ?_, fun g2 => ?_⟩⟩⟩⟩
          · refine ihe (i + 1) (by omega) (fun r hr hur => ?_)
            by_cases hri : r = i
            · rw [hri] at hur; exact absurd hur g
            · exact hz r (by omega) hur
          · refine ihe (i + 1) (by omega) (fun r hr hur => ?_)
            by_cases hri : r = i
            · rw [hri]; exact g2
            · exact hz r (by omega) hur
          · have nx := sme i hiR (Decidable.not_not.mp g) g2
            refine Tr_X7_rankBy_91 ⟨fun _ => nx, fun _ => ⟨fun _ => nx, fun g3 => absurd (nI_pos' (by omega)) g3⟩⟩
      exact key R 0 (by omega) (fun r hr => absurd hr (Nat.not_lt_zero r))
  -- the copy
  refine upto1 (G := fun r μ1 => Good l ω M_X7_rankBy 2 [.ref 29, .long (lI p), .null, .int (nI r), .null, .null, .null] [] μ1 _) (I := fun r μ1 => kB μ μ1 ∧ (∀ r' c, r' < r → c < C → ss_l μ1 37 (r' * 48 + c) = lI (M r' c % p)) ∧ ∀ r', r' < r → ss_i μ1 38 r' = nI 0) R ?_ ?_ 0 (by omega) μ ⟨kB_rf, fun r' c h => absurd h (Nat.not_lt_zero r'), fun r' h => absurd h (Nat.not_lt_zero r')⟩
  · intro μ1 ⟨k1, k2, k3⟩
    refine Tr_X7_rankBy_2 ?_
    rw [k1.1 29 12 (by decide) (by decide) (by decide), hr]
    exact ⟨fun _ => main μ1 k1 (fun r c h1 h2 => k2 r c h1 h2) k3, fun g => absurd (nI_le (Nat.le_refl _) (by omega)) g⟩
  · intro r μ1 hrR ⟨k1, k2, k3⟩ ih
    refine Tr_X7_rankBy_2 ?_
    rw [k1.1 29 12 (by decide) (by decide) (by decide), hr, nz0, cl_n (by omega)]
    refine ⟨fun g => absurd g (nI_ge hrR (by omega)), fun _ => ⟨inb_n (n := 48) rfl (by omega) (by decide), ?_⟩⟩
    refine upto1 (G := fun i μ2 => Good l ω M_X7_rankBy 20 [.ref 29, .long (lI p), .null, .int (nI r), .int (nI i), .null, .null] [] μ2 _) (I := fun i μ2 => kB μ μ2 ∧ (∀ r' c, (r' < r ∨ (r' = r ∧ c < i)) → c < C → ss_l μ2 37 (r' * 48 + c) = lI (M r' c % p)) ∧ ∀ r', r' < r + 1 → ss_i μ2 38 r' = nI 0) C ?_ ?_ 0 (by omega) _ ⟨kB_tr k1 (kB_wi (by omega)), fun r' c h hc => k2 r' c (by omega) hc, fun r' h => ?_⟩
    · intro μ2 ⟨j1, j2, j3⟩
      refine Tr_X7_rankBy_20 ?_
      rw [j1.1 29 13 (by decide) (by decide) (by decide), hcl, nI_add]
      exact ⟨fun _ => ih μ2 ⟨j1, fun r' c h hc => j2 r' c (by omega) hc, j3⟩, fun g => absurd (nI_le (Nat.le_refl _) (by omega)) g⟩
    · intro i μ2 hiC ⟨j1, j2, j3⟩ ih2
      obtain ⟨m1, m2, m3⟩ := hM r i hrR hiC
      refine Tr_X7_rankBy_20 ?_
      rw [j1.1 29 13 (by decide) (by decide) (by decide), hcl, pk_mul, nI_add, nI_add, Nat.mul_comm 48, cl_n (by omega), j1.1 36 _ (by decide) (by decide) (by decide), m1, lI_res (by omega) (by omega) (by omega) (by omega)]
      refine ⟨fun g => absurd g (nI_ge hiC (by omega)), fun _ => ⟨inb_n (n := 2304) rfl (by omega) (by decide), pz, inb_n (n := 2304) rfl (by omega) (by decide), ?_⟩⟩
      rw [nI_add]
      refine ih2 _ ⟨kB_tr j1 (kB_L kL_wl), fun r' c h hc => ?_, j3⟩
      rw [rl_wl]
      by_cases hq : r' = r ∧ c = i
      · rw [if_pos ⟨rfl, by rw [hq.1, hq.2]⟩, hq.1, hq.2]
      · rw [if_neg (fun w => hq (idx_ne (C := 48) (by omega) (by omega) w.2))]
        exact j2 r' c (by omega) hc
    · rw [ri_wi]
      by_cases hrr : r' = r
      · rw [if_pos ⟨rfl, hrr⟩]
      · rw [if_neg (fun q => hrr q.2)]; exact k3 r' (by omega)
end RB

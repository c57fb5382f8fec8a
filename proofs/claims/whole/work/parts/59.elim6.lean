/-! the class eliminates -/
theorem nI_m1 {n : Nat} (h : n < 2 ^ 31) : ¬ nI n = -1 := fun q => nI_pos h (by rw [q]; decide)
theorem nmod_c (a p : Nat) : ∃ q : Int, (a : Int) = ((a % p : Nat) : Int) + p * q := ⟨((a / p : Nat) : Int), by
  have := Nat.mod_add_div a p
  rw [← Int.natCast_mul, ← Int.natCast_add, this]⟩
theorem inv_dvd {p x : Nat} (y : Nat) (hp : prm p) (hx : 0 < x) (hxp : x < p) : (p : Int) ∣ (y : Int) - ((y * (x ^ (p - 2) % p) % p : Nat) : Int) * x := by
  have h1 := fermat1 hp (fun q => absurd (Nat.le_of_dvd hx q) (by omega))
  have h2 := hp.1
  obtain ⟨a, ha⟩ := nmod_c (x ^ (p - 2)) p
  obtain ⟨b, hb⟩ := nmod_c (y * (x ^ (p - 2) % p)) p
  obtain ⟨c, hc⟩ := nmod_c (x ^ (p - 1)) p
  rw [h1, show p - 1 = (p - 2) + 1 by omega, Nat.pow_succ] at hc
  rw [Int.natCast_mul] at hb hc
  generalize ((x ^ (p - 2) : Nat) : Int) = z at *
  generalize ((x ^ (p - 2) % p : Nat) : Int) = z' at *
  generalize ((y * (x ^ (p - 2) % p) % p : Nat) : Int) = w at *
  have hc' : z * x = 1 + p * c := hc
  exact ⟨-(y : Int) * c + y * x * a + x * b, by grind⟩
theorem prm_dvdI {p : Nat} (hp : prm p) {a b : Int} (h : (p : Int) ∣ a * b) : (p : Int) ∣ a ∨ (p : Int) ∣ b := by
  have h1 : p ∣ a.natAbs * b.natAbs := by
    have := Int.natAbs_dvd_natAbs.mpr h
    rwa [Int.natAbs_mul, Int.natAbs_natCast] at this
  rcases prm_dvd hp h1 with q | q
  · left; exact Int.natAbs_dvd_natAbs.mp (by rwa [Int.natAbs_natCast])
  · right; exact Int.natAbs_dvd_natAbs.mp (by rwa [Int.natAbs_natCast])
theorem dvd_sm {p x : Int} (h0 : 0 < x) (h1 : x < p) : ¬ p ∣ x := fun q => by
  have := Int.le_of_dvd h0 q
  omega
theorem prm_prod {p : Nat} (hp : prm p) {f : Nat → Int} : ∀ {k : Nat}, (∀ i, i < k → 0 < f i ∧ f i < p) → ¬ (p : Int) ∣ prodN f k
  | 0, _ => dvd_sm (by show (0 : Int) < 1; decide) (by have := hp.1; show (1 : Int) < p; omega)
  | k + 1, h => fun q => by
    rw [prodN] at q
    rcases prm_dvdI hp q with r | r
    · exact prm_prod hp (fun i hi => h i (by omega)) r
    · exact dvd_sm (h k (by omega)).1 (h k (by omega)).2 r
section EC
variable {l : Launch} {ω : Wd} {μ : Mm} {R C m : Nat} {E : MX}
theorem c_clearBelow {k col : Nat} (hm : m = 35184372088777) (H : HB R C m) (h : RX R C m E μ) (hk : k < R) (hc : col < C) (hE : E k col ≠ 0) : Ctr l ω M_X2_clearBelow [.ref 21, .int (nI k), .int (nI col)] μ (fun v μ' => v = none ∧ kE μ μ' ∧ ∃ f : Nat → Int, RX R C m (fun r c => if k < r then (E r c - f r * E k c) % m else E r c) μ' ∧ ∀ r, k < r → r < R → (m : Int) ∣ E r col - f r * E k col) := by
  have H' := H
  obtain ⟨hRC, hR, hC, m0, m46⟩ := H
  have hp : prm m := by rw [hm]; exact prm_P
  obtain ⟨b1, b2⟩ := RX_b h hk hc
  obtain ⟨x, hx⟩ := Int.eq_ofNat_of_zero_le b1
  have x0 : 0 < x := by omega
  have xm : x < m := by omega
  have e2 : lN 35184372088775 = lI ((m - 2 : Nat) : Int) := by rw [lN_I, hm]
  have ik := rc_ix hRC hk hc
  refine Ct_X2_clearBelow ?_
  rw [h.2.1, pk_mul, nI_add, cl_n (by omega), RX_g h k col hk hc, hx, e2]
  refine ⟨inb_n (n := 576) rfl ik (by decide), ex_l (c_power h.2.2.1 m0 m46 xm (by omega)) (Tr_X2_clearBelow_19 ?_)⟩
  have hi := Nat.mod_lt (x ^ (m - 2)) m0
  have key := fun y => inv_dvd y hp x0 xm
  generalize x ^ (m - 2) % m = inv at hi key
  rw [nI_add]
  let f : Nat → Int := fun r => (((E r col).toNat * inv % m : Nat) : Int)
  have hb : ∀ i r c, r < R → c < C → 0 ≤ (if k < r ∧ r < i then (E r c - f r * E k c) % m else E r c) ∧ (if k < r ∧ r < i then (E r c - f r * E k c) % m else E r c) < m := by
    intro i r c hr hc
    by_cases hra : k < r ∧ r < i
    · rw [if_pos hra]; exact ⟨Int.emod_nonneg _ (by omega), Int.emod_lt_of_pos _ (by omega)⟩
    · rw [if_neg hra]; exact RX_b h hr hc
  refine upto1 (G := fun i μ1 => k + 1 ≤ i → Good l ω M_X2_clearBelow 25 [.ref 21, .int (nI k), .int (nI col), .long (lI inv), .null, .int (nI i)] [] μ1 _) (I := fun i μ1 => kE μ μ1 ∧ RX R C m (fun r c => if k < r ∧ r < i then (E r c - f r * E k c) % m else E r c) μ1) R ?_ ?_ (k + 1) (by omega) μ ⟨kE_rf, RX_n h kE_rf (GR_c (RX_g h) (fun r c _ _ => by rw [if_neg (by omega)])) (hb (k + 1))⟩ (Nat.le_refl _)
  · intro μ1 ⟨k1, k2⟩ _
    refine Tr_X2_clearBelow_25 ?_
    rw [k2.1]
    refine ⟨fun _ => ⟨rfl, k1, f, RX_n k2 kE_rf (GR_c (RX_g k2) (fun r c hr hc => ?_)) (fun r c hr hc => ?_), fun r h1 h2 => ?_⟩, fun g => absurd (nI_le (Nat.le_refl _) (by omega)) g⟩
    · by_cases hra : k < r
      · rw [if_pos ⟨hra, hr⟩, if_pos hra]
      · rw [if_neg (fun q => hra q.1), if_neg hra]
    · have := hb R r c hr hc
      by_cases hra : k < r
      · rw [if_pos ⟨hra, hr⟩] at this; rw [if_pos hra]; exact this
      · rw [if_neg (fun q => hra q.1)] at this; rw [if_neg hra]; exact this
    · have h3 := (RX_b h h2 hc).1
      have := key (E r col).toNat
      rw [Int.toNat_of_nonneg h3] at this
      exact this
  · intro i μ1 hi1 ⟨k1, k2⟩ ih hki
    have ii := rc_ix hRC hi1 hc
    refine Tr_X2_clearBelow_25 ?_
    have ei : (if k < i ∧ i < i then (E i col - f i * E k col) % m else E i col) = E i col := if_neg (by omega)
    have g1 := RX_g k2 i col hi1 hc
    rw [ei] at g1
    obtain ⟨c1, c2⟩ := RX_b h hi1 hc
    obtain ⟨y, hy⟩ := Int.eq_ofNat_of_zero_le c1
    have ym : y < m := by omega
    have fy : f i = ((y * inv % m : Nat) : Int) := by show (((E i col).toNat * inv % m : Nat) : Int) = _; rw [hy]; rfl
    rw [k2.1, k2.2.1, pk_mul, nI_add, cl_n (by omega), g1, hy, k2.2.2.1, lI_tms ym hi m46]
    refine ⟨fun g => absurd g (nI_ge hi1 (by omega)), fun _ => ⟨inb_n (n := 576) rfl ii (by decide), lI_n0 m0 (by omega), ?_⟩⟩
    refine ex_q (c_subtractRow H' k2 hi1 hk (by omega) (Nat.mod_lt _ m0)) (fun v μ2 hq => ?_)
    obtain ⟨rfl, d1, d2⟩ := hq
    refine Tr_X2_clearBelow_65 ?_
    rw [nI_add]
    refine ih μ2 ⟨kE_tr k1 d2, ?_⟩ (by omega)
    refine RX_n d1 kE_rf (GR_c (RX_g d1) (fun r c hr hc => ?_)) (hb (i + 1))
    by_cases hri : r = i
    · subst hri
      rw [if_pos rfl, if_neg (show ¬ (k < r ∧ r < r) by omega), if_neg (show ¬ (k < k ∧ k < r) by omega), if_pos (show k < r ∧ r < r + 1 by omega), fy]
    · rw [if_neg hri]
      by_cases hq : k < r ∧ r < i
      · rw [if_pos hq, if_pos ⟨hq.1, by omega⟩]
      · rw [if_neg hq, if_neg (by omega)]
theorem RX_wi {v : Int32} {k : Nat} (h : RX R C m E μ) : RX R C m E (ss_wi μ 21 k v) := ⟨by rw [ri_wi, if_neg (by omega)]; exact h.1, by rw [ri_wi, if_neg (by omega)]; exact h.2.1, h.2.2.1, h.2.2.2⟩
theorem kE_X {μ' : Mm} (h : kE μ μ') : kX μ μ' := ⟨fun q k _ => kE_i h q k, h.2.1⟩
theorem kX_wi {v : Int32} {k : Nat} : kX μ (ss_wi μ 21 k v) := ⟨fun q j hq => by rw [ri_wi, if_neg (by omega)], rfl⟩
theorem kX_wl {v : Int64} {p k : Nat} : kX μ (ss_wl μ p k v) := ⟨fun _ _ _ => rfl, rfl⟩
/-- what an elimination finds: a rank and a minor by a prime -/
def RK (p : Nat) (R C : Nat) (M : MX) (k : Nat) (π J : Nat → Nat) : Prop := k ≤ R ∧ k ≤ C ∧ Phi p k R C M ∧ (∀ i, i < k → π i < R ∧ J i < C) ∧ ¬ (p : Int) ∣ det k (fun i c => M (π i) (J c))
theorem c_eliminate {M : MX} (hm : m = 35184372088777) (H : HB R C m) (h : RX R C m E μ) (hE : ∀ r c, r < R → c < C → (m : Int) ∣ E r c - M r c) : Ctr l ω M_X2_eliminate [.ref 21] μ (fun v μ' => v = none ∧ kX μ μ' ∧ ∃ (k : Nat) (π J : Nat → Nat) (d : Nat), RK m R C M k π J ∧ ss_i μ' 21 2 = nI k ∧ d < m ∧ (m : Int) ∣ d - det k (fun i c => M (π i) (J c)) ∧ ss_l μ' 21 3 = lI ((if m - d < d then m - d else d : Nat) : Int)) := by
  have H' := H
  obtain ⟨hRC, hR, hC, m0, m46⟩ := H
  have hp : prm m := by rw [hm]; exact prm_P
  refine Ct_X2_eliminate ?_
  have e1 : lN 1 = lI ((1 : Nat) : Int) := lN_I 1
  rw [e1]
  refine upto1 (σ := Nat × Mm) (G := fun col s => Good l ω M_X2_eliminate 9 [.ref 21, .long (lI (s.1 : Int)), .null, .int (nI col), .null] [] s.2 _) (I := fun col s => ∃ (k : Nat) (E' : MX) (π J : Nat → Nat), RX R C m E' s.2 ∧ kX μ s.2 ∧ ss_i s.2 21 2 = nI k ∧ EI m R C k col M E' π J ∧ k ≤ col ∧ (∀ i, i < k → E' i (J i) ≠ 0) ∧ s.1 < m ∧ (m : Int) ∣ s.1 - prodN (fun i => E' i (J i)) k) C ?_ ?_ 0 (by omega) (1, _) ⟨0, E, fun r => r, fun _ => 0, RX_wi h, kX_wi, by show ss_i (ss_wi μ 21 2 (nI 0)) 21 2 = nI 0; rw [ri_wi, if_pos ⟨rfl, rfl⟩], EI_0 hE, Nat.le_refl _, fun i hi => by omega, by (try dsimp only); omega, ⟨0, by simp [prodN]⟩⟩
  · intro ⟨d, μ1⟩ ⟨k, E', π, J, k1, k2, k3, k4, k5, k6, k7, k8⟩
    dsimp only at k1 k2 k3 k7 k8 ⊢
    refine Tr_X2_eliminate_9 ?_
    rw [k1.2.1]
    refine ⟨fun _ => Tr_X2_eliminate_109 ⟨rfl, rfl, kX_tr k2 kX_wl, k, π, J, d, ⟨k4.kR, k5, EI_phi k4, fun i hi => ⟨k4.b i (by have := k4.kR; omega), k4.j i hi⟩, fun q => ?_⟩, k3, k7, ?_, ?_⟩, fun g => absurd (nI_le (Nat.le_refl _) (by omega)) g⟩
    · have h1 := EI_det k4 (Nat.le_refl _)
      have h2 := Int.dvd_add h1 q
      rw [Int.sub_add_cancel] at h2
      refine prm_prod hp (fun i hi => ?_) h2
      have := RX_b k1 (r := i) (c := J i) (by have := k4.kR; omega) (k4.j i hi)
      have := k6 i hi
      omega
    · have h1 := EI_det k4 (Nat.le_refl _)
      have h2 := Int.dvd_add k8 h1
      rwa [show ((d : Int) - prodN (fun i => E' i (J i)) k) + (prodN (fun i => E' i (J i)) k - det k (fun i c => M (π i) (J c))) = d - det k (fun i c => M (π i) (J c)) by omega] at h2
    · rw [rl_wl, if_pos ⟨rfl, rfl⟩]
      have e : lN 35184372088777 - lI (d : Int) = lI ((m - d : Nat) : Int) := by
        rw [lN_I, lI_sub, hm]; congr 1; omega
      rw [e]
      by_cases hd : m - d < d
      · rw [if_pos ((lI_lt (by omega) (by omega) (by omega) (by omega)).mpr (by omega)), if_pos hd]
      · rw [if_neg (fun q => hd (by have := (lI_lt (by omega) (by omega) (by omega) (by omega)).mp q; omega)), if_neg hd]
  · intro col ⟨d, μ1⟩ hcol ⟨k, E', π, J, k1, k2, k3, k4, k5, k6, k7, k8⟩ ih
    dsimp only at k1 k2 k3 k7 k8 ⊢
    have hkR := k4.kR
    refine Tr_X2_eliminate_9 ?_
    rw [k1.2.1, k3]
    refine ⟨fun g => absurd g (nI_ge hcol (by omega)), fun _ => ex_q (c_rowWith k1 hRC hR (by omega) hcol hkR) (fun v μ2 hq => ?_)⟩
    obtain ⟨rfl, ⟨rfl, hz⟩ | ⟨r, r1, r2, r3, rfl⟩⟩ := hq
    · refine Tr_X2_eliminate_32 ⟨fun _ => ?_, fun g => absurd rfl g⟩
      rw [nI_add]
      exact ih (d, μ2) ⟨k, E', π, J, k1, k2, k3, EI_skip k4 hz, by omega, k6, k7, k8⟩
    · refine Tr_X2_eliminate_32 ⟨fun g => absurd g (nI_m1 (by omega)), fun _ => ?_⟩
      rw [k3]
      refine ex_q (c_swapRows H' k1 (show k < R by omega) r2) (fun v μ3 hq => ?_)
      obtain ⟨rfl, a1, a2⟩ := hq
      refine Tr_X2_eliminate_53 ?_
      have ik := rc_ix (r := k) hRC (by omega) hcol
      have s1 := EI_swap (E' := fun r' c => E' (swp k r r') c) k4 r1 r2 (by omega) (fun _ _ _ _ => rfl)
      have gk := RX_g a1 k col (by omega) hcol
      obtain ⟨x0, x1⟩ := RX_b a1 (r := k) (c := col) (by omega) hcol
      rw [swp_l] at gk x0 x1
      obtain ⟨x, hx⟩ := Int.eq_ofNat_of_zero_le x0
      have xm : x < m := by omega
      rw [kE_i a2, k3, a1.2.1, pk_mul, nI_add, cl_n (by omega), gk, hx, a1.2.2.1, lI_tms k7 xm m46]
      refine ⟨inb_n (n := 576) rfl ik (by decide), lI_n0 m0 (by omega), ?_⟩
      refine ex_q (c_clearBelow hm H' a1 (show k < R by omega) hcol (by rw [swp_l]; exact r3)) (fun v μ4 hq => ?_)
      obtain ⟨rfl, b1, f, b2, b3⟩ := hq
      refine Tr_X2_eliminate_83 ?_
      rw [nI_add, kE_i b1, kE_i a2, k3, nI_add]
      have zz : ∀ r' c, k ≤ r' → r' < R → c < col → E' (swp k r r') c = 0 := fun r' c h1 h2 h3 => s1.z r' c h1 h2 h3
      have s2 := EI_clear (E' := fun r' c => if k < r' then (E' (swp k r r') c - f r' * E' (swp k r k) c) % m else E' (swp k r r') c) f s1 (by omega) hcol (fun r' c h1 _ => by (try dsimp only); rw [if_neg (by omega)]) (fun r' c h1 h2 h3 => by
        try dsimp only
        rw [if_pos h1]
        have := Int.emod_add_mul_ediv (E' (swp k r r') c - f r' * E' (swp k r k) c) m
        exact ⟨-((E' (swp k r r') c - f r' * E' (swp k r k) c) / m), by rw [Int.mul_neg]; omega⟩) (fun r' c h1 h2 h3 => by
        try dsimp only
        rw [if_pos h1]
        by_cases hcc : c = col
        · rw [hcc]; exact Int.emod_eq_zero_of_dvd (b3 r' h1 h2)
        · rw [zz r' c (by omega) h2 (by omega), zz k c (Nat.le_refl _) (by omega) (by omega), Int.mul_zero]; rfl)
      have sw : ∀ i, i < k → swp k r i = i := fun i hi => swp_o (by omega) (by omega)
      refine ih (d * x % m, _) ⟨k + 1, _, _, _, RX_wi b2, kX_tr k2 (kX_tr (kE_X a2) (kX_tr (kE_X b1) kX_wi)), by show ss_i (ss_wi μ4 21 2 (nI (k + 1))) 21 2 = _; rw [ri_wi, if_pos ⟨rfl, rfl⟩], s2, by omega, fun i hi => ?_, Nat.mod_lt _ m0, ?_⟩
      · try dsimp only
        rw [if_neg (by omega)]
        by_cases hik : i < k
        · rw [if_pos hik, sw i hik]; exact k6 i hik
        · rw [if_neg hik, show i = k by omega, swp_l]; exact r3
      · try dsimp only
        rw [prodN]
        have e1 : prodN (fun i => if k < i then (E' (swp k r i) (if i < k then J i else col) - f i * E' (swp k r k) (if i < k then J i else col)) % m else E' (swp k r i) (if i < k then J i else col)) k = prodN (fun i => E' i (J i)) k := prod_congr (fun i hi => by (try dsimp only); rw [if_neg (by omega), if_pos hi, sw i hi])
        rw [e1, if_neg (Nat.lt_irrefl k), if_neg (Nat.lt_irrefl k), swp_l, hx]
        obtain ⟨q, hq⟩ := nmod_c (d * x) m
        rw [Int.natCast_mul] at hq
        obtain ⟨w, hw⟩ := k8
        refine ⟨x * w - q, ?_⟩
        generalize ((d * x % m : Nat) : Int) = dx at *
        generalize prodN (fun i => E' i (J i)) k = pr at *
        have hd : (d : Int) = pr + m * w := by omega
        have : dx = d * x - m * q := by omega
        rw [this, hd]
        grind
end EC

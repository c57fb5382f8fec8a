/-! power, gcd, products: what the loops answer -/
section AR
variable {l : Launch} {ω : Wd} {μ : Mm}
theorem lI_n0 {m : Nat} (h0 : 0 < m) (h : m < 2 ^ 63) : decide (¬ lI (m : Int) = 0) = true := by
  refine decide_eq_true (fun q => ?_)
  have : lI (m : Int) = lI 0 := q
  have := (lI_eq (by omega) (by omega) (by decide) (by decide)).mp this
  omega
theorem cmpn {a b : Nat} (ha : a < 2 ^ 63) (hb : b < 2 ^ 63) : lg_cmp (lI a) (lN b) = 0 ↔ a = b := by
  rw [lN_I, cmp_0 (by omega) (by omega) (by omega) (by omega)]; omega
theorem c_power {a ex m : Nat} (hm : ss_l μ 22 4 = lI m) (h2 : 0 < m) (h46 : m ≤ 2 ^ 46) (ha : a < m) (he : ex < 2 ^ 63) : CtrL l ω M_X5_power [.ref 22, .long (lI a), .long (lI ex)] μ (lI ((a ^ ex % m : Nat) : Int)) := by
  have hd : decide (¬ ss_l μ 22 4 = 0) = true := by rw [hm]; exact lI_n0 h2 (by omega)
  refine Ct_X5_power (ex_l (c_residue hd) (Tr_X5_power_5 ?_))
  rw [hm, lN_I, lI_res (by decide) (by decide) (by omega) (by omega)]
  have key : ∀ k, k ≤ 63 → Good l ω M_X5_power 11 [.ref 22, .long (lI a), .null, .long (lI ex), .null, .long (lI ((a ^ (ex / 2 ^ k) % m : Nat) : Int)), .null, .int (nI k + (-1))] [] μ (fun v μ' => v = some (.long (lI ((a ^ ex % m : Nat) : Int))) ∧ μ' = μ) := by
    intro k
    induction k with
    | zero =>
      intro _
      refine Tr_X5_power_11 ⟨fun _ => ⟨by rw [Nat.pow_zero, Nat.div_one], rfl⟩, fun g => absurd (by decide) g⟩
    | succ k ih =>
      intro hk
      have e1 : nI (k + 1) + (-1) = nI k := by
        rw [show ((-1 : Int32)) = - nI 1 by decide, ← Int32.sub_eq_add_neg, nI_sub1 (by omega)]; rfl
      rw [e1]
      refine Tr_X5_power_11 ⟨fun g => absurd g (nI_pos (by omega)), fun _ => ex_l (c_times hd) ?_⟩
      rw [hm, lI_tms (Nat.mod_lt _ h2) (Nat.mod_lt _ h2) h46]
      have hq : ex / 2 ^ k = 2 * (ex / 2 ^ (k + 1)) + ex / 2 ^ k % 2 := by
        rw [Nat.pow_succ, ← Nat.div_div_eq_div_mul]; omega
      have hsq : a ^ (ex / 2 ^ (k + 1)) % m * (a ^ (ex / 2 ^ (k + 1)) % m) % m = a ^ (2 * (ex / 2 ^ (k + 1))) % m := by
        rw [← Nat.mul_mod, ← Nat.pow_add]; congr 2; omega
      have hb : ex / 2 ^ k % 2 < 2 := Nat.mod_lt _ (by decide)
      refine Tr_X5_power_24 ?_
      rw [lI_bit he (by omega), cmpn (by omega) (by decide), hsq]
      refine ⟨fun g => ?_, fun g => ex_l (c_times hd) (Tr_X5_power_44 ?_)⟩
      · have := ih (by omega)
        rw [show ex / 2 ^ k = 2 * (ex / 2 ^ (k + 1)) by omega] at this
        exact this
      · have := ih (by omega)
        rw [hm, lI_tms (Nat.mod_lt _ h2) ha h46]
        have e : a ^ (2 * (ex / 2 ^ (k + 1))) % m * a % m = a ^ (ex / 2 ^ k) % m := by
          have hq1 : ex / 2 ^ k = 2 * (ex / 2 ^ (k + 1)) + 1 := by omega
          rw [hq1]
          generalize 2 * (ex / 2 ^ (k + 1)) = z
          rw [Nat.pow_succ a z, Nat.mul_mod, Nat.mod_mod, ← Nat.mul_mod]
        rw [e]; exact this
  have h := key 63 (by omega)
  have e0 : a ^ (ex / 2 ^ 63) % m = 1 % m := by rw [Nat.div_eq_of_lt he, Nat.pow_zero]
  rw [e0] at h
  have e2 : ((1 : Nat) : Int) % (m : Int) = ((1 % m : Nat) : Int) := (Int.natCast_emod 1 m).symm
  rw [e2]
  exact h
theorem two_step {x y : Nat} (hy : 0 < y) (hr : 0 < x % y) : 2 * (y % (x % y)) < y := by
  have h1 := Nat.mod_lt x hy
  generalize x % y = r at *
  have h2 := Nat.mod_lt y hr
  have h3 := Nat.div_add_mod y r
  have h5 : 1 ≤ y / r := (Nat.le_div_iff_mul_le hr).mpr (by omega)
  have h4 : r * 1 ≤ r * (y / r) := Nat.mul_le_mul_left _ h5
  omega
theorem gcd_step (x y : Nat) : Nat.gcd y (x % y) = Nat.gcd x y := by rw [Nat.gcd_comm x y, Nat.gcd_rec y x, Nat.gcd_comm]
theorem c_gcd {a b : Nat} (ha : a < 2 ^ 63) (hb : b < 2 ^ 63) : CtrL l ω M_X6_gcd [.long (lI a), .long (lI b)] μ (lI ((Nat.gcd a b : Nat) : Int)) := by
  refine Ct_X6_gcd ?_
  have zero : ∀ (x : Nat) (s : Nat), Good l ω M_X6_gcd 9 [.null, .null, .null, .null, .long (lI x), .null, .long (lI ((0 : Nat) : Int)), .null, .int (nI s), .null, .null] [] μ (fun v μ' => v = some (.long (lI x)) ∧ μ' = μ) := by
    intro x s
    refine Tr_X6_gcd_9 ⟨fun _ => ⟨rfl, rfl⟩, fun _ => ⟨fun _ => ⟨rfl, rfl⟩, fun g => absurd ((cmpn (by decide) (by decide)).mpr rfl) g⟩⟩
  have step : ∀ (x y s : Nat) (Q : Option Value → Mm → Prop), x < 2 ^ 63 → 0 < y → y < 2 ^ 63 → s < 200 → Good l ω M_X6_gcd 9 [.null, .null, .null, .null, .long (lI y), .null, .long (lI ((x % y : Nat) : Int)), .null, .int (nI (s + 1)), .null, .null] [] μ Q → Good l ω M_X6_gcd 9 [.null, .null, .null, .null, .long (lI x), .null, .long (lI y), .null, .int (nI s), .null, .null] [] μ Q := by
    intro x y s Q hx hy0 hy hs k
    refine Tr_X6_gcd_9 ⟨fun g => absurd g (nI_ge hs (by omega)), fun _ => ⟨fun g => absurd ((cmpn hy (by decide)).mp g) (by omega), fun _ => ⟨lI_n0 hy0 hy, ?_⟩⟩⟩
    rw [lI_mod (by omega) (by omega) (by omega) (by omega), nI_add, ← Int.natCast_emod]
    exact k
  have key : ∀ i x y s, x < 2 ^ 63 → y < 2 ^ 63 → y < 2 ^ i → s + 2 * i ≤ 200 → Good l ω M_X6_gcd 9 [.null, .null, .null, .null, .long (lI (x : Nat)), .null, .long (lI (y : Nat)), .null, .int (nI s), .null, .null] [] μ (fun v μ' => v = some (.long (lI ((Nat.gcd x y : Nat) : Int))) ∧ μ' = μ) := by
    intro i
    induction i with
    | zero =>
      intro x y s hx hy hyi hs
      have : y = 0 := by omega
      subst this
      rw [Nat.gcd_zero_right]; exact zero x s
    | succ i ih =>
      intro x y s hx hy hyi hs
      rcases Nat.eq_zero_or_pos y with h0 | h0
      · subst h0; rw [Nat.gcd_zero_right]; exact zero x s
      · refine step x y s _ hx h0 hy (by omega) ?_
        have hr := Nat.mod_lt x h0
        rcases Nat.eq_zero_or_pos (x % y) with h1 | h1
        · rw [h1, ← gcd_step, h1, Nat.gcd_zero_right]; exact zero y (s + 1)
        · have h2 := two_step h0 h1
          refine step y (x % y) (s + 1) _ hy h1 (by omega) (by omega) ?_
          rw [← gcd_step, ← gcd_step]
          exact ih (x % y) (y % (x % y)) (s + 1 + 1) (by omega) (by omega) (by rw [Nat.pow_succ] at hyi; omega) (by omega)
  exact key 63 a b 0 ha hb hb (by omega)
theorem c_common : ∀ (b a : Nat), a < 2 ^ 63 → b < 2 ^ 63 → CtrL l ω M_X7_common [.long (lI a), .long (lI b)] μ (lI ((Nat.gcd a b : Nat) : Int)) := by
  have key : ∀ (b : Nat) (a : Nat), a < 2 ^ 63 → b < 2 ^ 63 → Good l ω M_X7_common 6 [.null, .null, .null, .null, .long (lI (a : Nat)), .null, .long (lI (b : Nat)), .null, .null, .null] [] μ (fun v μ' => v = some (.long (lI ((Nat.gcd a b : Nat) : Int))) ∧ μ' = μ) := by
    intro b
    induction b using Nat.strongRecOn with
    | ind b ih =>
      intro a ha hb
      refine Tr_X7_common_6 ?_
      rw [cmpn hb (by decide)]
      refine ⟨fun g => ⟨by rw [g, Nat.gcd_zero_right], rfl⟩, fun g => ⟨lI_n0 (by omega) hb, ?_⟩⟩
      have hr := Nat.mod_lt a (show 0 < b by omega)
      rw [lI_mod (by omega) (by omega) (by omega) (by omega), ← Int.natCast_emod, ← gcd_step]
      exact ih (a % b) hr b hb (by omega)
  intro b a ha hb
  exact Ct_X7_common (key b a ha hb)
theorem c_prod64 {a b m : Nat} (hm : ss_l μ 29 19 = lI m) (h0 : 0 < m) (h46 : m ≤ 2 ^ 46) (ha : a ≤ 2 ^ 46) (hb : b < 2 ^ 60) : CtrL l ω M_X7_product64 [.ref 29, .long (lI a), .long (lI b)] μ (lI ((a * b % m : Nat) : Int)) := by
  refine Ct_X7_product64 ?_
  have key : ∀ k, k ≤ 10 → Good l ω M_X7_product64 7 [.ref 29, .long (lI a), .null, .long (lI b), .null, .long (lI ((a * (b / 2 ^ (6 * k)) % m : Nat) : Int)), .null, .int (nI (6 * k) + (-6))] [] μ (fun v μ' => v = some (.long (lI ((a * b % m : Nat) : Int))) ∧ μ' = μ) := by
    intro k
    induction k with
    | zero =>
      intro _
      refine Tr_X7_product64_7 ⟨fun _ => ⟨by rw [Nat.mul_zero, Nat.pow_zero, Nat.div_one], rfl⟩, fun g => absurd (by decide) g⟩
    | succ k ih =>
      intro hk
      have e1 : nI (6 * (k + 1)) + (-6) = nI (6 * k) := by
        have : ∀ k, k < 10 → nI (6 * (k + 1)) + (-6) = nI (6 * k) := by decide
        exact this k (by omega)
      rw [e1]
      have hp := Nat.mod_lt (a * (b / 2 ^ (6 * (k + 1)))) h0
      have hd : b / 2 ^ (6 * k) = 64 * (b / 2 ^ (6 * (k + 1))) + b / 2 ^ (6 * k) % 64 := by
        rw [show 6 * (k + 1) = 6 * k + 6 by omega, Nat.pow_add, ← Nat.div_div_eq_div_mul]; omega
      have h64 : b / 2 ^ (6 * k) % 64 < 64 := Nat.mod_lt _ (by decide)
      have hle : b / 2 ^ (6 * k) ≤ b := Nat.div_le_self _ _
      refine Tr_X7_product64_7 ⟨fun g => absurd g (nI_pos (by omega)), fun _ => ⟨by rw [hm]; exact lI_n0 h0 (by omega), ?_⟩⟩
      have ec : (lI (b : Nat) >>> (Int32.toInt64 (nI (6 * k)) &&& 63)) &&& lN 63 = lI ((b / 2 ^ (6 * k) % 64 : Nat) : Int) := by
        rw [lI_shr (by omega) (by omega)]; exact lI_and (by omega) 6 (by decide)
      rw [ec, hm, lN_I]
      have e : ∀ p y : Nat, lI (p : Int) * lI ((64 : Nat) : Int) + lI (a : Int) * lI (y : Int) = lI ((p * 64 + a * y : Nat) : Int) := by
        intro p y
        rw [lI_mul, lI_mul, lI_add]; congr 1
      have ha2 : a * (b / 2 ^ (6 * k) % 64) ≤ 2 ^ 46 * 64 := Nat.mul_le_mul ha (by omega)
      rw [e, lI_mod (by omega) (by omega) (by omega) (by omega), ← Int.natCast_emod]
      have ev : (a * (b / 2 ^ (6 * (k + 1))) % m * 64 + a * (b / 2 ^ (6 * k) % 64)) % m = a * (b / 2 ^ (6 * k)) % m := by
        rw [Nat.add_mod, Nat.mul_mod, Nat.mod_mod, ← Nat.mul_mod, ← Nat.add_mod]
        congr 1
        generalize b / 2 ^ (6 * (k + 1)) = u at *
        generalize b / 2 ^ (6 * k) % 64 = w at *
        rw [hd]; grind
      rw [ev]
      exact ih (by omega)
  have h := key 10 (by omega)
  have e0 : a * (b / 2 ^ (6 * 10)) % m = 0 := by rw [Nat.div_eq_of_lt hb, Nat.mul_zero, Nat.zero_mod]
  rw [e0] at h
  exact h
theorem c_inverse {a p : Nat} (hp2 : 2 ≤ p) (hp : p < 2 ^ 31) (ha : a < p) : CtrL l ω M_X7_inverse [.long (lI a), .long (lI p)] μ (lI ((a ^ (p - 2) % p : Nat) : Int)) := by
  refine Ct_X7_inverse ?_
  have key : ∀ (e r b : Nat), e < 2 ^ 31 → r < p → b < p → Good l ω M_X7_inverse 13 [.null, .null, .long (lI (p : Nat)), .null, .long (lI (r : Nat)), .null, .long (lI (b : Nat)), .null, .long (lI (e : Nat)), .null] [] μ (fun v μ' => v = some (.long (lI ((r * b ^ e % p : Nat) : Int))) ∧ μ' = μ) := by
    intro e
    induction e using Nat.strongRecOn with
    | ind e ih =>
      intro r b he hr hb
      refine Tr_X7_inverse_13 ?_
      rw [lN_I 0, cmp_le (by omega) (by omega) (by decide) (by decide)]
      refine ⟨fun g => ?_, fun g => ?_⟩
      · have : e = 0 := by omega
        subst this
        exact ⟨by rw [Nat.pow_zero, Nat.mul_one, Nat.mod_eq_of_lt hr], rfl⟩
      · have hb2 : b * b < 2 ^ 62 := by
          have := Nat.mul_le_mul (Nat.le_of_lt hb) (Nat.le_of_lt hb)
          have h2 : p * p ≤ (2 ^ 31 - 1) * (2 ^ 31 - 1) := Nat.mul_le_mul (by omega) (by omega)
          omega
        have hrb : r * b < 2 ^ 62 := by
          have := Nat.mul_le_mul (Nat.le_of_lt hr) (Nat.le_of_lt hb)
          have h2 : p * p ≤ (2 ^ 31 - 1) * (2 ^ 31 - 1) := Nat.mul_le_mul (by omega) (by omega)
          omega
        have e1 : lI (e : Int) &&& lN 1 = lI ((e % 2 : Nat) : Int) := lI_and (by omega) 1 (by decide)
        have e2 : lI (e : Int) >>> (Int32.toInt64 (nI 1) &&& 63) = lI ((e / 2 : Nat) : Int) := lI_shr (by omega) (by decide)
        have m1 : lI (b : Int) * lI (b : Int) - lI (b : Int) * lI (b : Int) / lI (p : Int) * lI (p : Int) = lI ((b * b % p : Nat) : Int) := by
          rw [lI_mul, show (b : Int) * (b : Int) = ((b * b : Nat) : Int) from rfl, lI_mod (by omega) (by omega) (by omega) (by omega), ← Int.natCast_emod]
        have m2 : lI (r : Int) * lI (b : Int) - lI (r : Int) * lI (b : Int) / lI (p : Int) * lI (p : Int) = lI ((r * b % p : Nat) : Int) := by
          rw [lI_mul, show (r : Int) * (b : Int) = ((r * b : Nat) : Int) from rfl, lI_mod (by omega) (by omega) (by omega) (by omega), ← Int.natCast_emod]
        have hp0 : 0 < p := by omega
        have hsq : ∀ z, (b * b % p) ^ z % p = b ^ (2 * z) % p := by
          intro z
          rw [← Nat.pow_mod, ← Nat.pow_two, ← Nat.pow_mul]
        rw [e1, e2, m1, m2, cmpn (by omega) (by decide)]
        refine ⟨fun g2 => ⟨lI_n0 hp0 (by omega), ?_⟩, fun g2 => ⟨lI_n0 hp0 (by omega), lI_n0 hp0 (by omega), ?_⟩⟩
        · have h := ih (e / 2) (by omega) r (b * b % p) (by omega) hr (Nat.mod_lt _ hp0)
          have ev : r * (b * b % p) ^ (e / 2) % p = r * b ^ e % p := by
            rw [Nat.mul_mod, hsq, ← Nat.mul_mod]; congr 3; omega
          rw [ev] at h; exact h
        · have h := ih (e / 2) (by omega) (r * b % p) (b * b % p) (by omega) (Nat.mod_lt _ hp0) (Nat.mod_lt _ hp0)
          have ev : r * b % p * (b * b % p) ^ (e / 2) % p = r * b ^ e % p := by
            rw [Nat.mul_mod, hsq, Nat.mod_mod, ← Nat.mul_mod]
            have : b ^ e = b * b ^ (2 * (e / 2)) := by
              rw [← Nat.pow_succ']; congr 1; omega
            rw [this, Nat.mul_assoc]
          rw [ev] at h; exact h
  have h := key (p - 2) 1 a (by omega) (by omega) ha
  rw [Nat.one_mul] at h
  have e : lI (p : Int) - lN 2 = lI ((p - 2 : Nat) : Int) := by
    rw [lN_I, lI_sub]; congr 1; omega
  rw [e, lN_I]
  exact h
end AR

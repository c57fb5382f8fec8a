/-! 2^45 - 55 is prime -/
theorem prm_q : prm 77158710721 := tr_prm (w := 528) (i := 527) (by decide) (by decide) (by decide +kernel)
def pwm (a m : Nat) : Nat → Nat → Nat → Nat
  | 0, _, r => r
  | f + 1, e, r => pwm (a * a % m) m f (e / 2) (if e % 2 = 1 then r * a % m else r)
theorem pwm_ok {m : Nat} (hm : 0 < m) : ∀ (f : Nat) (a e r : Nat), e < 2 ^ f → r < m → pwm a m f e r = r * a ^ e % m
  | 0, a, e, r, he, hr => by
    have : e = 0 := by omega
    subst this
    rw [pwm, Nat.pow_zero, Nat.mul_one, Nat.mod_eq_of_lt hr]
  | f + 1, a, e, r, he, hr => by
    have hsq : ∀ z, (a * a % m) ^ z % m = a ^ (2 * z) % m := by
      intro z
      rw [← Nat.pow_mod, ← Nat.pow_two, ← Nat.pow_mul]
    rw [pwm]
    by_cases h : e % 2 = 1
    · rw [if_pos h, pwm_ok hm f _ _ _ (by rw [Nat.pow_succ] at he; omega) (Nat.mod_lt _ hm), Nat.mul_mod, hsq, Nat.mod_mod, ← Nat.mul_mod]
      have : a ^ e = a * a ^ (2 * (e / 2)) := by
        rw [← Nat.pow_succ']; congr 1; omega
      rw [this, Nat.mul_assoc]
    · rw [if_neg h, pwm_ok hm f _ _ _ (by rw [Nat.pow_succ] at he; omega) hr, Nat.mul_mod, hsq, ← Nat.mul_mod]
      congr 3; omega
theorem p_1 {e : Nat} (he : e = 35184372088776) : 3 ^ e % 35184372088777 = 1 := by
  have h := pwm_ok (m := 35184372088777) (by decide) 46 3 e 1 (by omega) (by decide)
  rw [Nat.one_mul] at h
  rw [← h, he]; decide +kernel
theorem p_2 {f : Nat} (hf : f = 456) : Nat.gcd (3 ^ f % 35184372088777 - 1) 35184372088777 = 1 ∧ 1 ≤ 3 ^ f % 35184372088777 := by
  have h := pwm_ok (m := 35184372088777) (by decide) 9 3 f 1 (by omega) (by decide)
  rw [Nat.one_mul] at h
  rw [← h, hf]; decide +kernel
theorem prm_P : prm 35184372088777 := by
  obtain ⟨E, hE⟩ : ∃ E, E = 35184372088776 := ⟨_, rfl⟩
  obtain ⟨F, hF⟩ : ∃ F, F = 456 := ⟨_, rfl⟩
  have key : ∀ r, prm r → r ∣ 35184372088777 → 77158710721 < r := by
    intro r hr hd
    have hr2 := hr.1
    have h3 : ¬ r ∣ 3 := by
      intro q
      have h1 : r = 3 := by
        have h4 := Nat.le_of_dvd (by decide) q
        have : r = 2 ∨ r = 3 := by omega
        rcases this with rfl | rfl
        · exact absurd q (by decide)
        · rfl
      subst h1
      exact absurd hd (by decide)
    have f1 : 3 ^ (r - 1) % r = 1 := fermat1 hr h3
    have mm : ∀ x, x % 35184372088777 % r = x % r := by
      intro x
      obtain ⟨z, hz⟩ := hd
      rw [hz, Nat.mod_mul_right_mod]
    have f2 : 3 ^ E % r = 1 := by
      rw [← mm, p_1 hE, Nat.mod_eq_of_lt (by omega)]
    rcases Nat.lt_or_ge 77158710721 r with q | q
    · exact q
    exfalso
    have hc : Nat.gcd 77158710721 (r - 1) = 1 := by
      rcases prm_q.2 _ (Nat.gcd_dvd_left 77158710721 (r - 1)) with g | g
      · exact g
      · have := Nat.gcd_dvd_right 77158710721 (r - 1)
        rw [g] at this
        exact absurd (Nat.le_of_dvd (by omega) this) (by omega)
    have g1 := pow_gcd hr2 f2 f1
    have g2 : Nat.gcd E (r - 1) ∣ F := by
      have h1 : Nat.gcd E (r - 1) ∣ 77158710721 * F := by
        have h := Nat.gcd_dvd_left E (r - 1)
        have e : 77158710721 * F = E := by omega
        rw [e]; exact h
      have h2 : Nat.Coprime (Nat.gcd E (r - 1)) 77158710721 := by
        refine Nat.Coprime.coprime_dvd_left (Nat.gcd_dvd_right E (r - 1)) ?_
        rw [Nat.coprime_comm]; exact hc
      exact Nat.Coprime.dvd_of_dvd_mul_left h2 h1
    obtain ⟨z, hz⟩ := g2
    have g3 : 3 ^ F % r = 1 := by
      rw [hz, Nat.pow_mul, Nat.pow_mod, g1, Nat.one_pow, Nat.mod_eq_of_lt (by omega)]
    obtain ⟨c1, c2⟩ := p_2 hF
    rw [← mm] at g3
    generalize 3 ^ F % 35184372088777 = v at *
    have g4 : r ∣ v - 1 := Nat.dvd_of_mod_eq_zero (Nat.sub_mod_eq_zero_of_mod_eq (by rw [g3, Nat.mod_eq_of_lt (by omega)]))
    have g5 : r ∣ Nat.gcd (v - 1) 35184372088777 := Nat.dvd_gcd g4 hd
    rw [c1] at g5
    have := Nat.le_of_dvd (by decide) g5
    omega
  refine ⟨by decide, fun d hd => ?_⟩
  by_cases h1 : d = 1
  · exact Or.inl h1
  right
  obtain ⟨e, he⟩ := hd
  have hd0 : d ≠ 0 := fun q => by rw [q, Nat.zero_mul] at he; omega
  have he0 : e ≠ 0 := fun q => by rw [q, Nat.mul_zero] at he; omega
  by_cases h3 : e = 1
  · rw [h3, Nat.mul_one] at he; exact he.symm
  exfalso
  obtain ⟨r, hr, hrd⟩ := prm_ex d (by omega)
  obtain ⟨t, ht, hte⟩ := prm_ex e (by omega)
  have a1 := key r hr (Nat.dvd_trans hrd ⟨e, he⟩)
  have a2 := key t ht (Nat.dvd_trans hte ⟨d, by rw [Nat.mul_comm]; exact he⟩)
  have b1 := Nat.le_of_dvd (by omega) hrd
  have b2 := Nat.le_of_dvd (by omega) hte
  have := Nat.mul_le_mul (show 77158710721 ≤ d by omega) (show 77158710721 ≤ e by omega)
  rw [← he] at this
  exact absurd this (by decide)

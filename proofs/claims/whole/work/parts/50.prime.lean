/-! primes -/
def prm (p : Nat) : Prop := 2 ≤ p ∧ ∀ d, d ∣ p → d = 1 ∨ d = p
theorem prm_dvd {p a b : Nat} (hp : prm p) (h : p ∣ a * b) : p ∣ a ∨ p ∣ b := by
  rcases hp.2 (Nat.gcd p a) (Nat.gcd_dvd_left p a) with g | g
  · exact Or.inr (Nat.Coprime.dvd_of_dvd_mul_left g h)
  · exact Or.inl (g ▸ Nat.gcd_dvd_right p a)
theorem prm_ex : ∀ n, 2 ≤ n → ∃ p, prm p ∧ p ∣ n := by
  intro n
  induction n using Nat.strongRecOn with
  | ind n ih =>
    intro h2
    by_cases h : ∃ d, d ∣ n ∧ d ≠ 1 ∧ d ≠ n
    · obtain ⟨d, h1, h3, h4⟩ := h
      have hd0 : d ≠ 0 := fun q => by rw [q, Nat.zero_dvd] at h1; omega
      have hle := Nat.le_of_dvd (by omega) h1
      obtain ⟨p, hp, hpd⟩ := ih d (by omega) (by omega)
      exact ⟨p, hp, Nat.dvd_trans hpd h1⟩
    · refine ⟨n, ⟨h2, fun d hd => ?_⟩, Nat.dvd_refl n⟩
      by_cases h1 : d = 1
      · exact Or.inl h1
      · by_cases h3 : d = n
        · exact Or.inr h3
        · exact absurd ⟨d, hd, h1, h3⟩ h
theorem prm_trial {p : Nat} (h2 : 2 ≤ p) (h : ∀ d, 2 ≤ d → d * d ≤ p → ¬ d ∣ p) : prm p := by
  refine ⟨h2, fun d hd => ?_⟩
  obtain ⟨e, he⟩ := hd
  have hd0 : d ≠ 0 := fun q => by rw [q, Nat.zero_mul] at he; omega
  have he0 : e ≠ 0 := fun q => by rw [q, Nat.mul_zero] at he; omega
  by_cases h1 : d = 1
  · exact Or.inl h1
  · by_cases h3 : e = 1
    · right; rw [he, h3, Nat.mul_one]
    · exfalso
      rcases Nat.le_total d e with q | q
      · exact h d (by omega) (by rw [he]; exact Nat.mul_le_mul_left d q) ⟨e, he⟩
      · exact h e (by omega) (by rw [he]; exact Nat.mul_le_mul_right e q) ⟨d, by rw [Nat.mul_comm]; exact he⟩
/-! binomial numbers, Fermat -/
def chN : Nat → Nat → Nat
  | _, 0 => 1
  | 0, _ + 1 => 0
  | n + 1, k + 1 => chN n k + chN n (k + 1)
theorem ch_gt : ∀ {n k : Nat}, n < k → chN n k = 0
  | 0, k + 1, _ => rfl
  | n + 1, k + 1, h => by rw [chN, ch_gt (by omega), ch_gt (by omega)]
theorem ch_self : ∀ n, chN n n = 1
  | 0 => rfl
  | n + 1 => by rw [chN, ch_self n, ch_gt (by omega)]
theorem ch_mul : ∀ n k, (k + 1) * chN (n + 1) (k + 1) = (n + 1) * chN n k
  | 0, 0 => rfl
  | 0, k + 1 => by rw [chN, ch_gt (by omega), Nat.mul_zero, Nat.mul_zero]
  | n + 1, 0 => by
    have h := ch_mul n 0
    rw [chN]
    simp only [chN] at *
    omega
  | n + 1, k + 1 => by
    have h1 := ch_mul n (k + 1)
    have h2 := ch_mul n k
    rw [show chN (n + 1 + 1) (k + 1 + 1) = chN (n + 1) (k + 1) + chN (n + 1) (k + 1 + 1) from rfl]
    have h3 : chN (n + 1) (k + 1) = chN n k + chN n (k + 1) := rfl
    generalize chN (n + 1) (k + 1 + 1) = X at *
    generalize chN n (k + 1) = Y at *
    generalize chN n k = Z at *
    generalize chN (n + 1) (k + 1) = W at *
    grind
theorem prm_ch {p k : Nat} (hp : prm p) (h1 : 1 ≤ k) (h2 : k < p) : p ∣ chN p k := by
  obtain ⟨m, rfl⟩ : ∃ m, p = m + 1 := ⟨p - 1, by omega⟩
  obtain ⟨j, rfl⟩ : ∃ j, k = j + 1 := ⟨k - 1, by omega⟩
  have h := ch_mul m j
  rcases prm_dvd hp (show m + 1 ∣ (j + 1) * chN (m + 1) (j + 1) by rw [h]; exact Nat.dvd_mul_right _ _) with q | q
  · exact absurd (Nat.le_of_dvd (by omega) q) (by omega)
  · exact q
def sumM (f : Nat → Nat) : Nat → Nat
  | 0 => 0
  | n + 1 => sumM f n + f n
theorem sm_congr {f g : Nat → Nat} {n : Nat} (h : ∀ i, i < n → f i = g i) : sumM f n = sumM g n := by
  induction n with
  | zero => rfl
  | succ n ih => rw [sumM, sumM, ih (fun i hi => h i (by omega)), h n (by omega)]
theorem sm_fst (f : Nat → Nat) (n : Nat) : sumM f (n + 1) = f 0 + sumM (fun i => f (i + 1)) n := by
  induction n with
  | zero => simp [sumM]
  | succ n ih => rw [sumM, ih, sumM]; omega
theorem sm_add (f g : Nat → Nat) (n : Nat) : sumM (fun i => f i + g i) n = sumM f n + sumM g n := by
  induction n with
  | zero => rfl
  | succ n ih => rw [sumM, sumM, sumM, ih]; omega
theorem sm_mul (f : Nat → Nat) (x n : Nat) : sumM (fun i => x * f i) n = x * sumM f n := by
  induction n with
  | zero => rfl
  | succ n ih => rw [sumM, sumM, ih, Nat.mul_add]
theorem sm_dvd {f : Nat → Nat} {n t : Nat} (h : ∀ i, i < n → t ∣ f i) : t ∣ sumM f n := by
  induction n with
  | zero => exact Nat.dvd_zero t
  | succ n ih => rw [sumM]; exact Nat.dvd_add (ih (fun i hi => h i (by omega))) (h n (by omega))
theorem binom (a : Nat) : ∀ n, (a + 1) ^ n = sumM (fun k => chN n k * a ^ k) (n + 1)
  | 0 => by simp [sumM, chN]
  | n + 1 => by
    rw [sm_fst]
    have e : sumM (fun i => chN (n + 1) (i + 1) * a ^ (i + 1)) (n + 1) = sumM (fun i => a * (chN n i * a ^ i)) (n + 1) + sumM (fun i => chN n (i + 1) * a ^ (i + 1)) (n + 1) := by
      rw [← sm_add]
      refine sm_congr (fun i _ => ?_)
      rw [show chN (n + 1) (i + 1) = chN n i + chN n (i + 1) from rfl, Nat.add_mul]
      congr 1
      rw [Nat.pow_succ]; grind
    rw [e, sm_mul, ← binom a n]
    have e2 : (a + 1) ^ n = 1 + sumM (fun i => chN n (i + 1) * a ^ (i + 1)) n := by
      rw [binom a n, sm_fst]; simp [chN]
    have e3 : sumM (fun i => chN n (i + 1) * a ^ (i + 1)) (n + 1) = sumM (fun i => chN n (i + 1) * a ^ (i + 1)) n := by
      rw [sumM, ch_gt (by omega), Nat.zero_mul, Nat.add_zero]
    rw [e3]
    have e4 : chN (n + 1) 0 * a ^ 0 = 1 := by simp [chN]
    rw [e4, Nat.pow_succ]
    generalize sumM (fun i => chN n (i + 1) * a ^ (i + 1)) n = s at *
    rw [e2]; grind
theorem fermat {p : Nat} (hp : prm p) : ∀ a, a ^ p % p = a % p
  | 0 => by
    have := hp.1
    rw [Nat.zero_pow (by omega)]
  | a + 1 => by
    have h2 := hp.1
    obtain ⟨m, rfl⟩ : ∃ m, p = m + 1 := ⟨p - 1, by omega⟩
    rw [binom, sumM, ch_self, sm_fst]
    have hd : m + 1 ∣ sumM (fun i => chN (m + 1) (i + 1) * a ^ (i + 1)) m := sm_dvd (fun i hi => Nat.dvd_trans (prm_ch hp (by omega) (by omega)) (Nat.dvd_mul_right _ _))
    obtain ⟨q, hq⟩ := hd
    rw [hq]
    have e4 : chN (m + 1) 0 * a ^ 0 = 1 := by simp [chN]
    have ih := fermat hp a
    rw [e4, show 1 + (m + 1) * q + 1 * a ^ (m + 1) = (a ^ (m + 1) + 1) + (m + 1) * q by omega, Nat.add_mul_mod_self_left, Nat.add_mod, ih, ← Nat.add_mod]
theorem fermat1 {p a : Nat} (hp : prm p) (ha : ¬ p ∣ a) : a ^ (p - 1) % p = 1 := by
  have h2 := hp.1
  have h := fermat hp a
  have h1 : p ∣ a * (a ^ (p - 1) - 1) := by
    have e : a * (a ^ (p - 1) - 1) = a ^ p - a := by
      rw [Nat.mul_sub, Nat.mul_one, ← Nat.pow_succ', show (p - 1).succ = p by omega]
    rw [e]
    exact Nat.dvd_of_mod_eq_zero (Nat.sub_mod_eq_zero_of_mod_eq h)
  rcases prm_dvd hp h1 with q | q
  · exact absurd q ha
  · obtain ⟨z, hz⟩ := q
    have hpos : 0 < a ^ (p - 1) := Nat.pow_pos (by
      rcases Nat.eq_zero_or_pos a with q | q
      · exact absurd (q ▸ Nat.dvd_zero p) ha
      · exact q)
    have e : a ^ (p - 1) = 1 + p * z := by omega
    rw [e, Nat.add_mul_mod_self_left, Nat.mod_eq_of_lt (by omega)]
/-! the three primes -/
theorem pow_gcd {r a x y : Nat} (hr : 2 ≤ r) (hx : a ^ x % r = 1) (hy : a ^ y % r = 1) : a ^ Nat.gcd x y % r = 1 := by
  induction x, y using Nat.gcd.induction with
  | H0 y => rw [Nat.gcd_zero_left]; exact hy
  | H1 x y hpos ih =>
    rw [Nat.gcd_rec]
    refine ih ?_ hx
    have e : a ^ y = a ^ (y % x) * (a ^ x) ^ (y / x) := by
      rw [← Nat.pow_mul, ← Nat.pow_add]; congr 1
      have := Nat.mod_add_div y x
      omega
    rw [e, Nat.mul_mod, Nat.pow_mod (a ^ x), hx, Nat.one_pow, Nat.mod_eq_of_lt (show 1 < r by omega), Nat.mul_one, Nat.mod_mod] at hy
    exact hy
def tr1 (p : Nat) : Nat → Nat → Bool
  | 0, _ => true
  | n + 1, d => (!(Nat.beq (p % d) 0)) && tr1 p n (d + 1)
theorem tr1_ok {p : Nat} : ∀ {n d : Nat}, tr1 p n d = true → ∀ x, d ≤ x → x < d + n → p % x ≠ 0
  | 0, d, _, x, h1, h2 => by omega
  | n + 1, d, h, x, h1, h2 => by
    rw [tr1, Bool.and_eq_true] at h
    by_cases hx : x = d
    · subst hx
      intro q
      rw [q] at h
      exact absurd h.1 (by decide)
    · exact tr1_ok h.2 x (by omega) (by omega)
def tr2 (p w : Nat) : Nat → Bool
  | 0 => true
  | i + 1 => tr1 p w (i * w + 2) && tr2 p w i
theorem tr2_ok {p w : Nat} : ∀ {i : Nat}, tr2 p w i = true → ∀ x, 2 ≤ x → x < i * w + 2 → p % x ≠ 0
  | 0, _, x, h1, h2 => by omega
  | i + 1, h, x, h1, h2 => by
    rw [tr2, Bool.and_eq_true] at h
    rw [Nat.succ_mul] at h2
    rcases Nat.lt_or_ge x (i * w + 2) with q | q
    · exact tr2_ok h.2 x h1 q
    · exact tr1_ok h.1 x q (by omega)
theorem tr_prm {p w i : Nat} (h2 : 2 ≤ p) (hw : p < (i * w + 2) * (i * w + 2)) (h : tr2 p w i = true) : prm p := by
  refine prm_trial h2 (fun d hd hdd hdv => ?_)
  have hlt : d < i * w + 2 := by
    rcases Nat.lt_or_ge d (i * w + 2) with q | q
    · exact q
    · have := Nat.mul_le_mul q q
      omega
  exact tr2_ok h d hd hlt (Nat.mod_eq_zero_of_dvd hdv)
theorem prm_a : prm 2147483647 := tr_prm (w := 216) (i := 216) (by decide) (by decide) (by decide +kernel)
theorem prm_b : prm 2147483629 := tr_prm (w := 216) (i := 216) (by decide) (by decide) (by decide +kernel)

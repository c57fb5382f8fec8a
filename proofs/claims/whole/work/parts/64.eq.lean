/-! matrices that are the same modulo d for all ranks by divisors of d -/
def EQ (d : Int) (R C : Nat) (A B : MX) : Prop := ∀ t, t ∣ d → ∀ j, Phi t j R C A ↔ Phi t j R C B
theorem EQ_rf {d : Int} {R C : Nat} {A : MX} : EQ d R C A A := fun _ _ _ => Iff.rfl
theorem EQ_tr {d : Int} {R C : Nat} {A B D : MX} (h : EQ d R C A B) (g : EQ d R C B D) : EQ d R C A D := fun t ht j => (h t ht j).trans (g t ht j)
theorem EQ_sy {d : Int} {R C : Nat} {A B : MX} (h : EQ d R C A B) : EQ d R C B A := fun t ht j => (h t ht j).symm
theorem EQ_mod {d : Int} {R C : Nat} {A B : MX} (h : ∀ r c, r < R → c < C → d ∣ A r c - B r c) : EQ d R C A B := fun t ht j => ⟨fun q => Phi_mod (fun r c hr hc => by
    have := Int.dvd_trans ht (h r c hr hc)
    rw [show B r c - A r c = -(A r c - B r c) by omega]; exact Int.dvd_neg.mpr this) q, fun q => Phi_mod (fun r c hr hc => Int.dvd_trans ht (h r c hr hc)) q⟩
theorem EQ_T {d : Int} {R C : Nat} {A B : MX} (h : EQ d R C A B) : EQ d C R (fun r c => A c r) (fun r c => B c r) := fun t ht j => ⟨fun q => Phi_T ((h t ht j).mp (Phi_T q)), fun q => Phi_T ((h t ht j).mpr (Phi_T q))⟩
theorem EQ_c {d : Int} {R C : Nat} {A B : MX} (h : ∀ r c, r < R → c < C → A r c = B r c) : EQ d R C A B := EQ_mod (fun r c hr hc => ⟨0, by rw [h r c hr hc]; omega⟩)
theorem EQ_swR {d : Int} {R C a b : Nat} {A : MX} (ha : a < R) (hb : b < R) : EQ d R C A (fun r c => A (swp a b r) c) := fun t ht j => ⟨fun q => Phi_row (fun r => swp a b r) (fun r => r) (fun _ => 1) (fun _ => 0) (fun r hr => ⟨swp_lt ha hb hr, hr⟩) (fun r c _ _ => ⟨0, by (try dsimp only); omega⟩) q, fun q => Phi_row (fun r => swp a b r) (fun r => r) (fun _ => 1) (fun _ => 0) (fun r hr => ⟨swp_lt ha hb hr, hr⟩) (fun r c _ _ => ⟨0, by (try dsimp only); rw [swp_inv]; omega⟩) q⟩
theorem EQ_swC {d : Int} {R C a b : Nat} {A : MX} (ha : a < C) (hb : b < C) : EQ d R C A (fun r c => A r (swp a b c)) := EQ_T (EQ_swR (A := fun r c => A c r) ha hb)
theorem EQ_subR {d f : Int} {R C a b : Nat} {A B : MX} (ha : a < R) (hb : b < R) (hab : a ≠ b) (h : ∀ r c, r < R → c < C → d ∣ B r c - (if r = a then A a c - f * A b c else A r c)) : EQ d R C A B := by
  have h2 : ∀ t, t ∣ d → ∀ r c, r < R → c < C → t ∣ B r c - (if r = a then A a c - f * A b c else A r c) := fun t ht r c hr hc => Int.dvd_trans ht (h r c hr hc)
  refine fun t ht j => ⟨fun q => Phi_row (fun r => r) (fun r => if r = a then b else r) (fun _ => 1) (fun r => if r = a then -f else 0) (fun r hr => ⟨hr, by split <;> omega⟩) (fun r c hr hc => ?_) q, fun q => Phi_row (fun r => r) (fun r => if r = a then b else r) (fun _ => 1) (fun r => if r = a then f else 0) (fun r hr => ⟨hr, by split <;> omega⟩) (fun r c hr hc => ?_) q⟩
  · have := h2 t ht r c hr hc
    try dsimp only
    by_cases hra : r = a
    · rw [if_pos hra, if_pos hra]; rw [if_pos hra] at this
      subst hra
      rwa [show B r c - (1 * A r c + -f * A b c) = B r c - (A r c - f * A b c) by grind]
    · rw [if_neg hra, if_neg hra]; rw [if_neg hra] at this
      rwa [show B r c - (1 * A r c + 0 * A r c) = B r c - A r c by grind]
  · have h3 := h2 t ht r c hr hc
    have h4 := h2 t ht b c hb hc
    try dsimp only
    rw [if_neg (fun q => hab q.symm)] at h4
    by_cases hra : r = a
    · rw [if_pos hra, if_pos hra]; rw [if_pos hra] at h3
      subst hra
      obtain ⟨x, hx⟩ := h3
      obtain ⟨y, hy⟩ := h4
      exact ⟨-x - f * y, by
        have e1 : B r c = A r c - f * A b c + t * x := by omega
        have e2 : B b c = A b c + t * y := by omega
        rw [e1, e2]; grind⟩
    · rw [if_neg hra, if_neg hra]; rw [if_neg hra] at h3
      obtain ⟨x, hx⟩ := h3
      exact ⟨-x, by
        have e1 : B r c = A r c + t * x := by omega
        rw [e1]; grind⟩
theorem EQ_subC {d f : Int} {R C a b : Nat} {A B : MX} (ha : a < C) (hb : b < C) (hab : a ≠ b) (h : ∀ r c, r < R → c < C → d ∣ B r c - (if c = a then A r a - f * A r b else A r c)) : EQ d R C A B := EQ_T (EQ_subR (A := fun r c => A c r) (B := fun r c => B c r) ha hb hab (fun r c hr hc => h c r hc hr))
theorem bez : ∀ (b a : Nat), ∃ x y : Int, x * a + y * b = Nat.gcd a b := by
  intro b
  induction b using Nat.strongRecOn with
  | _ b ih =>
    intro a
    rcases Nat.eq_zero_or_pos b with h | h
    · subst h; exact ⟨1, 0, by simp⟩
    · obtain ⟨x, y, hxy⟩ := ih (a % b) (Nat.mod_lt _ h) b
      have e : Nat.gcd b (a % b) = Nat.gcd a b := gcd_step a b
      rw [e] at hxy
      have hm : ((a % b : Nat) : Int) = a - b * ((a / b : Nat) : Int) := by
        have := Nat.mod_add_div a b
        rw [← Int.natCast_mul]; omega
      exact ⟨y, x - y * ((a / b : Nat) : Int), by rw [← hxy, hm]; grind⟩
def dgM (w : Nat → Int) : MX := fun r c => if r = c then w r else 0
/-- many s at once -/
theorem cho {P : Nat → Int → Prop} {n : Nat} (h : ∀ i, i < n → ∃ s, P i s) : ∃ s : Nat → Int, ∀ i, i < n → P i (s i) := by
  have : ∀ i, ∃ s, i < n → P i s := fun i => by
    by_cases hi : i < n
    · obtain ⟨s, hs⟩ := h i hi; exact ⟨s, fun _ => hs⟩
    · exact ⟨0, fun q => absurd q hi⟩
  exact Classical.axiomOfChoice this
theorem Phi_fac {t F : Int} {k R C : Nat} {A : MX} {w : Nat → Int} (hk : k < R) (hk' : k < C) (hA : Phi t k R C A) (hd : ∀ r c, r ≤ k → c ≤ k → t ∣ A r c - dgM w r c) (hs : ∀ i, i ≤ k → ∃ s, t ∣ s * w i - F) : t ∣ F := by
  obtain ⟨s, hs'⟩ := cho (n := k + 1) (P := fun i s => t ∣ s * w i - F) (fun i hi => hs i (by omega))
  have h1 := Phi_sub (R' := k + 1) (C' := k + 1) (fun r => r) (fun c => c) (fun r hr => by omega) (fun c hc => by omega) hA
  have h2 : Phi t k (k + 1) (k + 1) (fun r c => if r = c then F else 0) := by
    refine Phi_row (fun r => r) (fun r => r) s (fun _ => 0) (fun r hr => ⟨hr, hr⟩) (fun r c hr hc => ?_) h1
    obtain ⟨x, hx⟩ := hd r c (by omega) (by omega)
    obtain ⟨y, hy⟩ := hs' r hr
    try dsimp only
    unfold dgM at hx
    by_cases hrc : r = c
    · rw [if_pos hrc] at hx ⊢
      exact ⟨-y - s r * x, by
        have e1 : A r c = w r + t * x := by omega
        have e2 : F = s r * w r - t * y := by omega
        rw [e1, e2]; grind⟩
    · rw [if_neg hrc] at hx ⊢
      exact ⟨-(s r * x), by
        have e1 : A r c = t * x := by omega
        rw [e1]; grind⟩
  exact Phi_dg h2
theorem Phi_zer {t : Int} {k R C : Nat} {A : MX} {w : Nat → Int} (h : ∀ r c, r < R → c < C → t ∣ A r c - (if r = c ∧ r < k then w r else 0)) : Phi t k R C A := by
  refine ⟨fun r j => if r = j then w r else 0, fun j c => if j = c then 1 else 0, fun r c hr hc => ?_⟩
  have e : sumN (fun j => (if r = j then w r else 0) * (if j = c then 1 else 0)) k = if r = c ∧ r < k then w r else 0 := by
    by_cases hq : r = c ∧ r < k
    · rw [if_pos hq, sum_one hq.2 (fun i _ hi => by rw [if_neg (fun q => hi q.symm), Int.zero_mul]), if_pos rfl, if_pos hq.1, Int.mul_one]
    · rw [if_neg hq]
      refine sum_zero (fun i hi => ?_)
      by_cases h1 : r = i
      · rw [if_neg (fun q => hq ⟨h1.trans q, by omega⟩), Int.mul_zero]
      · rw [if_neg h1, Int.zero_mul]
  rw [e]; exact h r c hr hc
theorem Phi_22 {t : Int} {k R C i j : Nat} {w w' : Nat → Int} (hij : i ≠ j) (hi : i < R) (hi' : i < C) (hj : j < R) (hj' : j < C) (p q r s p' q' r' s' : Int) (h00 : w' i = p * w i * p' + q * w j * r') (h01 : p * w i * q' + q * w j * s' = 0) (h10 : r * w i * p' + s * w j * r' = 0) (h11 : w' j = r * w i * q' + s * w j * s') (ho : ∀ x, x ≠ i → x ≠ j → w' x = w x) (h : Phi t k R C (dgM w)) : Phi t k R C (dgM w') := by
  have h1 : Phi t k R C (fun a c => (if c = i then p' else if c = j then q' else 1) * dgM w a (if c = j then i else c) + (if c = i then r' else if c = j then s' else 0) * dgM w a (if c = i then j else c)) := Phi_col (fun c => if c = j then i else c) (fun c => if c = i then j else c) (fun c => if c = i then p' else if c = j then q' else 1) (fun c => if c = i then r' else if c = j then s' else 0) (fun c hc => ⟨by (try dsimp only); split <;> omega, by (try dsimp only); split <;> omega⟩) (fun a c _ _ => ⟨0, by (try dsimp only); omega⟩) h
  refine Phi_row (fun c => if c = j then i else c) (fun c => if c = i then j else c) (fun c => if c = i then p else if c = j then r else 1) (fun c => if c = i then q else if c = j then s else 0) (fun c hc => ⟨by (try dsimp only); split <;> omega, by (try dsimp only); split <;> omega⟩) (fun a c _ _ => ⟨0, ?_⟩) h1
  try dsimp only
  unfold dgM
  have hji : ¬ j = i := fun e => hij e.symm
  by_cases ai : a = i
  · subst ai
    by_cases ca : c = a
    · subst ca
      simp only [if_true, hij, hji, if_false]
      rw [h00]; grind
    · by_cases cj : c = j
      · subst cj
        simp only [if_true, hij, hji, if_false]
        have := h01
        grind
      · have ac : ¬ a = c := fun e => ca e.symm
        have jc : ¬ j = c := fun e => cj e.symm
        simp only [if_true, hij, ca, cj, ac, jc, if_false]
        omega
  · by_cases aj : a = j
    · subst aj
      by_cases ci : c = i
      · subst ci
        simp only [if_true, hij, hji, if_false]
        have := h10
        grind
      · by_cases cj : c = a
        · subst cj
          simp only [if_true, hij, hji, if_false]
          rw [h11]; grind
        · have ac : ¬ a = c := fun e => cj e.symm
          have ic : ¬ i = c := fun e => ci e.symm
          simp only [if_true, hij, hji, ci, cj, ac, ic, if_false]
          omega
    · by_cases ci : c = i
      · subst ci
        simp only [if_true, hij, hji, ai, aj, if_false]
        grind
      · by_cases cj : c = j
        · subst cj
          simp only [if_true, hij, hji, ai, aj, if_false]
          grind
        · simp only [ai, aj, ci, cj, if_false]
          by_cases ac : a = c
          · rw [if_pos ac, if_pos ac, ho a ai aj]; grind
          · rw [if_neg ac, if_neg ac]; grind

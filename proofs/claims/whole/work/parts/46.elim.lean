/-! elimination -/
def prodN (f : Nat → Int) : Nat → Int
  | 0 => 1
  | n + 1 => prodN f n * f n
theorem prod_fst (f : Nat → Int) (n : Nat) : prodN f (n + 1) = f 0 * prodN (fun i => f (i + 1)) n := by
  induction n with
  | zero => simp [prodN]
  | succ n ih => rw [prodN, ih, prodN]; grind
theorem prod_congr {f g : Nat → Int} {n : Nat} (h : ∀ i, i < n → f i = g i) : prodN f n = prodN g n := by
  induction n with
  | zero => rfl
  | succ n ih => rw [prodN, prodN, ih (fun i hi => h i (by omega)), h n (by omega)]
theorem det_up : ∀ (n : Nat) (A : MX), (∀ i j, j < i → i < n → A i j = 0) → det n A = prodN (fun i => A i i) n
  | 0, _, _ => rfl
  | n + 1, A, h => by
    rw [det_col1 (i := 0) (by omega) (fun r hr hne => h r 0 (by omega) hr), prod_fst]
    have e : (fun r c => A (rmI 0 r) (c + 1)) = fun r c => A (r + 1) (c + 1) := by
      funext r c; unfold rmI; rw [if_neg (by omega)]
    rw [e, det_up n _ (fun i j hj hi => h (i + 1) (j + 1) (by omega) (by omega))]
    have : sg 0 = 1 := rfl
    rw [this]; grind
def swp (a b r : Nat) : Nat := if r = a then b else if r = b then a else r
theorem swp_or (a b r : Nat) : swp a b r = a ∨ swp a b r = b ∨ swp a b r = r := by
  unfold swp
  by_cases h : r = a
  · rw [if_pos h]; exact Or.inr (Or.inl rfl)
  · rw [if_neg h]
    by_cases h2 : r = b
    · rw [if_pos h2]; exact Or.inl rfl
    · rw [if_neg h2]; exact Or.inr (Or.inr rfl)
theorem swp_lt {a b r R : Nat} (ha : a < R) (hb : b < R) (hr : r < R) : swp a b r < R := by rcases swp_or a b r with h | h | h <;> omega
theorem swp_inv (a b r : Nat) : swp a b (swp a b r) = r := by
  unfold swp
  by_cases h : r = a
  · rw [if_pos h]
    by_cases h2 : b = a
    · rw [if_pos h2]; omega
    · rw [if_neg h2, if_pos rfl]; omega
  · rw [if_neg h]
    by_cases h2 : r = b
    · rw [if_pos h2, if_pos rfl]; omega
    · rw [if_neg h2, if_neg h, if_neg h2]
/-- the state of an elimination: columns below col are done, k of them had a pivot -/
def EI (t : Int) (R C k col : Nat) (M E : MX) (π J : Nat → Nat) : Prop :=
  (∀ r c, k ≤ r → r < R → c < col → E r c = 0) ∧ (∀ j, Phi t j R C E → Phi t j R C M) ∧ (∀ m (ρ g : Nat → Nat), k ≤ m → (∀ i, i < k → ρ i = i) → (∀ i, i < m → ρ i < R) → (∀ c, c < m → g c < C) → t ∣ det m (fun i c => E (ρ i) (g c)) - det m (fun i c => M (π (ρ i)) (g c))) ∧ (∀ r, r < R → π r < R) ∧ (∀ i, i < k → J i < col) ∧ (∀ i r, i < k → i < r → r < R → E r (J i) = 0) ∧ (k ≤ R)
theorem EI.z {t : Int} {R C k col : Nat} {M E : MX} {π J : Nat → Nat} (h : EI t R C k col M E π J) : ∀ r c, k ≤ r → r < R → c < col → E r c = 0 := h.1
theorem EI.p {t : Int} {R C k col : Nat} {M E : MX} {π J : Nat → Nat} (h : EI t R C k col M E π J) : ∀ j, Phi t j R C E → Phi t j R C M := h.2.1
theorem EI.d {t : Int} {R C k col : Nat} {M E : MX} {π J : Nat → Nat} (h : EI t R C k col M E π J) : ∀ m (ρ g : Nat → Nat), k ≤ m → (∀ i, i < k → ρ i = i) → (∀ i, i < m → ρ i < R) → (∀ c, c < m → g c < C) → t ∣ det m (fun i c => E (ρ i) (g c)) - det m (fun i c => M (π (ρ i)) (g c)) := h.2.2.1
theorem EI.b {t : Int} {R C k col : Nat} {M E : MX} {π J : Nat → Nat} (h : EI t R C k col M E π J) : ∀ r, r < R → π r < R := h.2.2.2.1
theorem EI.j {t : Int} {R C k col : Nat} {M E : MX} {π J : Nat → Nat} (h : EI t R C k col M E π J) : ∀ i, i < k → J i < col := h.2.2.2.2.1
theorem EI.u {t : Int} {R C k col : Nat} {M E : MX} {π J : Nat → Nat} (h : EI t R C k col M E π J) : ∀ i r, i < k → i < r → r < R → E r (J i) = 0 := h.2.2.2.2.2.1
theorem EI.kR {t : Int} {R C k col : Nat} {M E : MX} {π J : Nat → Nat} (h : EI t R C k col M E π J) : k ≤ R := h.2.2.2.2.2.2
theorem EI_0 {t : Int} {R C : Nat} {M E : MX} (h : ∀ r c, r < R → c < C → t ∣ E r c - M r c) : EI t R C 0 0 M E (fun r => r) (fun _ => 0) := ⟨
  fun r c _ _ hc => by omega,
  fun j hp => Phi_mod (fun r c hr hc => by
    have := h r c hr hc
    rw [show M r c - E r c = -(E r c - M r c) by omega]; exact Int.dvd_neg.mpr this) hp,
  fun m ρ g _ _ hρ hg => det_mod (fun r c hr hc => h _ _ (hρ r hr) (hg c hc)),
  fun r hr => hr,
  fun i hi => by omega,
  fun i r hi => by omega,
  Nat.zero_le _⟩
theorem EI_skip {t : Int} {R C k col : Nat} {M E : MX} {π J : Nat → Nat} (h : EI t R C k col M E π J) (hz : ∀ r, k ≤ r → r < R → E r col = 0) : EI t R C k (col + 1) M E π J := ⟨
  fun r c h1 h2 hc => by
    by_cases hcc : c = col
    · subst hcc; exact hz r h1 h2
    · exact h.z r c h1 h2 (by omega),
  h.p,
  h.d,
  h.b,
  fun i hi => Nat.lt_succ_of_lt (h.j i hi),
  h.u,
  h.kR⟩
theorem EI_swap {t : Int} {R C k col row : Nat} {M E E' : MX} {π J : Nat → Nat} (h : EI t R C k col M E π J) (hk : k ≤ row) (hr : row < R) (hc : col ≤ C) (he : ∀ r c, r < R → c < C → E' r c = E (swp k row r) c) : EI t R C k col M E' (fun r => π (swp k row r)) J := ⟨
  fun r c h1 h2 h3 => by
    rw [he r c h2 (by omega)]
    refine h.z _ c ?_ (swp_lt (by omega) hr h2) h3
    rcases swp_or k row r with q | q | q <;> omega,
  fun j hp => h.p j (Phi_row (fun r => swp k row r) (fun r => swp k row r) (fun _ => 1) (fun _ => 0) (fun r h2 => ⟨swp_lt (by omega) hr h2, swp_lt (by omega) hr h2⟩) (fun r c h2 h3 => by
    rw [he _ c (swp_lt (by omega) hr h2) h3, swp_inv]
    rw [show E r c - (1 * E r c + 0 * E r c) = 0 by grind]; exact Int.dvd_zero t) hp),
  fun m ρ g h1 h2 h3 h4 => by
    have := h.d m (fun i => swp k row (ρ i)) g h1 (fun i hi => by rw [h2 i hi]; unfold swp; rw [if_neg (by omega), if_neg (by omega)]) (fun i hi => swp_lt (by omega) hr (h3 i hi)) h4
    rw [det_congr (A := fun i c => E' (ρ i) (g c)) (B := fun i c => E (swp k row (ρ i)) (g c)) (fun i c hi hc => he _ _ (h3 i hi) (h4 c hc))]
    exact this,
  fun r h2 => h.b _ (swp_lt (by omega) hr h2),
  h.j,
  fun i r hi h1 h2 => by
    have hj := h.j i hi
    rw [he r (J i) h2 (by omega)]
    refine h.u i _ hi ?_ (swp_lt (by omega) hr h2)
    rcases swp_or k row r with q | q | q <;> omega,
  h.kR⟩
theorem EI_clear {t : Int} {R C k col : Nat} {M E E' : MX} {π J : Nat → Nat} (f : Nat → Int) (h : EI t R C k col M E π J) (hk : k < R) (hc : col < C) (h0 : ∀ r c, r ≤ k → c < C → E' r c = E r c) (he : ∀ r c, k < r → r < R → c < C → t ∣ E' r c - (E r c - f r * E k c)) (hz : ∀ r c, k < r → r < R → c < col + 1 → E' r c = 0) : EI t R C (k + 1) (col + 1) M E' π (fun i => if i < k then J i else col) := ⟨
  fun r c h1 h2 h3 => hz r c (by omega) h2 h3,
  fun j hp => h.p j (Phi_row (fun r => r) (fun _ => k) (fun _ => 1) (fun r => if k < r then f r else 0) (fun r h2 => ⟨h2, hk⟩) (fun r c h2 h3 => by
    by_cases hr : k < r
    · rw [if_pos hr, h0 k c (Nat.le_refl _) h3]
      have := he r c hr h2 h3
      rw [show E r c - (1 * E' r c + f r * E k c) = -(E' r c - (E r c - f r * E k c)) by grind]
      exact Int.dvd_neg.mpr this
    · rw [if_neg hr, h0 r c (by omega) h3, show E r c - (1 * E r c + 0 * E' k c) = 0 by grind]; exact Int.dvd_zero t) hp),
  fun m ρ g h1 h2 h3 h4 => by
    have hd := h.d m ρ g (by omega) (fun i hi => h2 i (by omega)) h3 h4
    have hkm : k < m := by omega
    have hρk : ρ k = k := h2 k (by omega)
    have e := det_clr (A := fun i c => E (ρ i) (g c)) hkm (fun i => if k < ρ i then - f (ρ i) else 0)
    rw [← e] at hd
    have hm : t ∣ det m (fun i c => E' (ρ i) (g c)) - det m (fun r c => if r = k then E (ρ r) (g c) else E (ρ r) (g c) + (if k < ρ r then - f (ρ r) else 0) * E (ρ k) (g c)) := by
      refine det_mod (fun i c hi hcc => ?_)
      by_cases hik : i = k
      · subst hik
        rw [if_pos rfl, hρk, h0 _ _ (Nat.le_refl _) (h4 c hcc), Int.sub_self]; exact Int.dvd_zero t
      · rw [if_neg hik, hρk]
        by_cases hr : k < ρ i
        · rw [if_pos hr]
          have := he (ρ i) (g c) hr (h3 i hi) (h4 c hcc)
          rw [show E (ρ i) (g c) + -f (ρ i) * E k (g c) = E (ρ i) (g c) - f (ρ i) * E k (g c) by grind]
          exact this
        · rw [if_neg hr, h0 _ _ (by omega) (h4 c hcc), show E (ρ i) (g c) - (E (ρ i) (g c) + 0 * E k (g c)) = 0 by grind]; exact Int.dvd_zero t
    have := Int.dvd_add hm hd
    rw [show ∀ a b c : Int, a - b + (b - c) = a - c by intro a b c; omega] at this
    exact this,
  h.b,
  fun i hi => by
    dsimp only
    by_cases hik : i < k
    · rw [if_pos hik]; have := h.j i hik; omega
    · rw [if_neg hik]; omega,
  fun i r hi h1 h2 => by
    dsimp only
    by_cases hik : i < k
    · rw [if_pos hik]
      have hj := h.j i hik
      by_cases hr : k < r
      · exact hz r _ hr h2 (by omega)
      · rw [h0 r _ (by omega) (by omega)]; exact h.u i r hik h1 h2
    · rw [if_neg hik]; exact hz r col (by omega) h2 (by omega),
  hk⟩
theorem EI_phi {t : Int} {R C k : Nat} {M E : MX} {π J : Nat → Nat} (h : EI t R C k C M E π J) : Phi t k R C M := by
  refine h.p k ⟨fun r j => if r = j then 1 else 0, E, fun r c hr hc => ?_⟩
  dsimp only
  by_cases hk : r < k
  · rw [sum_one (a := r) hk (fun j _ hj => by rw [if_neg (Ne.symm hj)]; grind), if_pos rfl, show E r c - 1 * E r c = 0 by grind]; exact Int.dvd_zero t
  · rw [h.z r c (by omega) hr hc, sum_zero (fun j hj => by rw [if_neg (by omega)]; grind)]; exact Int.dvd_zero t
theorem EI_det {t : Int} {R C k col : Nat} {M E : MX} {π J : Nat → Nat} (h : EI t R C k col M E π J) (hc : col ≤ C) : t ∣ prodN (fun i => E i (J i)) k - det k (fun i c => M (π i) (J c)) := by
  have := h.d k (fun i => i) J (Nat.le_refl _) (fun _ _ => rfl) (fun i hi => by have := h.kR; omega) (fun c hcc => by have := h.j c hcc; omega)
  rw [det_up k (fun i c => E i (J c)) (fun i j hj hi => h.u j i (by omega) hj (by have := h.kR; omega))] at this
  exact this

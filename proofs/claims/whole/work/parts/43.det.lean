/-! determinants -/
def sg (i : Nat) : Int := if i % 2 = 0 then 1 else -1
theorem sg_s (i : Nat) : sg (i + 1) = - sg i := by
  unfold sg
  by_cases h : i % 2 = 0
  · rw [if_pos h, if_neg (by omega)]
  · rw [if_neg h, if_pos (by omega)]; rfl
def sumN (f : Nat → Int) : Nat → Int
  | 0 => 0
  | n + 1 => sumN f n + f n
theorem sum_congr {f g : Nat → Int} {n : Nat} (h : ∀ i, i < n → f i = g i) : sumN f n = sumN g n := by
  induction n with
  | zero => rfl
  | succ n ih => rw [sumN, sumN, ih (fun i hi => h i (by omega)), h n (by omega)]
theorem sum_lin (f g : Nat → Int) (x y : Int) (n : Nat) : sumN (fun i => x * f i + y * g i) n = x * sumN f n + y * sumN g n := by
  induction n with
  | zero => simp [sumN]
  | succ n ih => rw [sumN, sumN, sumN, ih]; grind
theorem sum_mul (f : Nat → Int) (x : Int) (n : Nat) : sumN (fun i => x * f i) n = x * sumN f n := by
  induction n with
  | zero => simp [sumN]
  | succ n ih => rw [sumN, sumN, ih]; grind
theorem sum_add (f g : Nat → Int) (n : Nat) : sumN (fun i => f i + g i) n = sumN f n + sumN g n := by
  induction n with
  | zero => simp [sumN]
  | succ n ih => rw [sumN, sumN, sumN, ih]; grind
theorem sum_zero {f : Nat → Int} {n : Nat} (h : ∀ i, i < n → f i = 0) : sumN f n = 0 := by
  induction n with
  | zero => rfl
  | succ n ih => rw [sumN, ih (fun i hi => h i (by omega)), h n (by omega)]; rfl
theorem sum_one {f : Nat → Int} {n a : Nat} (ha : a < n) (h : ∀ i, i < n → i ≠ a → f i = 0) : sumN f n = f a := by
  induction n with
  | zero => omega
  | succ n ih =>
    rw [sumN]
    by_cases hn : a = n
    · subst hn
      rw [sum_zero (fun i hi => h i (by omega) (by omega))]; grind
    · rw [ih (by omega) (fun i hi hne => h i (by omega) hne), h n (by omega) (by omega)]; grind
theorem sum_two {f : Nat → Int} {n a : Nat} (ha : a + 1 < n) (h : ∀ i, i < n → i ≠ a → i ≠ a + 1 → f i = 0) : sumN f n = f a + f (a + 1) := by
  induction n with
  | zero => omega
  | succ n ih =>
    rw [sumN]
    by_cases hn : a + 1 = n
    · subst hn
      rw [sum_one (a := a) (by omega) (fun i hi hne => h i (by omega) hne (by omega))]
    · rw [ih (by omega) (fun i hi h1 h2 => h i (by omega) h1 h2), h n (by omega) (by omega) (by omega)]; grind
theorem sum_fst (f : Nat → Int) (n : Nat) : sumN f (n + 1) = f 0 + sumN (fun i => f (i + 1)) n := by
  induction n with
  | zero => simp [sumN]
  | succ n ih => rw [sumN, ih, sumN]; grind
theorem sum_swap (f : Nat → Nat → Int) (m n : Nat) : sumN (fun i => sumN (fun j => f i j) n) m = sumN (fun j => sumN (fun i => f i j) m) n := by
  induction m with
  | zero => simp only [sumN]; exact (sum_zero (fun _ _ => rfl)).symm
  | succ m ih => rw [sumN, ih, ← sum_add]; rfl
theorem sum_dvd {f : Nat → Int} {n : Nat} {t : Int} (h : ∀ i, i < n → t ∣ f i) : t ∣ sumN f n := by
  induction n with
  | zero => exact Int.dvd_zero t
  | succ n ih => rw [sumN]; exact Int.dvd_add (ih (fun i hi => h i (by omega))) (h n (by omega))
def rmI (i r : Nat) : Nat := if r < i then r else r + 1
abbrev MX : Type := Nat → Nat → Int
def det : Nat → MX → Int
  | 0, _ => 1
  | n + 1, A => sumN (fun i => sg i * A i 0 * det n (fun r c => A (rmI i r) (c + 1))) (n + 1)
theorem rm_lt {n i r : Nat} (h : r < n) : rmI i r < n + 1 := by unfold rmI; split <;> omega
theorem rm_ne (i r : Nat) : rmI i r ≠ i := by unfold rmI; split <;> omega
theorem det_congr : ∀ {n : Nat} {A B : MX}, (∀ r c, r < n → c < n → A r c = B r c) → det n A = det n B
  | 0, _, _, _ => rfl
  | n + 1, A, B, h => by
    rw [det, det]
    refine sum_congr (fun i hi => ?_)
    rw [h i 0 hi (by omega), det_congr (n := n) (B := fun r c => B (rmI i r) (c + 1)) (fun r c hr hc => h _ _ (rm_lt hr) (by omega))]
theorem det_mod {t : Int} : ∀ {n : Nat} {A B : MX}, (∀ r c, r < n → c < n → t ∣ A r c - B r c) → t ∣ det n A - det n B
  | 0, _, _, _ => by simp [det]
  | n + 1, A, B, h => by
    rw [det, det]
    have e : sumN (fun i => sg i * A i 0 * det n (fun r c => A (rmI i r) (c + 1))) (n + 1) - sumN (fun i => sg i * B i 0 * det n (fun r c => B (rmI i r) (c + 1))) (n + 1) = sumN (fun i => sg i * A i 0 * det n (fun r c => A (rmI i r) (c + 1)) - sg i * B i 0 * det n (fun r c => B (rmI i r) (c + 1))) (n + 1) := by
      have := sum_lin (fun i => sg i * A i 0 * det n (fun r c => A (rmI i r) (c + 1))) (fun i => sg i * B i 0 * det n (fun r c => B (rmI i r) (c + 1))) 1 (-1) (n + 1)
      rw [show (1 : Int) * sumN (fun i => sg i * A i 0 * det n (fun r c => A (rmI i r) (c + 1))) (n + 1) + -1 * sumN (fun i => sg i * B i 0 * det n (fun r c => B (rmI i r) (c + 1))) (n + 1) = sumN (fun i => sg i * A i 0 * det n (fun r c => A (rmI i r) (c + 1))) (n + 1) - sumN (fun i => sg i * B i 0 * det n (fun r c => B (rmI i r) (c + 1))) (n + 1) by grind] at this
      rw [← this]
      exact sum_congr (fun i _ => by grind)
    rw [e]
    refine sum_dvd (fun i hi => ?_)
    obtain ⟨x, hx⟩ := h i 0 hi (by omega)
    obtain ⟨y, hy⟩ := det_mod (n := n) (A := fun r c => A (rmI i r) (c + 1)) (B := fun r c => B (rmI i r) (c + 1)) (fun r c hr hc => h _ _ (rm_lt hr) (by omega))
    refine ⟨sg i * (x * det n (fun r c => A (rmI i r) (c + 1)) + B i 0 * y), ?_⟩
    have a : A i 0 = B i 0 + t * x := by omega
    have b : det n (fun r c => A (rmI i r) (c + 1)) = det n (fun r c => B (rmI i r) (c + 1)) + t * y := by omega
    rw [a, b]; grind
/-- a row put in another's place -/
def upR (A : MX) (j : Nat) (v : Nat → Int) : MX := fun r c => if r = j then v c else A r c
theorem det_lin : ∀ {n : Nat} {A : MX} {j : Nat} (_ : j < n) (u v : Nat → Int) (x y : Int), det n (upR A j (fun c => x * u c + y * v c)) = x * det n (upR A j u) + y * det n (upR A j v)
  | 0, _, _, hj, _, _, _, _ => by omega
  | n + 1, A, j, hj, u, v, x, y => by
    rw [det, det, det, ← sum_lin]
    refine sum_congr (fun i hi => ?_)
    by_cases hij : i = j
    · subst hij
      have e : ∀ w : Nat → Int, (fun r c => upR A i w (rmI i r) (c + 1)) = fun r c => A (rmI i r) (c + 1) := by
        intro w; funext r c
        unfold upR
        rw [if_neg (rm_ne i r)]
      rw [e, e, e]
      unfold upR
      rw [if_pos rfl, if_pos rfl, if_pos rfl]
      grind
    · have hj' : (if j < i then j else j - 1) < n := by split <;> omega
      have e : ∀ w : Nat → Int, (fun r c => upR A j w (rmI i r) (c + 1)) = upR (fun r c => A (rmI i r) (c + 1)) (if j < i then j else j - 1) (fun c => w (c + 1)) := by
        intro w; funext r c
        unfold upR
        by_cases hr : rmI i r = j
        · rw [if_pos hr, if_pos (by unfold rmI at hr; split at hr <;> split <;> omega)]
        · rw [if_neg hr, if_neg (by unfold rmI at hr; split at hr <;> split <;> omega)]
      have e0 : ∀ w : Nat → Int, upR A j w i 0 = A i 0 := fun w => by unfold upR; rw [if_neg hij]
      rw [e, e, e, e0, e0, e0, det_lin hj' (fun c => u (c + 1)) (fun c => v (c + 1)) x y]
      grind
theorem up_self (A : MX) (j : Nat) : upR A j (A j) = A := by
  funext r c; unfold upR
  by_cases h : r = j
  · rw [if_pos h, h]
  · rw [if_neg h]
theorem det_adj : ∀ {n : Nat} {A : MX} {a : Nat} (_ : a + 1 < n) (_ : ∀ c, c < n → A a c = A (a + 1) c), det n A = 0
  | 0, _, _, h, _ => by omega
  | n + 1, A, a, ha, h => by
    rw [det]
    rw [sum_two ha (fun i hi h1 h2 => ?_)]
    · have e : det n (fun r c => A (rmI a r) (c + 1)) = det n (fun r c => A (rmI (a + 1) r) (c + 1)) := by
        refine det_congr (fun r c hr hc => ?_)
        by_cases hra : r = a
        · subst hra
          rw [show rmI r r = r + 1 by unfold rmI; rw [if_neg (by omega)], show rmI (r + 1) r = r by unfold rmI; rw [if_pos (by omega)]]
          exact (h _ (by omega)).symm
        · rw [show rmI a r = rmI (a + 1) r by unfold rmI; split <;> split <;> omega]
      rw [e, h 0 (by omega), sg_s]
      grind
    · have : det n (fun r c => A (rmI i r) (c + 1)) = 0 := by
        by_cases hia : i < a
        · refine det_adj (a := a - 1) (by omega) (fun c hc => ?_)
          show A (rmI i (a - 1)) (c + 1) = A (rmI i (a - 1 + 1)) (c + 1)
          rw [show rmI i (a - 1) = a by unfold rmI; rw [if_neg (by omega)]; omega, show rmI i (a - 1 + 1) = a + 1 by unfold rmI; rw [if_neg (by omega)]; omega]
          exact h _ (by omega)
        · refine det_adj (a := a) (by omega) (fun c hc => ?_)
          show A (rmI i a) (c + 1) = A (rmI i (a + 1)) (c + 1)
          rw [show rmI i a = a by unfold rmI; rw [if_pos (by omega)], show rmI i (a + 1) = a + 1 by unfold rmI; rw [if_pos (by omega)]]
          exact h _ (by omega)
      rw [this]; grind
/-- two rows -/
def uRR (A : MX) (a b : Nat) (u v : Nat → Int) : MX := upR (upR A a u) b v
theorem up_comm {A : MX} {a b : Nat} (h : a ≠ b) (u v : Nat → Int) : upR (upR A a u) b v = upR (upR A b v) a u := by
  funext r c; unfold upR
  by_cases h1 : r = a
  · rw [if_neg (by omega), if_pos h1, if_pos h1]
  · by_cases h2 : r = b
    · rw [if_pos h2, if_neg h1, if_pos h2]
    · rw [if_neg h2, if_neg h1, if_neg h1, if_neg h2]
theorem det_sw2 {n : Nat} {A : MX} {a b : Nat} (ha : a < n) (hb : b < n) (hab : a ≠ b) (hz : ∀ w, det n (uRR A a b w w) = 0) (u v : Nat → Int) : det n (uRR A a b u v) = - det n (uRR A a b v u) := by
  have h := hz (fun c => 1 * u c + 1 * v c)
  have e : ∀ w z : Nat → Int, uRR A a b (fun c => 1 * w c + 1 * z c) (fun c => 1 * u c + 1 * v c) = upR (upR A a (fun c => 1 * w c + 1 * z c)) b (fun c => 1 * u c + 1 * v c) := fun _ _ => rfl
  rw [e, det_lin hb u v 1 1, up_comm hab _ u, up_comm hab _ v, det_lin ha u v 1 1, det_lin ha u v 1 1, ← up_comm hab, ← up_comm hab, ← up_comm hab, ← up_comm hab] at h
  have h1 := hz u
  have h2 := hz v
  unfold uRR at *
  omega
theorem det_eqr : ∀ (d : Nat) {n : Nat} {A : MX} {a b : Nat} (_ : b = a + 1 + d) (_ : b < n) (_ : ∀ c, c < n → A a c = A b c), det n A = 0
  | 0, n, A, a, b, h, hb, he => by
    subst h
    exact det_adj hb he
  | d + 1, n, A, a, b, h, hb, he => by
    have e : A = uRR A (b - 1) b (A (b - 1)) (A b) := by
      unfold uRR; rw [up_self, up_self]
    rw [e, det_sw2 (by omega) hb (by omega) (fun w => ?_) _ _]
    · rw [det_eqr d (a := a) (b := b - 1) (by omega) (by omega) (fun c hc => ?_)]; rfl
      unfold uRR upR
      rw [if_neg (by omega), if_neg (by omega), if_neg (by omega), if_pos rfl]
      exact he c hc
    · refine det_adj (a := b - 1) (by omega) (fun c hc => ?_)
      unfold uRR upR
      rw [if_neg (by omega), if_pos rfl, if_pos (by omega)]
theorem det_eq0 {n : Nat} {A : MX} {a b : Nat} (ha : a < n) (hb : b < n) (hab : a ≠ b) (he : ∀ c, c < n → A a c = A b c) : det n A = 0 := by
  rcases Nat.lt_or_ge a b with h | h
  · exact det_eqr (b - a - 1) (by omega) hb he
  · exact det_eqr (a - b - 1) (a := b) (b := a) (by omega) ha (fun c hc => (he c hc).symm)
theorem det_swap {n : Nat} {A : MX} {a b : Nat} (ha : a < n) (hb : b < n) (hab : a ≠ b) (u v : Nat → Int) : det n (uRR A a b u v) = - det n (uRR A a b v u) := by
  refine det_sw2 ha hb hab (fun w => ?_) u v
  refine det_eq0 ha hb hab (fun c _ => ?_)
  unfold uRR upR
  rw [if_neg hab, if_pos rfl, if_pos rfl]
theorem det_op {n : Nat} {A : MX} {a b : Nat} (ha : a < n) (hb : b < n) (hab : a ≠ b) (x : Int) : det n (upR A b (fun c => A b c + x * A a c)) = det n A := by
  have e : (fun c => A b c + x * A a c) = fun c => 1 * A b c + x * A a c := by funext c; grind
  rw [e, det_lin hb, up_self, det_eq0 (a := a) (b := b) ha hb hab (A := upR A b (A a)) (fun c _ => by unfold upR; rw [if_neg hab, if_pos rfl])]
  grind
/-! expansion by the first row; the transposed matrix -/
theorem det_row : ∀ (n : Nat) (A : MX), det (n + 1) A = sumN (fun j => sg j * A 0 j * det n (fun r c => A (r + 1) (rmI j c))) (n + 1)
  | 0, A => by simp [det, sumN, rmI]
  | n + 1, A => by
    rw [det, sum_fst, sum_fst (fun j => sg j * A 0 j * det (n + 1) (fun r c => A (r + 1) (rmI j c)))]
    have e0 : (fun r c => A (rmI 0 r) (c + 1)) = fun r c => A (r + 1) (rmI 0 c) := by
      funext r c; unfold rmI; rw [if_neg (by omega), if_neg (by omega)]
    rw [e0]
    congr 1
    have l : ∀ i, i < n + 1 → sg (i + 1) * A (i + 1) 0 * det (n + 1) (fun r c => A (rmI (i + 1) r) (c + 1)) = sumN (fun j => - (sg i * sg j * A (i + 1) 0 * A 0 (j + 1) * det n (fun r c => A (rmI i r + 1) (rmI j c + 1)))) (n + 1) := by
      intro i hi
      rw [det_row n, ← sum_mul]
      refine sum_congr (fun j hj => ?_)
      have e1 : (fun r c => A (rmI (i + 1) (r + 1)) (rmI j c + 1)) = fun r c => A (rmI i r + 1) (rmI j c + 1) := by
        funext r c
        rw [show rmI (i + 1) (r + 1) = rmI i r + 1 by unfold rmI; split <;> split <;> omega]
      rw [e1, show rmI (i + 1) 0 = 0 by unfold rmI; rw [if_pos (by omega)], sg_s]
      grind
    have r : ∀ j, j < n + 1 → sg (j + 1) * A 0 (j + 1) * det (n + 1) (fun r c => A (r + 1) (rmI (j + 1) c)) = sumN (fun i => - (sg i * sg j * A (i + 1) 0 * A 0 (j + 1) * det n (fun r c => A (rmI i r + 1) (rmI j c + 1)))) (n + 1) := by
      intro j hj
      rw [det, ← sum_mul]
      refine sum_congr (fun i hi => ?_)
      have e1 : (fun r c => A (rmI i r + 1) (rmI (j + 1) (c + 1))) = fun r c => A (rmI i r + 1) (rmI j c + 1) := by
        funext r c
        rw [show rmI (j + 1) (c + 1) = rmI j c + 1 by unfold rmI; split <;> split <;> omega]
      rw [e1, show rmI (j + 1) 0 = 0 by unfold rmI; rw [if_pos (by omega)], sg_s]
      grind
    rw [sum_congr l, sum_congr r, sum_swap]
theorem det_T : ∀ (n : Nat) (A : MX), det n (fun r c => A c r) = det n A
  | 0, _ => rfl
  | n + 1, A => by
    rw [det_row, det]
    refine sum_congr (fun i _ => ?_)
    rw [← det_T n (fun r c => A (rmI i r) (c + 1))]

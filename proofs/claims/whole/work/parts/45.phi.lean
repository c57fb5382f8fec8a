/-! matrices that factor through k columns, modulo t -/
theorem rm_inv {i0 i : Nat} (h : i ≠ i0) : rmI i0 (if i < i0 then i else i - 1) = i := by
  unfold rmI
  by_cases h1 : i < i0
  · rw [if_pos h1, if_pos h1]
  · rw [if_neg h1, if_neg (by omega)]; omega
theorem kern : ∀ (k : Nat) (Y : MX), ∃ v : Nat → Int, (∃ j, j < k + 1 ∧ v j ≠ 0) ∧ ∀ i, i < k → sumN (fun j => Y i j * v j) (k + 1) = 0
  | 0, _ => ⟨fun _ => 1, ⟨0, by omega, by decide⟩, fun i hi => by omega⟩
  | k + 1, Y => by
    by_cases hz : ∃ i, i < k + 1 ∧ Y i (k + 1) ≠ 0
    · obtain ⟨i0, hi0, hc⟩ := hz
      obtain ⟨w, ⟨j0, hj0, hw⟩, hs⟩ := kern k (fun i j => Y i0 (k + 1) * Y (rmI i0 i) j - Y (rmI i0 i) (k + 1) * Y i0 j)
      refine ⟨fun j => if j < k + 1 then Y i0 (k + 1) * w j else - sumN (fun j => Y i0 j * w j) (k + 1), ⟨j0, by omega, ?_⟩, fun i hi => ?_⟩
      · dsimp only
        rw [if_pos hj0]
        exact Int.mul_ne_zero hc hw
      · rw [sumN]
        dsimp only
        rw [if_neg (by omega : ¬ k + 1 < k + 1)]
        have e : sumN (fun j => Y i j * (if j < k + 1 then Y i0 (k + 1) * w j else - sumN (fun j => Y i0 j * w j) (k + 1))) (k + 1) = sumN (fun j => Y i0 (k + 1) * (Y i j * w j)) (k + 1) := sum_congr (fun j hj => by rw [if_pos hj]; grind)
        rw [e, sum_mul]
        by_cases hii : i = i0
        · subst hii; grind
        · have hi' : (if i < i0 then i else i - 1) < k := by split <;> omega
          have := hs _ hi'
          rw [rm_inv hii] at this
          have e2 : sumN (fun j => (Y i0 (k + 1) * Y i j - Y i (k + 1) * Y i0 j) * w j) (k + 1) = Y i0 (k + 1) * sumN (fun j => Y i j * w j) (k + 1) + (- Y i (k + 1)) * sumN (fun j => Y i0 j * w j) (k + 1) := by
            rw [← sum_lin]
            exact sum_congr (fun j _ => by grind)
          rw [e2] at this
          grind
    · refine ⟨fun j => if j = k + 1 then 1 else 0, ⟨k + 1, by omega, by dsimp only; rw [if_pos rfl]; decide⟩, fun i hi => ?_⟩
      have h0 : Y i (k + 1) = 0 := Decidable.byContradiction (fun h => hz ⟨i, hi, h⟩)
      refine sum_zero (fun j hj => ?_)
      dsimp only
      by_cases hjk : j = k + 1
      · rw [hjk, h0]; grind
      · rw [if_neg hjk]; grind
def gcN (v : Nat → Int) : Nat → Nat
  | 0 => 0
  | n + 1 => Nat.gcd (gcN v n) (v n).natAbs
theorem gc_dvd {v : Nat → Int} : ∀ {n j : Nat}, j < n → gcN v n ∣ (v j).natAbs
  | n + 1, j, h => by
    rw [gcN]
    by_cases hj : j = n
    · subst hj; exact Nat.gcd_dvd_right _ _
    · exact Nat.dvd_trans (Nat.gcd_dvd_left _ _) (gc_dvd (by omega))
theorem gc_all {v : Nat → Int} {t f : Nat} : ∀ {n : Nat}, (∀ j, j < n → t ∣ f * (v j).natAbs) → t ∣ f * gcN v n
  | 0, _ => by rw [gcN]; exact Nat.dvd_zero t
  | n + 1, h => by
    rw [gcN, ← Nat.gcd_mul_left]
    exact Nat.dvd_gcd (gc_all (fun j hj => h j (by omega))) (h n (by omega))
theorem gc_pos {v : Nat → Int} : ∀ {n j : Nat}, j < n → v j ≠ 0 → 0 < gcN v n := by
  intro n j hj hv
  rcases Nat.eq_zero_or_pos (gcN v n) with h | h
  · have := gc_dvd (v := v) hj
    rw [h, Nat.zero_dvd] at this
    exact absurd (Int.natAbs_eq_zero.mp this) hv
  · exact h
theorem gc_div {v w : Nat → Int} {g : Nat} (hg : 0 < g) : ∀ {n : Nat}, (∀ j, j < n → v j = g * w j) → gcN v n = g * gcN w n
  | 0, _ => rfl
  | n + 1, h => by
    rw [gcN, gcN, gc_div hg (fun j hj => h j (by omega)), h n (by omega), Int.natAbs_mul, Int.natAbs_natCast, Nat.gcd_mul_left]
theorem kern1 (k : Nat) (Y : MX) : ∃ v : Nat → Int, gcN v (k + 1) = 1 ∧ ∀ i, i < k → sumN (fun j => Y i j * v j) (k + 1) = 0 := by
  obtain ⟨v, ⟨j0, hj0, hv0⟩, hs⟩ := kern k Y
  have hp := gc_pos hj0 hv0
  have hd : ∀ j, j < k + 1 → v j = (gcN v (k + 1) : Int) * (v j / (gcN v (k + 1) : Int)) := by
    intro j hj
    have h : (gcN v (k + 1) : Int) ∣ v j := Int.ofNat_dvd_left.mpr (gc_dvd hj)
    exact (Int.mul_ediv_cancel' h).symm
  refine ⟨fun j => v j / (gcN v (k + 1) : Int), ?_, fun i hi => ?_⟩
  · have := gc_div hp hd
    have h2 : gcN v (k + 1) * gcN (fun j => v j / (gcN v (k + 1) : Int)) (k + 1) = gcN v (k + 1) * 1 := by rw [← this, Nat.mul_one]
    exact Nat.eq_of_mul_eq_mul_left hp h2
  · have h1 := hs i hi
    have e : sumN (fun j => Y i j * v j) (k + 1) = (gcN v (k + 1) : Int) * sumN (fun j => Y i j * (v j / (gcN v (k + 1) : Int))) (k + 1) := by
      rw [← sum_mul]
      refine sum_congr (fun j hj => ?_)
      have := hd j hj
      generalize v j / (gcN v (k + 1) : Int) = q at *
      rw [this]; grind
    rw [e] at h1
    rcases Int.mul_eq_zero.mp h1 with h | h
    · omega
    · exact h
theorem gc1_dvd {v : Nat → Int} {n : Nat} {t f : Int} (h1 : gcN v n = 1) (h : ∀ j, j < n → t ∣ f * v j) : t ∣ f := by
  have := gc_all (v := v) (t := t.natAbs) (f := f.natAbs) (n := n) (fun j hj => by
    rw [← Int.natAbs_mul]; exact Int.natAbs_dvd_natAbs.mpr (h j hj))
  rw [h1, Nat.mul_one] at this
  exact Int.natAbs_dvd_natAbs.mp this
def Phi (t : Int) (k R C : Nat) (A : MX) : Prop := ∃ X Y : MX, ∀ r c, r < R → c < C → t ∣ A r c - sumN (fun j => X r j * Y j c) k
theorem Phi_row {t : Int} {k R R' C : Nat} {A B : MX} (f g : Nat → Nat) (x y : Nat → Int) (hf : ∀ r, r < R' → f r < R ∧ g r < R) (h : ∀ r c, r < R' → c < C → t ∣ B r c - (x r * A (f r) c + y r * A (g r) c)) (hA : Phi t k R C A) : Phi t k R' C B := by
  obtain ⟨X, Y, hXY⟩ := hA
  refine ⟨fun r j => x r * X (f r) j + y r * X (g r) j, Y, fun r c hr hc => ?_⟩
  obtain ⟨a, ha⟩ := h r c hr hc
  obtain ⟨b, hb⟩ := hXY (f r) c (hf r hr).1 hc
  obtain ⟨d, hd⟩ := hXY (g r) c (hf r hr).2 hc
  have e : sumN (fun j => (x r * X (f r) j + y r * X (g r) j) * Y j c) k = x r * sumN (fun j => X (f r) j * Y j c) k + y r * sumN (fun j => X (g r) j * Y j c) k := by
    rw [← sum_lin]; exact sum_congr (fun j _ => by grind)
  rw [e]
  refine ⟨a + x r * b + y r * d, ?_⟩
  grind
theorem Phi_T {t : Int} {k R C : Nat} {A : MX} (h : Phi t k R C A) : Phi t k C R (fun r c => A c r) := by
  obtain ⟨X, Y, hXY⟩ := h
  refine ⟨fun r j => Y j r, fun j c => X c j, fun r c hr hc => ?_⟩
  have e : sumN (fun j => Y j r * X c j) k = sumN (fun j => X c j * Y j r) k := sum_congr (fun j _ => Int.mul_comm _ _)
  rw [e]; exact hXY c r hc hr
theorem Phi_col {t : Int} {k R C C' : Nat} {A B : MX} (f g : Nat → Nat) (x y : Nat → Int) (hf : ∀ c, c < C' → f c < C ∧ g c < C) (h : ∀ r c, r < R → c < C' → t ∣ B r c - (x c * A r (f c) + y c * A r (g c))) (hA : Phi t k R C A) : Phi t k R C' B :=
  Phi_T (A := fun r c => B c r) (Phi_row f g x y hf (fun r c hr hc => h c r hc hr) (Phi_T hA))
theorem Phi_mod {t : Int} {k R C : Nat} {A B : MX} (h : ∀ r c, r < R → c < C → t ∣ B r c - A r c) (hA : Phi t k R C A) : Phi t k R C B :=
  Phi_row (fun r => r) (fun r => r) (fun _ => 1) (fun _ => 0) (fun r hr => ⟨hr, hr⟩) (fun r c hr hc => by
    have := h r c hr hc
    rw [show (1 : Int) * A r c + 0 * A r c = A r c by grind]; exact this) hA
theorem Phi_sub {t : Int} {k R C R' C' : Nat} {A : MX} (f g : Nat → Nat) (hf : ∀ r, r < R' → f r < R) (hg : ∀ c, c < C' → g c < C) (hA : Phi t k R C A) : Phi t k R' C' (fun r c => A (f r) (g c)) := by
  obtain ⟨X, Y, hXY⟩ := hA
  exact ⟨fun r j => X (f r) j, fun j c => Y j (g c), fun r c hr hc => hXY _ _ (hf r hr) (hg c hc)⟩
theorem Phi_le {t : Int} {k k' R C : Nat} {A : MX} (hk : k ≤ k') (hA : Phi t k R C A) : Phi t k' R C A := by
  obtain ⟨X, Y, hXY⟩ := hA
  refine ⟨fun r j => if j < k then X r j else 0, Y, fun r c hr hc => ?_⟩
  have e : ∀ m, sumN (fun j => (if j < k then X r j else 0) * Y j c) (k + m) = sumN (fun j => X r j * Y j c) k := by
    intro m
    induction m with
    | zero => exact sum_congr (fun j hj => by rw [if_pos (show j < k from hj)])
    | succ m ih =>
      rw [show k + (m + 1) = (k + m) + 1 by omega, sumN, ih, if_neg (by omega)]; grind
  have := e (k' - k)
  rw [show k + (k' - k) = k' by omega] at this
  rw [this]; exact hXY r c hr hc
/-- a vector that such a matrix sends to 0 -/
theorem Phi_ker {t : Int} {k : Nat} {A : MX} (hA : Phi t k (k + 1) (k + 1) A) : ∃ v : Nat → Int, gcN v (k + 1) = 1 ∧ ∀ r, r < k + 1 → t ∣ sumN (fun c => A r c * v c) (k + 1) := by
  obtain ⟨X, Y, hXY⟩ := hA
  obtain ⟨v, hv, hs⟩ := kern1 k Y
  refine ⟨v, hv, fun r hr => ?_⟩
  have e : sumN (fun c => sumN (fun j => X r j * Y j c) k * v c) (k + 1) = 0 := by
    have e1 : sumN (fun c => sumN (fun j => X r j * Y j c) k * v c) (k + 1) = sumN (fun c => sumN (fun j => X r j * (Y j c * v c)) k) (k + 1) := by
      refine sum_congr (fun c _ => ?_)
      rw [Int.mul_comm, ← sum_mul]
      exact sum_congr (fun j _ => by grind)
    rw [e1, sum_swap]
    refine sum_zero (fun j hj => ?_)
    rw [sum_mul, hs j hj]; grind
  have e2 : sumN (fun c => A r c * v c) (k + 1) = sumN (fun c => (A r c - sumN (fun j => X r j * Y j c) k) * v c) (k + 1) := by
    have := sum_lin (fun c => A r c * v c) (fun c => sumN (fun j => X r j * Y j c) k * v c) 1 (-1) (k + 1)
    rw [e] at this
    rw [show sumN (fun c => A r c * v c) (k + 1) = 1 * sumN (fun c => A r c * v c) (k + 1) + -1 * 0 by grind, ← this]
    exact sum_congr (fun c _ => by grind)
  rw [e2]
  exact sum_dvd (fun c hc => Int.dvd_trans (hXY r c hr hc) (Int.dvd_mul_right _ _))
theorem Phi_dg {t f : Int} {k : Nat} (h : Phi t k (k + 1) (k + 1) (fun r c => if r = c then f else 0)) : t ∣ f := by
  obtain ⟨v, hv, hs⟩ := Phi_ker h
  refine gc1_dvd hv (fun j hj => ?_)
  have := hs j hj
  rw [sum_one (a := j) hj (fun c _ hc => by rw [if_neg (Ne.symm hc)]; grind), if_pos rfl] at this
  exact this
theorem det_sumr {n : Nat} {B : MX} {j : Nat} (hj : j < n) (v : Nat → Int) : ∀ m, m ≤ n → det n (upR B j (fun c => sumN (fun i => v i * B i c) m)) = if j < m then v j * det n B else 0
  | 0, _ => by
    rw [if_neg (by omega)]
    have := det_lin (A := B) hj (fun _ => 0) (fun _ => 0) 0 0
    rw [det_congr (B := upR B j (fun c => 0 * 0 + 0 * 0)) (fun r c _ _ => by unfold upR; rfl)]
    rw [this]; grind
  | m + 1, hm => by
    have e : (fun c => sumN (fun i => v i * B i c) (m + 1)) = fun c => 1 * sumN (fun i => v i * B i c) m + v m * B m c := by funext c; rw [sumN]; grind
    rw [e, det_lin hj (fun c => sumN (fun i => v i * B i c) m) (B m) 1 (v m), det_sumr hj v m (by omega)]
    by_cases hjm : j = m
    · subst hjm
      rw [if_neg (by omega), if_pos (by omega), up_self]; grind
    · rw [det_eq0 (a := m) (b := j) (by omega) hj (Ne.symm hjm) (A := upR B j (B m)) (fun c _ => by unfold upR; rw [if_neg (Ne.symm hjm), if_pos rfl])]
      by_cases h : j < m
      · rw [if_pos h, if_pos (by omega)]; grind
      · rw [if_neg h, if_neg (by omega)]; grind
theorem Phi_det {t : Int} {k r : Nat} {A : MX} (hk : k < r) (hA : Phi t k r r A) : t ∣ det r A := by
  obtain ⟨m, rfl⟩ : ∃ m, r = m + 1 := ⟨r - 1, by omega⟩
  obtain ⟨v, hv, hs⟩ := Phi_ker (Phi_le (k' := m) (by omega) hA)
  refine gc1_dvd hv (fun j hj => ?_)
  have h1 := det_sumr (B := fun r c => A c r) hj v (m + 1) (Nat.le_refl _)
  rw [if_pos hj, det_T (m + 1) A] at h1
  rw [Int.mul_comm, ← h1]
  have h2 := det_mod (t := t) (n := m + 1) (A := upR (fun r c => A c r) j (fun c => sumN (fun i => v i * A c i) (m + 1))) (B := upR (fun r c => A c r) j (fun _ => 0 * 0 + 0 * 0)) (fun r c hr hc => by
    unfold upR
    by_cases h : r = j
    · rw [if_pos h, if_pos h]
      have := hs c hc
      dsimp only
      rw [sum_congr (g := fun c_1 => A c c_1 * v c_1) (fun i _ => Int.mul_comm _ _)]
      rw [show sumN (fun c_1 => A c c_1 * v c_1) (m + 1) - (0 * 0 + 0 * 0) = sumN (fun c_1 => A c c_1 * v c_1) (m + 1) by grind]
      exact this
    · rw [if_neg h, if_neg h, Int.sub_self]; exact Int.dvd_zero t)
  rw [det_lin hj (fun _ => 0) (fun _ => 0) 0 0] at h2
  rw [show ∀ z a b : Int, z - (0 * a + 0 * b) = z by intro z a b; grind] at h2
  exact h2

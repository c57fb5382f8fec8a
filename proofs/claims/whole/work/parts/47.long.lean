/-! longs as whole numbers -/
def lI (z : Int) : Int64 := Int64.ofInt z
theorem lN_I (n : Nat) : lN n = lI n := by
  unfold lN lI
  apply Int64.toBitVec_inj.mp
  rfl
theorem lI_add (a b : Int) : lI a + lI b = lI (a + b) := (Int64.ofInt_add a b).symm
theorem lI_mul (a b : Int) : lI a * lI b = lI (a * b) := (Int64.ofInt_mul a b).symm
theorem lI_sub (a b : Int) : lI a - lI b = lI (a - b) := (Int64.ofInt_sub a b).symm
theorem lI_t {z : Int} (h1 : -9223372036854775808 ≤ z) (h2 : z < 9223372036854775808) : (lI z).toInt = z := Int64.toInt_ofInt_of_le h1 h2
theorem lI_div {a b : Int} (a1 : -9223372036854775808 ≤ a) (a2 : a < 9223372036854775808) (b1 : -9223372036854775808 ≤ b) (b2 : b < 9223372036854775808) : lI a / lI b = lI (a.tdiv b) := by
  refine (Int64.ofInt_tdiv ?_ ?_ ?_ ?_).symm
  · rw [show Int64.minValue.toInt = -9223372036854775808 by decide]; exact a1
  · rw [show Int64.maxValue.toInt = 9223372036854775807 by decide]; omega
  · rw [show Int64.minValue.toInt = -9223372036854775808 by decide]; exact b1
  · rw [show Int64.maxValue.toInt = 9223372036854775807 by decide]; omega
theorem lI_rem {a b : Int} (a1 : -9223372036854775808 ≤ a) (a2 : a < 9223372036854775808) (b1 : -9223372036854775808 ≤ b) (b2 : b < 9223372036854775808) : lI a - lI a / lI b * lI b = lI (a.tmod b) := by
  rw [lI_div a1 a2 b1 b2, lI_mul, lI_sub, Int.tmod_def, Int.mul_comm]
theorem lI_mod {a b : Int} (a1 : 0 ≤ a) (a2 : a < 9223372036854775808) (b1 : 0 ≤ b) (b2 : b < 9223372036854775808) : lI a - lI a / lI b * lI b = lI (a % b) := by
  rw [lI_rem (by omega) a2 (by omega) b2, Int.tmod_eq_emod_of_nonneg a1]
theorem lI_eq {a b : Int} (a1 : -9223372036854775808 ≤ a) (a2 : a < 9223372036854775808) (b1 : -9223372036854775808 ≤ b) (b2 : b < 9223372036854775808) : lI a = lI b ↔ a = b := by
  rw [← Int64.toInt_inj, lI_t a1 a2, lI_t b1 b2]
theorem lI_lt {a b : Int} (a1 : -9223372036854775808 ≤ a) (a2 : a < 9223372036854775808) (b1 : -9223372036854775808 ≤ b) (b2 : b < 9223372036854775808) : lI a < lI b ↔ a < b := by
  rw [Int64.lt_iff_toInt_lt, lI_t a1 a2, lI_t b1 b2]
theorem cmp_0 {a b : Int} (a1 : -9223372036854775808 ≤ a) (a2 : a < 9223372036854775808) (b1 : -9223372036854775808 ≤ b) (b2 : b < 9223372036854775808) : lg_cmp (lI a) (lI b) = 0 ↔ a = b := by
  rw [lg_cmp_eq, lI_eq a1 a2 b1 b2]
theorem cmp_ge {a b : Int} (a1 : -9223372036854775808 ≤ a) (a2 : a < 9223372036854775808) (b1 : -9223372036854775808 ≤ b) (b2 : b < 9223372036854775808) : 0 ≤ lg_cmp (lI a) (lI b) ↔ b ≤ a := by
  have h1 := lI_lt b1 b2 a1 a2
  have h2 := lI_eq a1 a2 b1 b2
  unfold lg_cmp
  by_cases h : b < a
  · rw [if_pos (show lI a > lI b from h1.mpr h)]
    exact ⟨fun _ => by omega, fun _ => by decide⟩
  · rw [if_neg (fun q => h (h1.mp q))]
    by_cases he : a = b
    · rw [if_pos (h2.mpr he)]; exact ⟨fun _ => by omega, fun _ => by decide⟩
    · rw [if_neg (fun q => he (h2.mp q))]
      exact ⟨fun q => absurd q (by decide), fun q => by omega⟩
theorem cmp_le {a b : Int} (a1 : -9223372036854775808 ≤ a) (a2 : a < 9223372036854775808) (b1 : -9223372036854775808 ≤ b) (b2 : b < 9223372036854775808) : lg_cmp (lI a) (lI b) ≤ 0 ↔ a ≤ b := by
  have h1 := lI_lt b1 b2 a1 a2
  have h2 := lI_eq a1 a2 b1 b2
  unfold lg_cmp
  by_cases h : b < a
  · rw [if_pos (show lI a > lI b from h1.mpr h)]
    exact ⟨fun q => absurd q (by decide), fun q => by omega⟩
  · rw [if_neg (fun q => h (h1.mp q))]
    by_cases he : a = b
    · rw [if_pos (h2.mpr he)]; exact ⟨fun _ => by omega, fun _ => by decide⟩
    · rw [if_neg (fun q => he (h2.mp q))]
      exact ⟨fun _ => by omega, fun _ => by decide⟩
theorem lI_res {v m : Int} (v1 : -4611686018427387904 ≤ v) (v2 : v < 9223372036854775808) (m1 : 0 < m) (m2 : m < 9223372036854775808) : iRes (lI v) (lI m) = lI (v % m) := by
  unfold iRes
  rw [lI_rem (by omega) v2 (by omega) m2, lN_I]
  have hm := Int.emod_nonneg v (show m ≠ 0 by omega)
  have hl := Int.emod_lt_of_pos v m1
  by_cases hv : 0 ≤ v
  · rw [Int.tmod_eq_emod_of_nonneg hv, if_pos ((cmp_ge (by omega) (by omega) (by decide) (by decide)).mpr (by omega))]
  · have e : v.tmod m = - ((-v) % m) := by
      rw [← Int.tmod_eq_emod_of_nonneg (show 0 ≤ -v by omega), Int.neg_tmod]; omega
    have hn := Int.emod_nonneg (-v) (show m ≠ 0 by omega)
    have hnl := Int.emod_lt_of_pos (-v) m1
    have key : v % m = if (-v) % m = 0 then 0 else m - (-v) % m := by
      have h1 := Int.mul_ediv_add_emod (-v) m
      by_cases h0 : (-v) % m = 0
      · rw [if_pos h0]
        have : m ∣ v := ⟨-((-v) / m), by rw [h0] at h1; grind⟩
        exact Int.emod_eq_zero_of_dvd this
      · rw [if_neg h0]
        have h2 : v = (m - (-v) % m) + m * (-((-v) / m) - 1) := by grind
        rw [h2, Int.add_mul_emod_self_left, Int.emod_eq_of_lt (by omega) (by omega), ← h2]
    rw [e, key]
    by_cases h0 : (-v) % m = 0
    · rw [if_pos h0, h0, if_pos ((cmp_ge (by omega) (by omega) (by decide) (by decide)).mpr (by omega))]; rfl
    · rw [if_neg h0, if_neg (fun q => by
        have := (cmp_ge (by omega) (by omega) (by decide) (by decide)).mp q
        omega), lI_add]
      congr 1; omega
theorem sh16 (x : Int64) : x <<< (Int32.toInt64 (nI 16) &&& 63) = x * lI 65536 := by
  apply Int64.toBitVec_inj.mp
  rw [Int64.toBitVec_shiftLeft, Int64.toBitVec_mul]
  rw [show ((Int32.toInt64 (nI 16) &&& 63).toBitVec.smod 64) = 16#64 by decide, show (lI 65536).toBitVec = BitVec.twoPow 64 16 by decide]
  exact BitVec.shiftLeft_eq_mul_twoPow _ 16

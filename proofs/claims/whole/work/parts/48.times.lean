/-! shifts of longs; products modulo a number -/
theorem sh_c : ∀ b, b < 63 → ((Int32.toInt64 (nI b) &&& 63).toBitVec.smod 64).toNat = b := by decide +kernel
theorem lI_bv (n : Nat) : (lI n).toBitVec = BitVec.ofNat 64 n := rfl
theorem lI_bn {n : Nat} (h : n < 2 ^ 63) : (lI n).toBitVec.toNat = n := by
  rw [lI_bv, BitVec.toNat_ofNat, Nat.mod_eq_of_lt (by omega)]
theorem lI_of {x : Int64} {n : Nat} (h : x.toBitVec.toNat = n) : x = lI n := by
  apply Int64.toBitVec_inj.mp
  apply BitVec.eq_of_toNat_eq
  rw [h, lI_bv, BitVec.toNat_ofNat, Nat.mod_eq_of_lt]
  rw [← h]; exact x.toBitVec.isLt
theorem lI_shr {n k : Nat} (hn : n < 2 ^ 63) (hk : k < 63) : lI n >>> (Int32.toInt64 (nI k) &&& 63) = lI ((n / 2 ^ k : Nat) : Int) := by
  refine lI_of ?_
  have hm : (lI n).toBitVec.msb = false := by
    rw [BitVec.msb_eq_decide, lI_bn hn]
    exact decide_eq_false (by omega)
  rw [Int64.toBitVec_shiftRight, BitVec.sshiftRight_eq', sh_c k hk, BitVec.sshiftRight_eq_of_msb_false hm, BitVec.toNat_ushiftRight, lI_bn hn, Nat.shiftRight_eq_div_pow]
theorem lI_and {n : Nat} (hn : n < 2 ^ 63) (k : Nat) (hk : k < 63) : lI n &&& lN (2 ^ k - 1) = lI ((n % 2 ^ k : Nat) : Int) := by
  refine lI_of ?_
  have h2 : 2 ^ k ≤ 2 ^ 62 := Nat.pow_le_pow_right (by decide) (by omega)
  rw [Int64.toBitVec_and, BitVec.toNat_and, lI_bn hn, lN_I, lI_bn (by omega), Nat.and_two_pow_sub_one_eq_mod]
theorem lI_cut {n k : Nat} (hn : n < 2 ^ 63) (hk : k < 63) : (lI n >>> (Int32.toInt64 (nI k) &&& 63)) &&& lN 65535 = lI ((n / 2 ^ k % 65536 : Nat) : Int) := by
  have : n / 2 ^ k ≤ n := Nat.div_le_self _ _
  rw [lI_shr hn hk]
  exact lI_and (by omega) 16 (by decide)
theorem lI_bit {n k : Nat} (hn : n < 2 ^ 63) (hk : k < 63) : (lI n >>> (Int32.toInt64 (nI k) &&& 63)) &&& lN 1 = lI ((n / 2 ^ k % 2 : Nat) : Int) := by
  have : n / 2 ^ k ≤ n := Nat.div_le_self _ _
  rw [lI_shr hn hk]
  exact lI_and (by omega) 1 (by decide)
theorem tmS {a b m p k : Nat} (ha : a < m) (hm : m ≤ 2 ^ 46) (hp : p < m) (hb : b < 2 ^ 63) (hk : k < 63) : iTmS (lI a) (lI b) (lI m) (lI p) (nI k) = lI (((p * 65536 + a * (b / 2 ^ k % 65536)) % m : Nat) : Int) := by
  unfold iTmS
  rw [sh16, lI_cut hb hk]
  have e : lI (p : Int) * lI 65536 + lI (a : Int) * lI ((b / 2 ^ k % 65536 : Nat) : Int) = lI ((p * 65536 + a * (b / 2 ^ k % 65536) : Nat) : Int) := by
    rw [lI_mul, lI_mul, lI_add]
    congr 1
  have h1 : b / 2 ^ k % 65536 < 65536 := Nat.mod_lt _ (by decide)
  have h2 : a * (b / 2 ^ k % 65536) ≤ a * 65535 := Nat.mul_le_mul_left _ (by omega)
  generalize a * (b / 2 ^ k % 65536) = y at *
  rw [e, lI_mod (by omega) (by omega) (by omega) (by omega)]
  congr 1
theorem mod_step (x y m : Nat) : (x % m * 65536 + y) % m = (x * 65536 + y) % m := by
  rw [Nat.add_mod, Nat.mul_mod, Nat.mod_mod, ← Nat.mul_mod, ← Nat.add_mod]
theorem mod_step2 (x y z m : Nat) : ((x % m * 65536 + y) * 65536 + z) % m = ((x * 65536 + y) * 65536 + z) % m := by
  rw [← mod_step (x % m * 65536 + y), mod_step x y, mod_step]
theorem lI_tms {a b m : Nat} (ha : a < m) (hb : b < m) (hm : m ≤ 2 ^ 46) : iTms (lI a) (lI b) (lI m) = lI ((a * b % m : Nat) : Int) := by
  unfold iTms
  have hm0 : 0 < m := by omega
  rw [show nI 32 + (-16) + (-16) = nI 0 by decide, show nI 32 + (-16) = nI 16 by decide, lN_I, tmS ha hm hm0 (by omega) (by decide), tmS ha hm (Nat.mod_lt _ hm0) (by omega) (by decide), tmS ha hm (Nat.mod_lt _ hm0) (by omega) (by decide)]
  rw [mod_step, mod_step2]
  congr 2
  have e : b = (b / 2 ^ 32 % 65536 * 65536 + b / 2 ^ 16 % 65536) * 65536 + b / 2 ^ 0 % 65536 := by omega
  generalize b / 2 ^ 32 % 65536 = b2 at *
  generalize b / 2 ^ 16 % 65536 = b1 at *
  generalize b / 2 ^ 0 % 65536 = b0 at *
  rw [e]
  congr 1
  grind

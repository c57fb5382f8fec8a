/-! masks as numbers below 64 -/
def popN (m : Nat) : Nat := m % 2 + m / 2 % 2 + m / 4 % 2 + m / 8 % 2 + m / 16 % 2 + m / 32 % 2
def bitN (m j : Nat) : Nat := m / 2 ^ j % 2
def woN (m j : Nat) : Nat := m % 2 ^ j + m / 2 ^ (j + 1) * 2 ^ j
def wcN (m j : Nat) : Nat := m % 2 ^ j + m / 2 ^ j * 2 ^ (j + 1)
def numN (m j : Nat) : Nat := popN (m % 2 ^ j)
def sprN (f s : Nat) : Nat := (if bitN s 0 = 1 ∧ bitN f (numN s 0) = 1 then 1 else 0) + (if bitN s 1 = 1 ∧ bitN f (numN s 1) = 1 then 2 else 0) + (if bitN s 2 = 1 ∧ bitN f (numN s 2) = 1 then 4 else 0) + (if bitN s 3 = 1 ∧ bitN f (numN s 3) = 1 then 8 else 0) + (if bitN s 4 = 1 ∧ bitN f (numN s 4) = 1 then 16 else 0) + (if bitN s 5 = 1 ∧ bitN f (numN s 5) = 1 then 32 else 0)
def gatN (m s : Nat) : Nat := (if bitN s 0 = 1 ∧ bitN m 0 = 1 then 2 ^ numN s 0 else 0) + (if bitN s 1 = 1 ∧ bitN m 1 = 1 then 2 ^ numN s 1 else 0) + (if bitN s 2 = 1 ∧ bitN m 2 = 1 then 2 ^ numN s 2 else 0) + (if bitN s 3 = 1 ∧ bitN m 3 = 1 then 2 ^ numN s 3 else 0) + (if bitN s 4 = 1 ∧ bitN m 4 = 1 then 2 ^ numN s 4 else 0) + (if bitN s 5 = 1 ∧ bitN m 5 = 1 then 2 ^ numN s 5 else 0)
theorem d_low : ∀ n, n < 7 → iLow (nI n) = nI (2 ^ n - 1) := by decide +kernel
theorem d_bc : ∀ m, m < 64 → iBc (nI m) = nI (popN m) := by decide +kernel
theorem d_has : ∀ m, m < 64 → ∀ j, j < 7 → iHas (nI m) (nI j) = nI (bitN m j) := by decide +kernel
theorem d_num : ∀ m, m < 64 → ∀ j, j < 7 → iNum (nI m) (nI j) = nI (numN m j) := by decide +kernel
theorem d_wo : ∀ m, m < 64 → ∀ j, j < 7 → iWo (nI m) (nI j) = nI (woN m j) := by decide +kernel
theorem d_wc : ∀ m, m < 64 → ∀ j, j < 7 → iWc (nI m) (nI j) = nI (wcN m j) := by decide +kernel
theorem d_sp : ∀ f, f < 8 → ∀ s, s < 32 → iSp (nI f) (nI s) 6 = nI (sprN f s) := by decide +kernel
theorem d_ga : ∀ m, m < 16 → ∀ s, s < 16 → iGa (nI m) (nI s) 6 = nI (gatN m s) := by decide +kernel
theorem d_and : ∀ m, m < 64 → ∀ j, j < 7 → nI m &&& nI (2 ^ j - 1) = nI (m % 2 ^ j) := by decide +kernel
/-- the number at a place of the sequence stands there alone -/
def aloN (n m i : Nat) : Bool := (decide (i = 0) || decide (bitN m (i - 1) = 1)) && (decide (i = n) || decide (bitN m i = 1))
def stpN (n m i : Nat) : Nat := woN m (if i < n then i else n - 1)
/-- what is left of a mask whose number at a place is there twice -/
def drpN (n m i : Nat) : Nat := if i < n ∧ bitN m i = 0 then woN m i else woN m (i - 1)
def k_alo (n m i : Nat) : Bool := !(decide (1 ≤ n) && aloN n m i) || decide (1 ≤ popN m ∧ numN m i ≤ popN m ∧ popN (stpN n m i) = popN m - 1 ∧ stpN n m i < 2 ^ (n - 1) ∧ ¬ (i < n ∧ bitN m i = 0) ∧ ¬ (0 < i ∧ bitN m (i - 1) = 0))
theorem d_alo0 : ∀ n, n < 7 → ∀ m, m < 2 ^ n → ∀ i, i < n + 1 → k_alo n m i = true := by decide +kernel
theorem d_alo {n m i : Nat} (hn : n < 7) (hn1 : 1 ≤ n) (hm : m < 2 ^ n) (hi : i ≤ n) (ha : aloN n m i = true) : 1 ≤ popN m ∧ numN m i ≤ popN m ∧ popN (stpN n m i) = popN m - 1 ∧ stpN n m i < 2 ^ (n - 1) ∧ ¬ (i < n ∧ bitN m i = 0) ∧ ¬ (0 < i ∧ bitN m (i - 1) = 0) := by
  have h := d_alo0 n hn m hm i (by omega)
  unfold k_alo at h
  rw [ha, decide_eq_true hn1] at h
  exact of_decide_eq_true h
def k_drp (n m i : Nat) : Bool := !(decide (1 ≤ n) && !aloN n m i) || decide (popN (drpN n m i) = popN m ∧ drpN n m i < 2 ^ (n - 1) ∧ ((i < n ∧ bitN m i = 0) ∨ (0 < i ∧ bitN m (i - 1) = 0)))
theorem d_drp0 : ∀ n, n < 7 → ∀ m, m < 2 ^ n → ∀ i, i < n + 1 → k_drp n m i = true := by decide +kernel
theorem d_drp {n m i : Nat} (hn : n < 7) (hn1 : 1 ≤ n) (hm : m < 2 ^ n) (hi : i ≤ n) (ha : aloN n m i = false) : popN (drpN n m i) = popN m ∧ drpN n m i < 2 ^ (n - 1) ∧ ((i < n ∧ bitN m i = 0) ∨ (0 < i ∧ bitN m (i - 1) = 0)) := by
  have h := d_drp0 n hn m hm i (by omega)
  unfold k_drp at h
  rw [ha, decide_eq_true hn1] at h
  exact of_decide_eq_true h
theorem d_spr : ∀ s, s < 32 → ∀ f, f < 8 → f < 2 ^ popN s → popN (sprN f s) = popN f ∧ sprN f s ≤ s := by decide +kernel
theorem pop_lt64 : ∀ m, m < 64 → popN m < 7 := by decide +kernel
theorem pop_le : ∀ n, n < 7 → ∀ m, m < 2 ^ n → popN m ≤ n := by decide +kernel
theorem num_le : ∀ m, m < 64 → ∀ j, j < 7 → numN m j ≤ popN m := by decide +kernel
theorem p2_lt {n m : Nat} (hn : n < 7) (hm : m < 2 ^ n) : m < 64 := Nat.lt_of_lt_of_le hm (show 2 ^ n ≤ 2 ^ 6 from Nat.pow_le_pow_right (by decide) (by omega))
/-! a simplex as one number -/
theorem pk_cell {x m : Nat} (hx : x < 48) (hm : m < 64) : iCell (nI (64 * x + m)) = nI x := by
  unfold iCell
  rw [pk_shrN (by omega) _ 6 (by decide)]
  congr 1; omega
theorem pk_mask {x m : Nat} (hx : x < 48) (hm : m < 64) : iMask (nI (64 * x + m)) = nI m := by
  unfold iMask
  rw [pk_andN (by omega) 6 (by decide)]
  congr 1; omega
theorem pk_pack : ∀ x, x < 48 → ∀ m, m < 64 → iPack (nI x) (nI m) = nI (64 * x + m) := by decide +kernel

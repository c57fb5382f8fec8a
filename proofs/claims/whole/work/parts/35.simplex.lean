/-! loadSimplex -/
def hobN (x : Nat) : Nat := 2 ^ Nat.log2 x
def rsN (w : Nat) : Nat → Nat
  | 0 => w
  | k + 1 => rsN w k - hobN (rsN w k)
/-- how many subsets come before w of dimension s -/
def posC (s w : Nat) : Nat → Nat
  | 0 => 0
  | u + 1 => posC s w u + if 1 ≤ u ∧ (popN u < s + 1 ∨ popN u = s + 1 ∧ w < u) then 1 else 0
def posN (n s w : Nat) : Nat := posC s w (2 ^ (n + 1))
def idxN (n u : Nat) : Nat := posN n (popN u - 1) u
def subF (n c : Nat) : Nat → Nat
  | 0 => 0
  | u + 1 => if 1 ≤ u ∧ idxN n u = c then u else subF n c u
def subN (n c : Nat) : Nat := subF n c (2 ^ (n + 1))
def faX (n w k : Nat) : Nat := idxN n (w - hobN (rsN w k))
def preS (n m : Nat) : SS := (m, (fun c => popN (subN n c) - 1), (fun c k => faX n (subN n c) k), (fun c _ => 2 ^ (popN (subN n c) - 2) - 1))
theorem d_hob : ∀ x, x < 32 → 1 ≤ x → iHob (nI x) = nI (hobN x) := by decide +kernel
theorem d_sub32 : ∀ a, a < 32 → ∀ b, b < 32 → b ≤ a → nI a - nI b = nI (a - b) := by decide +kernel
theorem d_posA : ∀ n, n < 5 → posN n 0 (2 ^ (n + 1) - 1) = 0 ∧ posN n (n + 1) (2 ^ (n + 1) - 1) = 2 ^ (n + 1) - 1 ∧ ∀ s, s < n + 1 → posN n s 0 = posN n (s + 1) (2 ^ (n + 1) - 1) := by decide +kernel
theorem d_posB : ∀ n, n < 5 → ∀ s, s < n + 1 → ∀ w, w < 2 ^ (n + 1) → 1 ≤ w ∧ ¬ popN w = s + 1 → posN n s (w - 1) = posN n s w := by decide +kernel
theorem d_posC : ∀ n, n < 5 → ∀ s, s < n + 1 → ∀ w, w < 2 ^ (n + 1) → popN w = s + 1 → posN n s (w - 1) = posN n s w + 1 ∧ posN n s w < 31 ∧ subN n (posN n s w) = w := by decide +kernel
theorem d_posD : ∀ n, n < 5 → ∀ s, s < n + 1 → ∀ w, w < 2 ^ (n + 1) → posN n s w ≤ 2 ^ (n + 1) - 1 := by decide +kernel
theorem d_idx : ∀ n, n < 5 → ∀ u, u < 2 ^ (n + 1) → 1 ≤ u → subN n (idxN n u) = u ∧ idxN n u < 31 ∧ popN u - 1 < n + 1 ∧ 1 ≤ popN u := by decide +kernel
theorem d_sub : ∀ n, n < 5 → ∀ c, c < 2 ^ (n + 1) - 1 → idxN n (subN n c) = c ∧ 1 ≤ subN n c ∧ subN n c < 2 ^ (n + 1) := by decide +kernel
theorem d_rs : ∀ w, w < 32 → ∀ k, k < popN w → 1 ≤ rsN w k ∧ rsN w k ≤ w ∧ hobN (rsN w k) ≤ rsN w k ∧ bitN w (Nat.log2 (rsN w k)) = 1 := by decide +kernel
theorem d_rs2 : ∀ n, n < 5 → ∀ w, w < 2 ^ (n + 1) → ∀ k, k < popN w → Nat.log2 (rsN w k) ≤ n := by decide +kernel
theorem d_rs3 : ∀ w, w < 32 → ∀ k, k < 5 → 2 ≤ popN w ∧ k < popN w → 1 ≤ w - hobN (rsN w k) ∧ popN (w - hobN (rsN w k)) + 1 = popN w := by decide +kernel
theorem d_rs4 : ∀ n, n < 5 → ∀ w, w < 2 ^ (n + 1) → ∀ k, k < 5 → 2 ≤ popN w ∧ k < popN w → faX n w k < posN n (popN w - 1) w := by decide +kernel
theorem d_bit0 : ∀ x, x < 32 → ∀ j, j < 5 → 1 ≤ x ∧ Nat.log2 x < j → nI x &&& nI (2 ^ j) = 0 := by decide +kernel
theorem d_bit1 : ∀ x, x < 32 → 1 ≤ x → ¬ nI x &&& nI (hobN x) = 0 := by decide +kernel
theorem d_bit2 : ∀ x, x < 32 → ∀ j, j < 5 → bitN x j = 1 → nI x &&& (nI (2 ^ j) ^^^ (-1)) = nI (x - 2 ^ j) := by decide +kernel
theorem d_bit3 : ∀ x, x < 32 → 1 ≤ x → bitN x (Nat.log2 x) = 1 := by decide +kernel
theorem d_shr : ∀ j, j < 5 → 1 ≤ j → nI (2 ^ j) >>> (nI 1 &&& 31) = nI (2 ^ (j - 1)) := by decide +kernel
theorem d_shl : ∀ n, n < 5 → nI 1 <<< (nI n &&& 31) = nI (2 ^ n) := by decide +kernel
theorem pre_app (n m : Nat) : appS (preS n m) (popN (subN n m) - 1) (fun k => faX n (subN n m) k) (fun _ => 2 ^ (popN (subN n m) - 2) - 1) = preS n (m + 1) := by
  have e1 : (fun c => if c = m then popN (subN n m) - 1 else popN (subN n c) - 1) = fun c => popN (subN n c) - 1 := by
    funext c; by_cases h : c = m
    · rw [if_pos h, h]
    · rw [if_neg h]
  have e2 : (fun (c k : Nat) => if c = m then faX n (subN n m) k else faX n (subN n c) k) = fun c k => faX n (subN n c) k := by
    funext c k; by_cases h : c = m
    · rw [if_pos h, h]
    · rw [if_neg h]
  have e3 : (fun (c _ : Nat) => if c = m then 2 ^ (popN (subN n m) - 2) - 1 else 2 ^ (popN (subN n c) - 2) - 1) = fun c _ => 2 ^ (popN (subN n c) - 2) - 1 := by
    funext c k; by_cases h : c = m
    · rw [if_pos h, h]
    · rw [if_neg h]
  show (m + 1, (fun c => if c = m then popN (subN n m) - 1 else popN (subN n c) - 1), (fun (c k : Nat) => if c = m then faX n (subN n m) k else faX n (subN n c) k), (fun (c _ : Nat) => if c = m then 2 ^ (popN (subN n m) - 2) - 1 else 2 ^ (popN (subN n c) - 2) - 1)) = _
  rw [e1, e2, e3]
  rfl
theorem d_lowp : ∀ s, s < 5 → popN (2 ^ (s - 1) - 1) = s - 1 := by decide +kernel
theorem d_lim : ∀ n, n < 5 → 2 ^ (n + 1) ≤ 32 := by decide +kernel
theorem d_pop5 : ∀ n, n < 5 → ∀ w, w < 2 ^ (n + 1) → popN w ≤ n + 1 := by decide +kernel
theorem pre_V {n m : Nat} (hn : n < 5) (hm : m ≤ 2 ^ (n + 1) - 1) : VS (preS n m) := by
  have hl := d_lim n hn
  refine ⟨by show m ≤ 48; omega, fun c hc => ?_⟩
  have hc : c < m := hc
  obtain ⟨c1, c2, c3⟩ := d_sub n hn c (by omega)
  show popN (subN n c) - 1 ≤ 4 ∧ (1 ≤ popN (subN n c) - 1 → ∀ k, k ≤ popN (subN n c) - 1 → faX n (subN n c) k < m ∧ 2 ^ (popN (subN n c) - 2) - 1 < 2 ^ (popN (subN n c) - 1 - 1) ∧ popN (2 ^ (popN (subN n c) - 2) - 1) = popN (subN n (faX n (subN n c) k)) - 1)
  have h5 := d_pop5 n hn _ c3
  refine ⟨by omega, fun h1 k hk => ?_⟩
  have f := d_rs4 n hn _ c3 k (by omega) ⟨by omega, by omega⟩
  obtain ⟨f1, f2⟩ := d_rs3 _ (Nat.lt_of_lt_of_le c3 hl) k (by omega) ⟨by omega, by omega⟩
  have hidx : posN n (popN (subN n c) - 1) (subN n c) = c := c1
  rw [hidx] at f
  obtain ⟨g1, -, -, -⟩ := d_idx n hn (subN n c - hobN (rsN (subN n c) k)) (by omega) f1
  have h2 : 0 < 2 ^ (popN (subN n c) - 2) := Nat.two_pow_pos _
  refine ⟨by omega, ?_, ?_⟩
  · rw [show popN (subN n c) - 1 - 1 = popN (subN n c) - 2 by omega]; omega
  · have e := d_lowp (popN (subN n c) - 1) (by omega)
    rw [show popN (subN n c) - 1 - 1 = popN (subN n c) - 2 by omega] at e
    unfold faX
    rw [g1, e]
    omega

section LC
variable {l : Launch} {ω : Wd} {μ : Mm} {S T : SS} {D : DD}
def colS (S : SS) (n c r i : Nat) : Int := sumN (fun k => if sf S c k = cid S (n - 1) r then sg k else 0) i
theorem sgn_l : ∀ k, k < 5 → Int32.toInt64 (iSign (nI k)) = lI (sg k) := by decide +kernel
theorem sg_pm (k : Nat) : sg k = 1 ∨ sg k = -1 := by unfold sg; split <;> omega
theorem rc_48 {R C : Nat} (h : R + C ≤ 48) : R * C ≤ 576 := by
  have : R ≤ 48 := by omega
  have hC : C ≤ 48 - R := by omega
  have h1 : R * C ≤ R * (48 - R) := Nat.mul_le_mul_left _ hC
  have h2 : ∀ R, R < 49 → R * (48 - R) ≤ 576 := by decide
  exact Nat.le_trans h1 (h2 R (by omega))
theorem idx_ne {C r r' j j' : Nat} (hj : j < C) (hj' : j' < C) (h : r * C + j = r' * C + j') : r = r' ∧ j = j' := by
  have h1 : (r * C + j) / C = r := by rw [Nat.mul_comm, Nat.mul_add_div (by omega), Nat.div_eq_of_lt hj]; rfl
  have h2 : (r' * C + j') / C = r' := by rw [Nat.mul_comm, Nat.mul_add_div (by omega), Nat.div_eq_of_lt hj']; rfl
  have : r = r' := by rw [← h1, h, h2]
  subst this
  exact ⟨rfl, by omega⟩
end LC

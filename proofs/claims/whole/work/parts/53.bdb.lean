theorem bd_bound (S : SS) {n m : Nat} (h1 : 1 ≤ n) (h4 : n ≤ 4) (π J : Nat → Nat) : (det m (fun i c => bdM S n (π i) (J c))).natAbs ≤ 3 ^ m := by
  by_cases hinj : ∀ a b, a < m → b < m → cid S (n - 1) (π a) = cid S (n - 1) (π b) → a = b
  · rw [← det_T]
    have e := tri_det (n := m) (fun c => fndF (fun i => cid S (n - 1) (π i)) (sf S (cid S n (J c)) 0) m m) (fun c => fndF (fun i => cid S (n - 1) (π i)) (sf S (cid S n (J c)) 1) m m) (fun c => if 2 ≤ n then fndF (fun i => cid S (n - 1) (π i)) (sf S (cid S n (J c)) 2) m m else m) (fun c => if 3 ≤ n then fndF (fun i => cid S (n - 1) (π i)) (sf S (cid S n (J c)) 3) m m else m) (fun c => if 4 ≤ n then fndF (fun i => cid S (n - 1) (π i)) (sf S (cid S n (J c)) 4) m m else m) (fun _ => m) m (Nat.le_refl _) (fun _ => 0) (fun _ => 0)
    rw [det_congr (fun c i hc hi => ?_)] at e
    · exact e
    rw [if_pos hc]
    unfold nwv bdM
    have hk : ∀ v, (if i = fndF (fun i => cid S (n - 1) (π i)) v m m then (1 : Int) else 0) = if v = cid S (n - 1) (π i) then 1 else 0 := by
      intro v
      have := fnd_ok (π := fun i => cid S (n - 1) (π i)) (v := v) m (Nat.le_refl _) hinj i hi
      by_cases hv : v = cid S (n - 1) (π i)
      · rw [if_pos hv, if_pos (this.mpr hv.symm)]
      · rw [if_neg hv, if_neg (fun q => hv (this.mp q).symm)]
    have hm : (if i = m then (1 : Int) else 0) = 0 := by rw [if_neg (by omega)]
    have s0 : sg 0 = 1 := rfl
    have s1 : sg 1 = -1 := rfl
    have s2 : sg 2 = 1 := rfl
    have s3 : sg 3 = -1 := rfl
    have s4 : sg 4 = 1 := rfl
    have hn : n = 1 ∨ n = 2 ∨ n = 3 ∨ n = 4 := by omega
    rw [hk, hk, hm]
    rcases hn with rfl | rfl | rfl | rfl
    · rw [if_neg (by decide : ¬ 2 ≤ 1), if_neg (by decide : ¬ 3 ≤ 1), if_neg (by decide : ¬ 4 ≤ 1), hm]
      simp only [sumN, s0, s1]
      split <;> split <;> rfl
    · rw [if_pos (by decide : 2 ≤ 2), if_neg (by decide : ¬ 3 ≤ 2), if_neg (by decide : ¬ 4 ≤ 2), hm, hk]
      simp only [sumN, s0, s1, s2]
      split <;> split <;> split <;> rfl
    · rw [if_pos (by decide : 2 ≤ 3), if_pos (by decide : 3 ≤ 3), if_neg (by decide : ¬ 4 ≤ 3), hm, hk, hk]
      simp only [sumN, s0, s1, s2, s3]
      split <;> split <;> split <;> split <;> rfl
    · rw [if_pos (by decide : 2 ≤ 4), if_pos (by decide : 3 ≤ 4), if_pos (by decide : 4 ≤ 4), hk, hk, hk]
      simp only [sumN, s0, s1, s2, s3, s4]
      split <;> split <;> split <;> split <;> split <;> rfl
  · have : ∃ a b, a < m ∧ b < m ∧ cid S (n - 1) (π a) = cid S (n - 1) (π b) ∧ a ≠ b := by
      apply Classical.byContradiction
      intro hno
      exact hinj (fun a b ha hb hab => Classical.byContradiction (fun hne => hno ⟨a, b, ha, hb, hab, hne⟩))
    obtain ⟨a, b, ha, hb, hab, hne⟩ := this
    rw [det_eq0 ha hb hne (fun c _ => by unfold bdM; rw [hab])]
    exact Nat.zero_le _

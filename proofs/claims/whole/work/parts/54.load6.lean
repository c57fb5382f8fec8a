/-! the class loads a boundary matrix -/
section LM
variable {l : Launch} {ω : Wd} {μ : Mm} {S T : SS} {D : DD}
theorem c_numberCells {t d : Nat} {a : Int32} (ht : cel t) (hV : VS S) (hR : RC t S μ) (hd : ∀ c, c < sn S → (nI (sd S c) = a ↔ sd S c = d)) : Ctr l ω M_X5_numberCells [.ref 22, .ref t, .int a] μ (fun v μ' => v = some (.int (nI (cntN S d (sn S)))) ∧ (∀ q k, q ≠ 25 → ss_i μ' q k = ss_i μ q k) ∧ μ'.2 = μ.2 ∧ (∀ c, c < sn S → sd S c = d → ss_i μ' 25 c = nI (cntN S d c)) ∧ ∀ c, ¬ (c < sn S ∧ sd S c = d) → ss_i μ' 25 c = ss_i μ 25 c) := by
  have h48 := hV.1
  have ht9 : t + 2 < 25 := by rcases ht with rfl | rfl | rfl <;> decide
  refine Ct_X5_numberCells ?_
  refine upto1 (G := fun c μ1 => Good l ω M_X5_numberCells 5 [.ref 22, .ref t, .int a, .int (nI (cntN S d c)), .int (nI c)] [] μ1 _) (I := fun i μ1 => (∀ q k, q ≠ 25 → ss_i μ1 q k = ss_i μ q k) ∧ μ1.2 = μ.2 ∧ (∀ c, c < i → sd S c = d → ss_i μ1 25 c = nI (cntN S d c)) ∧ ∀ c, ¬ (c < i ∧ sd S c = d) → ss_i μ1 25 c = ss_i μ 25 c) (sn S) ?_ ?_ 0 (by omega) μ ⟨fun _ _ _ => rfl, rfl, fun c hc => by omega, fun _ _ => rfl⟩
  · intro μ1 ⟨k1, k2, k3, k4⟩
    refine Tr_X5_numberCells_5 ?_
    rw [k1 t 2 (by omega), hR.1]
    exact ⟨cel_o ht, fun _ => ⟨rfl, k1, k2, k3, k4⟩, fun g => absurd (nI_le (Nat.le_refl _) (by omega)) g⟩
  · intro c μ1 hc ⟨k1, k2, k3, k4⟩ ih
    have hcn := cnt_le S d c
    refine Tr_X5_numberCells_5 ?_
    rw [k1 t 2 (by omega), hR.1, cel_r0 ht, cl_n (by omega), k1 (t + 1) c (by omega), (hR.2 c hc).1, hd c hc, nI_add, nI_add]
    refine ⟨cel_o ht, fun g => absurd g (nI_ge hc (by omega)), fun _ => ⟨cel_o ht, inb_n (cel_1 ht) (by omega) (by decide), fun g => ?_, fun g => ⟨inb_n (n := 48) rfl (by omega) (by decide), ?_⟩⟩⟩
    · have e : cntN S d (c + 1) = cntN S d c := by rw [cntN, if_neg g]; rfl
      rw [e] at ih
      refine ih μ1 ⟨k1, k2, fun c' hc' hs => k3 c' (by
        have : c' ≠ c := fun q => g (q ▸ hs)
        omega) hs, fun c' hc' => k4 c' (fun q => hc' ⟨by omega, q.2⟩)⟩
    · have hs : sd S c = d := Decidable.not_not.mp g
      have e : cntN S d (c + 1) = cntN S d c + 1 := by rw [cntN, if_pos hs]
      rw [e] at ih
      refine ih _ ⟨fun q k hq => by rw [ri_wi, if_neg (fun r => hq r.1)]; exact k1 q k hq, k2, fun c' hc' hs' => ?_, fun c' hc' => ?_⟩
      · rw [ri_wi]
        by_cases hcc : c' = c
        · rw [if_pos ⟨rfl, hcc⟩, hcc]
        · rw [if_neg (fun r => hcc r.2)]; exact k3 c' (by omega) hs'
      · rw [ri_wi, if_neg (fun r => hc' ⟨by omega, by rw [r.2]; exact hs⟩)]
        exact k4 c' (fun q => hc' ⟨by omega, q.2⟩)
end LM

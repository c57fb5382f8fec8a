/-! factors in the order of division -/
def wf (f : Nat → Nat) (n : Nat) : Nat → Int := fun i => if i < n then (f i : Int) else 0
theorem pair_eq {R C n i j : Nat} {f f' : Nat → Nat} (hij : i ≠ j) (hi : i < n) (hj : j < n) (hR : n ≤ R) (hC : n ≤ C) (hp : 0 < f i) (e1 : f' i = Nat.gcd (f i) (f j)) (e2 : f' j = f j * (f i / Nat.gcd (f i) (f j))) (ho : ∀ x, x ≠ i → x ≠ j → f' x = f x) (t : Int) (k : Nat) : Phi t k R C (dgM (wf f n)) ↔ Phi t k R C (dgM (wf f' n)) := by
  have g0 : 0 < Nat.gcd (f i) (f j) := Nat.gcd_pos_of_pos_left _ hp
  obtain ⟨a, b, hab⟩ := bez (f j) (f i)
  obtain ⟨x', hx⟩ := Nat.gcd_dvd_left (f i) (f j)
  obtain ⟨y', hy⟩ := Nat.gcd_dvd_right (f i) (f j)
  have ex : f i / Nat.gcd (f i) (f j) = x' := Nat.div_eq_of_eq_mul_right g0 hx
  rw [ex] at e2
  generalize Nat.gcd (f i) (f j) = g at *
  have hx' : (f i : Int) = g * x' := by rw [hx]; exact Int.natCast_mul _ _
  have hy' : (f j : Int) = g * y' := by rw [hy]; exact Int.natCast_mul _ _
  have hl' : (f' j : Int) = g * y' * x' := by rw [e2, Int.natCast_mul, hy']
  have hg' : (f' i : Int) = g := by rw [e1]
  have hone : a * x' + b * y' = 1 := by
    have h1 : (g : Int) * (a * x' + b * y') = g * 1 := by rw [Int.mul_one, ← hab, hx', hy']; grind
    exact Int.eq_of_mul_eq_mul_left (by omega) h1
  have w1 : wf f n i = g * x' := by unfold wf; rw [if_pos hi, hx']
  have w2 : wf f n j = g * y' := by unfold wf; rw [if_pos hj, hy']
  have w3 : wf f' n i = g := by unfold wf; rw [if_pos hi, hg']
  have w4 : wf f' n j = g * y' * x' := by unfold wf; rw [if_pos hj, hl']
  have wo : ∀ x, x ≠ i → x ≠ j → wf f' n x = wf f n x := fun x h1 h2 => by unfold wf; rw [ho x h1 h2]
  clear hx hy e1 e2 hx' hy' hl' hg' hab ex
  generalize (g : Int) = G at *
  generalize (x' : Int) = X at *
  generalize (y' : Int) = Y at *
  refine ⟨fun h => Phi_22 hij (by omega) (by omega) (by omega) (by omega) 1 1 (-b * Y) (a * X) a (-Y) b X ?_ ?_ ?_ ?_ wo h, fun h => Phi_22 hij (by omega) (by omega) (by omega) (by omega) (a * X) (-1) (b * Y) 1 X Y (-b) a ?_ ?_ ?_ ?_ (fun x h1 h2 => (wo x h1 h2).symm) h⟩
  · rw [w1, w2, w3, show 1 * (G * X) * a + 1 * (G * Y) * b = G * (a * X + b * Y) by grind, hone, Int.mul_one]
  · rw [w1, w2]; grind
  · rw [w1, w2]; grind
  · rw [w1, w2, w4, show -b * Y * (G * X) * -Y + a * X * (G * Y) * X = G * Y * X * (a * X + b * Y) by grind, hone, Int.mul_one]
  · rw [w1, w3, w4, show a * X * G * X + -1 * (G * Y * X) * -b = G * X * (a * X + b * Y) by grind, hone, Int.mul_one]
  · rw [w3, w4]; grind
  · rw [w3, w4]; grind
  · rw [w2, w3, w4, show b * Y * G * Y + 1 * (G * Y * X) * a = G * Y * (a * X + b * Y) by grind, hone, Int.mul_one]
section OD
variable {l : Launch} {ω : Wd} {μ : Mm}
theorem c_order {n m : Nat} {f : Nat → Nat} (hn : n ≤ 48) (m0 : 0 < m) (hm : m ≤ 2 ^ 46) (hf : ∀ j, j < n → ss_l μ 23 j = lI (f j)) (hd : ∀ j, j < n → f j ∣ m) : Ctr l ω M_X2_orderByDivision [.ref 21, .int (nI n)] μ (fun v μ' => v = none ∧ kL 23 μ μ' ∧ ∃ h : Nat → Nat, (∀ j, j < n → ss_l μ' 23 j = lI (h j)) ∧ (∀ j, j < n → h j ∣ m) ∧ (∀ i j, i < j → j < n → h i ∣ h j) ∧ ∀ R C, n ≤ R → n ≤ C → ∀ t k, Phi t k R C (dgM (wf f n)) ↔ Phi t k R C (dgM (wf h n))) := by
  refine Ct_X2_orderByDivision ?_
  refine upto1 (G := fun a μ1 => Good l ω M_X2_orderByDivision 2 [.ref 21, .int (nI n), .int (nI a), .null, .null, .null] [] μ1 _) (I := fun a μ1 => kL 23 μ μ1 ∧ ∃ h : Nat → Nat, (∀ j, j < n → ss_l μ1 23 j = lI (h j)) ∧ (∀ j, j < n → h j ∣ m) ∧ (∀ i j, i < a → i < j → j < n → h i ∣ h j) ∧ ∀ R C, n ≤ R → n ≤ C → ∀ t k, Phi t k R C (dgM (wf f n)) ↔ Phi t k R C (dgM (wf h n))) n ?_ ?_ 0 (by omega) μ ⟨kL_rf, f, hf, hd, fun i j hi => absurd hi (Nat.not_lt_zero i), fun _ _ _ _ _ _ => Iff.rfl⟩
  · intro μ1 ⟨k1, h, k2, k3, k4, k5⟩
    exact Tr_X2_orderByDivision_2 ⟨fun _ => ⟨rfl, k1, h, k2, k3, fun i j a b => k4 i j (by omega) a b, k5⟩, fun g => absurd (nI_le (Nat.le_refl _) (by omega)) g⟩
  · intro a μ1 han ⟨k1, h, k2, k3, k4, k5⟩ ih
    refine Tr_X2_orderByDivision_2 ⟨fun g => absurd g (nI_ge han (by omega)), fun _ => ?_⟩
    rw [nI_add]
    refine upto1 (G := fun b μ2 => a < b → Good l ω M_X2_orderByDivision 11 [.ref 21, .int (nI n), .int (nI a), .int (nI b), .null, .null] [] μ2 _) (I := fun b μ2 => kL 23 μ μ2 ∧ ∃ h : Nat → Nat, (∀ j, j < n → ss_l μ2 23 j = lI (h j)) ∧ (∀ j, j < n → h j ∣ m) ∧ (∀ i j, i < a → i < j → j < n → h i ∣ h j) ∧ (∀ j, a < j → j < b → h a ∣ h j) ∧ ∀ R C, n ≤ R → n ≤ C → ∀ t k, Phi t k R C (dgM (wf f n)) ↔ Phi t k R C (dgM (wf h n))) n ?_ ?_ (a + 1) (by omega) μ1 ⟨k1, h, k2, k3, k4, fun j h1 h2 => by omega, k5⟩ (by omega)
    · intro μ2 ⟨j1, h, j2, j3, j4, j5, j6⟩ _
      refine Tr_X2_orderByDivision_11 ⟨fun _ => ?_, fun g => absurd (nI_le (Nat.le_refl _) (by omega)) g⟩
      rw [nI_add]
      refine ih μ2 ⟨j1, h, j2, j3, fun i j h1 h2 h3 => ?_, j6⟩
      by_cases hia : i = a
      · rw [hia] at h2 ⊢; exact j5 j h2 h3
      · exact j4 i j (by omega) h2 h3
    · intro b μ2 hbn ⟨j1, h, j2, j3, j4, j5, j6⟩ ih2 hab
      have pa : 0 < h a := Nat.pos_of_dvd_of_pos (j3 a han) m0
      have pb : 0 < h b := Nat.pos_of_dvd_of_pos (j3 b hbn) m0
      have la := Nat.le_of_dvd m0 (j3 a han)
      have lb := Nat.le_of_dvd m0 (j3 b hbn)
      have g0 : 0 < Nat.gcd (h a) (h b) := Nat.gcd_pos_of_pos_left _ pa
      have gl : Nat.gcd (h a) (h b) ≤ h a := Nat.le_of_dvd pa (Nat.gcd_dvd_left _ _)
      refine Tr_X2_orderByDivision_11 ⟨fun g => absurd g (nI_ge hbn (by omega)), fun _ => ?_⟩
      rw [cl_n (by omega), cl_n (by omega), j2 a han, j2 b hbn]
      refine ⟨inb_n (n := 48) rfl (by omega) (by decide), inb_n (n := 48) rfl (by omega) (by decide), ex_l (c_gcd (by omega) (by omega)) (Tr_X2_orderByDivision_31 ?_)⟩
      have c0 : ¬ lg_cmp (lI ((Nat.gcd (h a) (h b) : Nat) : Int)) (lN 0) ≤ 0 := by
        rw [lN_I, cmp_le (by omega) (by omega) (by decide) (by decide)]; omega
      have ed : lI (h a : Int) / lI ((Nat.gcd (h a) (h b) : Nat) : Int) = lI ((h a / Nat.gcd (h a) (h b) : Nat) : Int) := by rw [lI_div (by omega) (by omega) (by omega) (by omega)]; rfl
      rw [cl_n (by omega), cl_n (by omega), j2 a han, j2 b hbn, ed, lI_mul, ← Int.natCast_mul, nI_add]
      have nb : inb 23 2 (nI b) = true := inb_n (n := 48) rfl (by omega) (by decide)
      have na : inb 23 2 (nI a) = true := inb_n (n := 48) rfl (by omega) (by decide)
      refine ⟨fun g => absurd g c0, fun _ => ⟨nb, na, lI_n0 g0 (by omega), nb, na, ?_⟩⟩
      have ll : h b * (h a / Nat.gcd (h a) (h b)) = Nat.lcm (h a) (h b) := by
        unfold Nat.lcm
        rw [← Nat.mul_div_assoc _ (Nat.gcd_dvd_left _ _), Nat.mul_comm]
      have hd' : h b * (h a / Nat.gcd (h a) (h b)) ∣ m := by rw [ll]; exact Nat.lcm_dvd (j3 a han) (j3 b hbn)
      let h' : Nat → Nat := fun j => if j = a then Nat.gcd (h a) (h b) else if j = b then h b * (h a / Nat.gcd (h a) (h b)) else h j
      have ha' : h' a = Nat.gcd (h a) (h b) := if_pos rfl
      have hb' : h' b = h b * (h a / Nat.gcd (h a) (h b)) := by
        show (if b = a then _ else if b = b then _ else _) = _
        rw [if_neg (by omega), if_pos rfl]
      have ho' : ∀ j, j ≠ a → j ≠ b → h' j = h j := fun j h1 h2 => by
        show (if j = a then _ else if j = b then _ else _) = _
        rw [if_neg h1, if_neg h2]
      have gb' : Nat.gcd (h a) (h b) ∣ h' b := by rw [hb']; exact Nat.dvd_trans (Nat.gcd_dvd_right _ _) (Nat.dvd_mul_right _ _)
      refine ih2 _ ⟨kL_tr j1 (kL_tr kL_wl kL_wl), h', fun j hj => ?_, fun j hj => ?_, fun i j h1 h2 h3 => ?_, fun j h1 h2 => ?_, fun R C hR hC t k => (j6 R C hR hC t k).trans (pair_eq (by omega) han hbn hR hC pa ha' hb' ho' t k)⟩ (by omega)
      · rw [rl_wl]
        by_cases hja : j = a
        · rw [if_pos ⟨rfl, hja⟩, hja, ha']
        · rw [if_neg (fun q => hja q.2), rl_wl]
          by_cases hjb : j = b
          · rw [if_pos ⟨rfl, hjb⟩, hjb, hb']
          · rw [if_neg (fun q => hjb q.2), ho' j hja hjb]; exact j2 j hj
      · by_cases hja : j = a
        · rw [hja, ha']; exact Nat.dvd_trans (Nat.gcd_dvd_left _ _) (j3 a han)
        · by_cases hjb : j = b
          · rw [hjb, hb']; exact hd'
          · rw [ho' j hja hjb]; exact j3 j hj
      · rw [ho' i (by omega) (by omega)]
        have q1 := j4 i a h1 (by omega) han
        have q2 := j4 i b h1 (by omega) hbn
        by_cases hja : j = a
        · rw [hja, ha']; exact Nat.dvd_gcd q1 q2
        · by_cases hjb : j = b
          · rw [hjb, hb']; exact Nat.dvd_trans q2 (Nat.dvd_mul_right _ _)
          · rw [ho' j hja hjb]; exact j4 i j h1 h2 h3
      · rw [ha']
        by_cases hjb : j = b
        · rw [hjb]; exact gb'
        · rw [ho' j (by omega) hjb]; exact Nat.dvd_trans (Nat.gcd_dvd_left _ _) (j5 j h1 (by omega))
end OD

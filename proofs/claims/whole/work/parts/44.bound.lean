/-! how great a minor can be -/
theorem det_clr1 {n : Nat} {A : MX} {i : Nat} (hi : i < n) (x : Nat → Int) : ∀ m, m ≤ n → det n (fun r c => if r ≠ i ∧ r < m then A r c + x r * A i c else A r c) = det n A
  | 0, _ => det_congr (fun r c _ _ => by rw [if_neg (by omega)])
  | m + 1, hm => by
    rw [← det_clr1 (A := A) hi x m (by omega)]
    by_cases hmi : m = i
    · refine det_congr (fun r c _ _ => ?_)
      by_cases h : r ≠ i ∧ r < m
      · rw [if_pos h, if_pos ⟨h.1, by omega⟩]
      · rw [if_neg h, if_neg (by omega)]
    · rw [← det_op (A := fun r c => if r ≠ i ∧ r < m then A r c + x r * A i c else A r c) (a := i) (b := m) hi (by omega) (by omega) (x m)]
      refine det_congr (fun r c _ _ => ?_)
      unfold upR
      dsimp only
      by_cases hr : r = m
      · subst hr
        rw [if_pos ⟨hmi, by omega⟩, if_pos rfl, if_neg (by omega), if_neg (by omega)]
      · rw [if_neg hr]
        by_cases h : r ≠ i ∧ r < m
        · rw [if_pos h, if_pos ⟨h.1, by omega⟩]
        · rw [if_neg h, if_neg (by omega)]
theorem det_clr {n : Nat} {A : MX} {i : Nat} (hi : i < n) (x : Nat → Int) : det n (fun r c => if r = i then A r c else A r c + x r * A i c) = det n A := by
  rw [← det_clr1 (A := A) hi x n (Nat.le_refl _)]
  refine det_congr (fun r c hr _ => ?_)
  by_cases h : r = i
  · rw [if_pos h, if_neg (by omega)]
  · rw [if_neg h, if_pos ⟨h, hr⟩]
/-- one entry in the first column -/
theorem det_col1 {n : Nat} {A : MX} {i : Nat} (hi : i < n + 1) (h : ∀ r, r < n + 1 → r ≠ i → A r 0 = 0) : det (n + 1) A = sg i * A i 0 * det n (fun r c => A (rmI i r) (c + 1)) := by
  rw [det, sum_one hi (fun r hr hne => by rw [h r hr hne]; grind)]
def nwv (a b : Nat) : Nat → Int := fun c => (if c = a then 1 else 0) - (if c = b then 1 else 0)
theorem sg_abs (i : Nat) : (sg i).natAbs = 1 := by unfold sg; split <;> rfl
theorem nw_ent (a b c : Nat) : (nwv a b c).natAbs ≤ 1 := by
  unfold nwv
  split <;> split <;> decide
theorem nw_det : ∀ (n : Nat) (p q : Nat → Nat), (det n (fun r c => nwv (p r) (q r) c)).natAbs ≤ 1
  | 0, _, _ => Nat.le_refl _
  | n + 1, p, q => by
    by_cases hex : ∃ i, i < n + 1 ∧ nwv (p i) (q i) 0 ≠ 0
    · obtain ⟨i, hi, hne⟩ := hex
      -- the other index of row i, its sign
      have key : ∃ (b : Nat) (ε : Int), b ≠ 0 ∧ (ε = 1 ∨ ε = -1) ∧ ∀ c, nwv (p i) (q i) c = ε * nwv 0 b c := by
        unfold nwv at hne
        by_cases hp : p i = 0
        · by_cases hq : q i = 0
          · rw [hp, hq] at hne; exact absurd rfl hne
          · exact ⟨q i, 1, hq, Or.inl rfl, fun c => by rw [hp]; grind⟩
        · by_cases hq : q i = 0
          · refine ⟨p i, -1, hp, Or.inr rfl, fun c => ?_⟩
            rw [hq]; unfold nwv; grind
          · rw [if_neg (Ne.symm hp), if_neg (Ne.symm hq)] at hne; exact absurd rfl hne
      obtain ⟨b, ε, hb, hε, hrow⟩ := key
      have hε2 : ε * ε = 1 := by rcases hε with rfl | rfl <;> rfl
      rw [← det_clr (A := fun r c => nwv (p r) (q r) c) hi (fun r => - (nwv (p r) (q r) 0 * ε))]
      -- the cleared rows are rows of the same kind
      have hcl : ∀ r, ∃ p' q' : Nat, ∀ c, (nwv (p r) (q r) c + - (nwv (p r) (q r) 0 * ε) * nwv (p i) (q i) c = nwv p' q' c) ∧ nwv p' q' 0 = 0 := by
        intro r
        by_cases hp : p r = 0
        · by_cases hq : q r = 0
          · exact ⟨0, 0, fun c => ⟨by rw [hp, hq]; unfold nwv; grind, rfl⟩⟩
          · refine ⟨b, q r, fun c => ⟨?_, ?_⟩⟩
            · rw [hrow c, hp]
              have e0 : nwv 0 (q r) 0 = 1 := by unfold nwv; rw [if_pos rfl, if_neg (Ne.symm hq)]; rfl
              rw [e0]
              have : nwv 0 (q r) c + -(1 * ε) * (ε * nwv 0 b c) = nwv 0 (q r) c - (ε * ε) * nwv 0 b c := by grind
              rw [this, hε2]
              unfold nwv; grind
            · unfold nwv; rw [if_neg (Ne.symm hb), if_neg (Ne.symm hq)]; rfl
        · by_cases hq : q r = 0
          · refine ⟨p r, b, fun c => ⟨?_, ?_⟩⟩
            · rw [hrow c, hq]
              have e0 : nwv (p r) 0 0 = -1 := by unfold nwv; rw [if_neg (Ne.symm hp), if_pos rfl]; rfl
              rw [e0]
              have : nwv (p r) 0 c + -(-1 * ε) * (ε * nwv 0 b c) = nwv (p r) 0 c + (ε * ε) * nwv 0 b c := by grind
              rw [this, hε2]
              unfold nwv; grind
            · unfold nwv; rw [if_neg (Ne.symm hp), if_neg (Ne.symm hb)]; rfl
          · have e0 : nwv (p r) (q r) 0 = 0 := by unfold nwv; rw [if_neg (Ne.symm hp), if_neg (Ne.symm hq)]; rfl
            exact ⟨p r, q r, fun c => ⟨by rw [e0]; grind, e0⟩⟩
      have hcl' : ∀ r, ∃ pq : Nat × Nat, ∀ c, (nwv (p r) (q r) c + - (nwv (p r) (q r) 0 * ε) * nwv (p i) (q i) c = nwv pq.1 pq.2 c) ∧ nwv pq.1 pq.2 0 = 0 := fun r => by
        obtain ⟨p', q', h⟩ := hcl r; exact ⟨(p', q'), h⟩
      let f : Nat → Nat × Nat := fun r => Classical.choose (hcl' r)
      have hf : ∀ r c, (nwv (p r) (q r) c + - (nwv (p r) (q r) 0 * ε) * nwv (p i) (q i) c = nwv (f r).1 (f r).2 c) ∧ nwv (f r).1 (f r).2 0 = 0 := fun r => Classical.choose_spec (hcl' r)
      rw [det_col1 hi (fun r hr hne => by
        show (if r = i then nwv (p r) (q r) 0 else nwv (p r) (q r) 0 + - (nwv (p r) (q r) 0 * ε) * nwv (p i) (q i) 0) = 0
        rw [if_neg hne, (hf r 0).1]; exact (hf r 0).2)]
      have hm : det n (fun r c => if rmI i r = i then nwv (p (rmI i r)) (q (rmI i r)) (c + 1) else nwv (p (rmI i r)) (q (rmI i r)) (c + 1) + - (nwv (p (rmI i r)) (q (rmI i r)) 0 * ε) * nwv (p i) (q i) (c + 1)) = det n (fun r c => nwv (if (f (rmI i r)).1 = 0 then n else (f (rmI i r)).1 - 1) (if (f (rmI i r)).2 = 0 then n else (f (rmI i r)).2 - 1) c) := by
        refine det_congr (fun r c hr hc => ?_)
        rw [if_neg (rm_ne i r), (hf (rmI i r) (c + 1)).1]
        generalize (f (rmI i r)).1 = a1
        generalize (f (rmI i r)).2 = a2
        unfold nwv
        have sh : ∀ a : Nat, (if c + 1 = a then (1 : Int) else 0) = if c = (if a = 0 then n else a - 1) then 1 else 0 := by
          intro a
          by_cases ha : a = 0
          · rw [if_neg (by omega), if_pos ha, if_neg (by omega)]
          · rw [if_neg ha]
            by_cases hca : c + 1 = a
            · rw [if_pos hca, if_pos (by omega)]
            · rw [if_neg hca, if_neg (by omega)]
        rw [sh a1, sh a2]
      rw [hm, Int.natAbs_mul, Int.natAbs_mul, sg_abs]
      have h1 := nw_ent (p i) (q i) 0
      have h2 := nw_det n (fun r => if (f (rmI i r)).1 = 0 then n else (f (rmI i r)).1 - 1) (fun r => if (f (rmI i r)).2 = 0 then n else (f (rmI i r)).2 - 1)
      simp only [if_true]
      calc 1 * (nwv (p i) (q i) 0).natAbs * _ ≤ 1 * 1 * 1 := Nat.mul_le_mul (Nat.mul_le_mul (Nat.le_refl _) h1) h2
        _ = 1 := rfl
    · have : det (n + 1) (fun r c => nwv (p r) (q r) c) = 0 := by
        rw [det]
        refine sum_zero (fun i hi => ?_)
        have h0 : nwv (p i) (q i) 0 = 0 := Decidable.byContradiction (fun h => hex ⟨i, hi, h⟩)
        rw [h0]; grind
      rw [this]; decide
/-- rows that are sums of three -/
theorem tri_det {n : Nat} (p1 q1 p2 q2 p3 q3 : Nat → Nat) : ∀ (m : Nat) (_ : m ≤ n) (p q : Nat → Nat), (det n (fun r c => if r < m then nwv (p1 r) (q1 r) c + nwv (p2 r) (q2 r) c + nwv (p3 r) (q3 r) c else nwv (p r) (q r) c)).natAbs ≤ 3 ^ m
  | 0, _, p, q => by
    rw [det_congr (B := fun r c => nwv (p r) (q r) c) (fun r c _ _ => by rw [if_neg (by omega)])]
    exact nw_det n p q
  | m + 1, hm, p, q => by
    have e : det n (fun r c => if r < m + 1 then nwv (p1 r) (q1 r) c + nwv (p2 r) (q2 r) c + nwv (p3 r) (q3 r) c else nwv (p r) (q r) c) = det n (upR (fun r c => if r < m then nwv (p1 r) (q1 r) c + nwv (p2 r) (q2 r) c + nwv (p3 r) (q3 r) c else nwv (p r) (q r) c) m (fun c => 1 * (1 * nwv (p1 m) (q1 m) c + 1 * nwv (p2 m) (q2 m) c) + 1 * nwv (p3 m) (q3 m) c)) := by
      refine det_congr (fun r c _ _ => ?_)
      unfold upR
      dsimp only
      by_cases hr : r = m
      · subst hr; rw [if_pos (by omega), if_pos rfl]; grind
      · rw [if_neg hr]
        by_cases h : r < m
        · rw [if_pos h, if_pos (by omega)]
        · rw [if_neg h, if_neg (by omega)]
    have s : ∀ a b : Nat, (det n (upR (fun r c => if r < m then nwv (p1 r) (q1 r) c + nwv (p2 r) (q2 r) c + nwv (p3 r) (q3 r) c else nwv (p r) (q r) c) m (nwv a b))).natAbs ≤ 3 ^ m := by
      intro a b
      have := tri_det (n := n) p1 q1 p2 q2 p3 q3 m (by omega) (fun r => if r = m then a else p r) (fun r => if r = m then b else q r)
      rw [det_congr (B := fun r c => if r < m then nwv (p1 r) (q1 r) c + nwv (p2 r) (q2 r) c + nwv (p3 r) (q3 r) c else nwv (if r = m then a else p r) (if r = m then b else q r) c) (fun r c _ _ => ?_)]
      · exact this
      · unfold upR
        dsimp only
        by_cases hr : r = m
        · rw [if_pos hr, if_neg (by omega), if_pos hr, if_pos hr]
        · rw [if_neg hr, if_neg hr, if_neg hr]
    rw [e, det_lin (by omega) (fun c => 1 * nwv (p1 m) (q1 m) c + 1 * nwv (p2 m) (q2 m) c) (nwv (p3 m) (q3 m)) 1 1, det_lin (by omega) (nwv (p1 m) (q1 m)) (nwv (p2 m) (q2 m)) 1 1]
    have a1 := s (p1 m) (q1 m)
    have a2 := s (p2 m) (q2 m)
    have a3 := s (p3 m) (q3 m)
    have h3 : 3 ^ (m + 1) = 3 * 3 ^ m := by rw [Nat.pow_succ]; omega
    rw [h3]
    omega

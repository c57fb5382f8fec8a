def orB (w k : Nat) : Nat := if bitN w k = 1 then w else w + 2 ^ k
theorem d_or : ∀ w, w < 32 → ∀ k, k < 5 → nI w ||| (nI 1 <<< (nI k &&& 31)) = nI (orB w k) := by decide +kernel
theorem d_orlt : ∀ n, n < 5 → ∀ w, w < 2 ^ (n + 1) → ∀ k, k < n + 1 → orB w k < 2 ^ (n + 1) := by decide +kernel
theorem d_orb : ∀ w, w < 32 → ∀ k, k < 5 → ∀ j, j < 5 → bitN (orB w k) j = if j = k then 1 else bitN w j := by decide +kernel
theorem bit_or : ∀ w k j : Nat, w < 32 → k < 5 → j < 5 → (bitN (orB w k) j = 1 ↔ j = k ∨ bitN w j = 1) := by
  intro w k j h1 h2 h3
  rw [d_orb w h1 k h2 j h3]
  by_cases h : j = k
  · simp [h]
  · simp [h]
def A_setF (S : SS) (D : DD) (a1 a2 a3 : Int32) : Int32 := if D.1 = 0 then -106 else if a1 < 0 then -104 else if a1 ≤ nI D.1 then (if iHasC (nI (sn S)) a2 = 0 then -101 else if iIsM (nI (D.1 - 1)) a3 (nI (sd S a2.toNatClampNeg)) = 0 then -103 else nI 1) else -104
def N_setF (S : SS) (D : DD) (a1 a2 a3 : Int32) : DD := if A_setF S D a1 a2 a3 = nI 1 then (D.1, orB D.2.1 a1.toNatClampNeg, (fun k => if k = a1.toNatClampNeg then a2.toNatClampNeg else D.2.2.1 k), (fun k => if k = a1.toNatClampNeg then a3.toNatClampNeg else D.2.2.2 k)) else D
/-- a face is set, or a call is refused -/
theorem setF_c {S : SS} {D : DD} (hV : VS S) (hD : DV S D) (a1 a2 a3 : Int32) : (∃ k x m, 1 ≤ D.1 ∧ a1 = nI k ∧ k ≤ D.1 ∧ a2 = nI x ∧ x < sn S ∧ a3 = nI m ∧ m < 2 ^ (D.1 - 1) ∧ popN m = sd S x ∧ iIsM (nI (D.1 - 1)) (nI m) (nI (sd S x)) = nI 1 ∧ iIsM7 (nI (D.1 - 1)) (nI m) (nI (sd S x)) = nI 1 ∧ A_setF S D a1 a2 a3 = nI 1 ∧ N_setF S D a1 a2 a3 = (D.1, orB D.2.1 k, (fun j => if j = k then x else D.2.2.1 j), (fun j => if j = k then m else D.2.2.2 j))) ∨ (¬ A_setF S D a1 a2 a3 = nI 1 ∧ N_setF S D a1 a2 a3 = D) := by
  have h48 := hV.1
  have h4 := hD.1
  have refuse : ¬ A_setF S D a1 a2 a3 = nI 1 → N_setF S D a1 a2 a3 = D := fun h => by unfold N_setF; rw [if_neg h]
  by_cases h0 : D.1 = 0
  · right
    have : ¬ A_setF S D a1 a2 a3 = nI 1 := by unfold A_setF; rw [if_pos h0]; decide
    exact ⟨this, refuse this⟩
  rcases rng_c (lo := 0) (hi := D.1) (by omega) (by omega) a1 with ⟨k, -, hk, rfl⟩ | h | h
  · have g1 : ¬ nI k < 0 := nI_pos (by omega)
    have g2 : nI k ≤ nI D.1 := nI_le hk (by omega)
    rcases cell_c hV.1 a2 with ⟨x, hx, rfl⟩ | ⟨h, h'⟩
    · have hsd := (hV.2 x hx).1
      rcases msk_c (k := D.1 - 1) (e := sd S x) (by omega) (by omega) a3 with ⟨m, m1, m2, rfl, m4, m5⟩ | ⟨m4, m5⟩
      · left
        have m64 := p2_lt (by omega) m1
        have hA : A_setF S D (nI k) (nI x) (nI m) = nI 1 := by
          unfold A_setF
          rw [if_neg h0, if_neg g1, if_pos g2, has_t hV.1 hx, if_neg nI1_ne, cl_n (by omega), m4, if_neg nI1_ne]
        refine ⟨k, x, m, by omega, rfl, hk, rfl, hx, rfl, m1, m2, m4, m5, hA, ?_⟩
        unfold N_setF
        rw [if_pos hA, cl_n (by omega), cl_n (by omega), cl_n (by omega)]
      · right
        have : ¬ A_setF S D (nI k) (nI x) a3 = nI 1 := by
          unfold A_setF
          rw [if_neg h0, if_neg g1, if_pos g2, has_t hV.1 hx, if_neg nI1_ne, cl_n (by omega), m4, if_pos nI0_eq]; decide
        exact ⟨this, refuse this⟩
    · right
      have : ¬ A_setF S D (nI k) a2 a3 = nI 1 := by
        unfold A_setF
        rw [if_neg h0, if_neg g1, if_pos g2, h, if_pos nI0_eq]; decide
      exact ⟨this, refuse this⟩
  · right
    have : ¬ A_setF S D a1 a2 a3 = nI 1 := by
      unfold A_setF
      rw [if_neg h0, if_pos (show a1 < 0 from h)]; decide
    exact ⟨this, refuse this⟩
  · right
    have : ¬ A_setF S D a1 a2 a3 = nI 1 := by
      unfold A_setF
      rw [if_neg h0, if_neg (Int32.not_le.mpr h : ¬ a1 ≤ nI D.1)]
      split <;> decide
    exact ⟨this, refuse this⟩
theorem setF_D {S : SS} {D : DD} (hV : VS S) (hD : DV S D) (a1 a2 a3 : Int32) : DV S (N_setF S D a1 a2 a3) := by
  have h4 := hD.1
  rcases setF_c hV hD a1 a2 a3 with ⟨k, x, m, h1, -, hk, -, hx, -, hm, hp, -, -, -, hN⟩ | ⟨-, hN⟩
  · rw [hN]
    obtain ⟨q1, q2⟩ := hD.2 h1
    have hw : D.2.1 < 32 := Nat.lt_of_lt_of_le q1 (two_le (b := 5) (by omega))
    refine ⟨h4, fun _ => ⟨d_orlt D.1 (by omega) _ q1 k (by omega), fun j hj hb => ?_⟩⟩
    have hj : j ≤ D.1 := hj
    show (if j = k then x else D.2.2.1 j) < sn S ∧ (if j = k then m else D.2.2.2 j) < 2 ^ (D.1 - 1) ∧ popN (if j = k then m else D.2.2.2 j) = sd S (if j = k then x else D.2.2.1 j)
    by_cases hjk : j = k
    · simp only [hjk, if_true]; exact ⟨hx, hm, hp⟩
    · simp only [hjk, if_false]
      have hb : bitN (orB D.2.1 k) j = 1 := hb
      rw [bit_or _ _ _ hw (by omega) (by omega)] at hb
      exact q2 j hj (hb.resolve_left hjk)
  · rw [hN]; exact hD
section SF
variable {l : Launch} {ω : Wd} {μ : Mm} {S T : SS} {D : DD}
theorem pos_n {n : Nat} (h : n ≤ 4) : iPos (nI n) = if n = 0 then nI 0 else nI 1 := by
  unfold iPos
  by_cases h0 : n = 0
  · rw [if_pos h0, h0]; rfl
  · rw [if_neg h0, if_neg (nI_nle (by omega) (by omega))]
theorem x_setFace (hV : VS S) (hD : DV S D) (hI : IC S T D μ) (a1 a2 a3 : Int32) : Ctr l ω M_X6_setFace [.ref 0, .int a1, .int a2, .int a3] μ (fun v μ' => v = some (.int (A_setF S D a1 a2 a3)) ∧ IC S T (N_setF S D a1 a2 a3) μ' ∧ fM μ μ') := by
  obtain ⟨p, hp4, hr, hr1, hR, hR7, hDC⟩ := id hI
  have hp : cel p := by unfold cel; omega
  have h48 := hV.1
  have h4 := hD.1
  have key := setF_c hV hD a1 a2 a3
  have ref : ∀ r : Int32, A_setF S D a1 a2 a3 = r → ¬ r = nI 1 → some (Value.int r) = some (.int (A_setF S D a1 a2 a3)) ∧ IC S T (N_setF S D a1 a2 a3) μ ∧ fM μ μ := by
    intro r h1 h2
    refine ⟨by rw [h1], ?_, fM_rf⟩
    unfold N_setF
    rw [if_neg (by rw [h1]; exact h2)]
    exact hI
  refine Ct_X6_setFace ?_
  rw [show ss_r μ 0 0 = p from hr, hDC.1, hR.1, pos_n h4]
  by_cases h0 : D.1 = 0
  · rw [if_pos h0]
    exact ⟨fun g => absurd nI0_eq g, fun _ => ref _ (by unfold A_setF; rw [if_pos h0]) (by decide)⟩
  rw [if_neg h0]
  refine ⟨fun _ => ⟨fun g => ref _ (by unfold A_setF; rw [if_neg h0, if_pos g]) (by decide), fun g => ⟨fun g2 => ⟨cel_o hp, fun g3 => ?_, fun g3 => ref _ (by unfold A_setF; rw [if_neg h0, if_neg g, if_pos g2, if_pos (dnn g3)]) (by decide)⟩, fun g2 => ref _ (by unfold A_setF; rw [if_neg h0, if_neg g, if_neg g2]) (by decide)⟩⟩, fun g => absurd nI1_ne g⟩
  obtain ⟨x, hx, rfl⟩ : ∃ x, x < sn S ∧ a2 = nI x := (cell_c hV.1 a2).resolve_right (fun q => g3 (by rw [q.1]; exact nI0_eq))
  rw [cel_r0 hp, nI_sub1 (by omega), cl_n (by omega), (hR.2 x hx).1]
  refine ⟨cel_o hp, inb_n (cel_1 hp) (by omega) (by decide), fun g4 => ?_, fun g4 => ref _ (by unfold A_setF; rw [if_neg h0, if_neg g, if_pos g2, if_neg g3, cl_n (by omega), if_pos (dnn g4)]) (by decide)⟩
  rcases key with ⟨k, x', m, h1, rfl, hk, e2, hx', rfl, hm, hpm, -, -, hA, hN⟩ | ⟨hA, -⟩
  · have hm64 := p2_lt (by omega) hm
    obtain rfl : x = x' := (nI_eq (by omega) (by omega)).mp e2
    rw [cl_n (by omega), pk_pack x (by omega) m hm64]
    refine ⟨inb_n (n := 5) rfl (by omega) (by decide), by rw [hA], ?_, fun q k hq => by rw [ri_wi, if_neg (by omega)]⟩
    rw [hN]
    obtain ⟨q1, q2⟩ := hD.2 h1
    have hw : D.2.1 < 32 := Nat.lt_of_lt_of_le q1 (two_le (b := 5) (by omega))
    refine ⟨p, hp4, hr, hr1, RC_same hR (fun q k hq => by rw [ri_wi, if_neg (by omega)]), RC_same hR7 (fun q k hq => by rw [ri_wi, if_neg (by omega)]), ⟨by rw [ri_wi, if_neg (by omega)]; exact hDC.1, fun _ j hj => ?_⟩⟩
    have hj : j ≤ D.1 := hj
    show _ = if bitN (orB D.2.1 k) j = 1 then nI (64 * (if j = k then x else D.2.2.1 j) + (if j = k then m else D.2.2.2 j)) else -1
    rw [ri_wi]
    by_cases hjk : j = k
    · rw [if_pos ⟨rfl, hjk⟩, if_pos ((bit_or _ _ _ hw (by omega) (by omega)).mpr (Or.inl hjk)), if_pos hjk, if_pos hjk]
    · rw [if_neg (fun q => hjk q.2), if_neg hjk, if_neg hjk, hDC.2 h1 j hj]
      have := bit_or D.2.1 k j hw (by omega) (by omega)
      simp only [hjk, false_or] at this
      simp only [this]
  · exact absurd (by unfold A_setF; rw [if_neg h0, if_neg g, if_pos g2, if_neg g3, cl_n (by omega), if_neg g4]) hA
end SF

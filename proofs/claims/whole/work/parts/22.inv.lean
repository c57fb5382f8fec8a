/-! the whole state; arguments of calls, sorted -/
abbrev DD : Type := Nat × Nat × (Nat → Nat) × (Nat → Nat)
def DV (S : SS) (D : DD) : Prop := D.1 ≤ 4 ∧ (1 ≤ D.1 → D.2.1 < 2 ^ (D.1 + 1) ∧ ∀ k, k ≤ D.1 → bitN D.2.1 k = 1 → D.2.2.1 k < sn S ∧ D.2.2.2 k < 2 ^ (D.1 - 1) ∧ popN (D.2.2.2 k) = sd S (D.2.2.1 k))
def DC (D : DD) (μ : Mm) : Prop := ss_i μ 10 1 = nI D.1 ∧ (1 ≤ D.1 → ∀ k, k ≤ D.1 → ss_i μ 11 k = if bitN D.2.1 k = 1 then nI (64 * D.2.2.1 k + D.2.2.2 k) else -1)
def DM (D : DD) (μ : Mm) : Prop := ss_i μ 29 5 = nI D.1 ∧ (1 ≤ D.1 → ss_i μ 29 6 = nI D.2.1 ∧ ∀ k, k ≤ D.1 → bitN D.2.1 k = 1 → ss_i μ 33 k = nI (D.2.2.1 k) ∧ ss_i μ 34 k = nI (D.2.2.2 k))
def IC (S T : SS) (D : DD) (μ : Mm) : Prop := ∃ p, (p = 1 ∨ p = 4) ∧ μ.2.2 0 = p ∧ μ.2.2 1 = 5 - p ∧ RC p S μ ∧ RC 7 T μ ∧ DC D μ
def IM (S T : SS) (D : DD) (μ : Mm) : Prop := RM 0 0 S μ ∧ RM 1 48 T μ ∧ DM D μ
def IV (S T : SS) (D : DD) : Prop := VS S ∧ VS T ∧ DV S D
/-- what a question to the class leaves; what one to the reference leaves -/
def kC (μ μ' : Mm) : Prop := (∀ q k, 1 ≤ q → q ≤ 11 → ss_i μ' q k = ss_i μ q k) ∧ μ'.2.2 = μ.2.2 ∧ ∀ q k, 29 ≤ q → ss_i μ' q k = ss_i μ q k
def kM (μ μ' : Mm) : Prop := (∀ q k, q < 29 → ss_i μ' q k = ss_i μ q k) ∧ μ'.2.2 = μ.2.2 ∧ (∀ k, (k = 0 ∨ k = 1 ∨ k = 5 ∨ k = 6) → ss_i μ' 29 k = ss_i μ 29 k) ∧ ∀ q k, 30 ≤ q → q ≤ 34 → ss_i μ' q k = ss_i μ q k
/-- the class leaves the reference's cells; the reference the class's -/
def fM (μ μ' : Mm) : Prop := ∀ q k, 29 ≤ q → ss_i μ' q k = ss_i μ q k
def fC (μ μ' : Mm) : Prop := (∀ q k, q < 29 → ss_i μ' q k = ss_i μ q k) ∧ μ'.2.2 = μ.2.2
theorem kC_rf {μ : Mm} : kC μ μ := ⟨fun _ _ _ _ => rfl, rfl, fun _ _ _ => rfl⟩
theorem kM_rf {μ : Mm} : kM μ μ := ⟨fun _ _ _ => rfl, rfl, fun _ _ => rfl, fun _ _ _ _ => rfl⟩
theorem kC_tr {μ μ1 μ2 : Mm} (h : kC μ μ1) (g : kC μ1 μ2) : kC μ μ2 := ⟨fun q k a b => (g.1 q k a b).trans (h.1 q k a b), g.2.1.trans h.2.1, fun q k a => (g.2.2 q k a).trans (h.2.2 q k a)⟩
theorem kM_tr {μ μ1 μ2 : Mm} (h : kM μ μ1) (g : kM μ1 μ2) : kM μ μ2 := ⟨fun q k a => (g.1 q k a).trans (h.1 q k a), g.2.1.trans h.2.1, fun k a => (g.2.2.1 k a).trans (h.2.2.1 k a), fun q k a b => (g.2.2.2 q k a b).trans (h.2.2.2 q k a b)⟩
theorem fM_rf {μ : Mm} : fM μ μ := fun _ _ _ => rfl
theorem fC_rf {μ : Mm} : fC μ μ := ⟨fun _ _ _ => rfl, rfl⟩
theorem fM_tr {μ μ1 μ2 : Mm} (h : fM μ μ1) (g : fM μ1 μ2) : fM μ μ2 := fun q k a => (g q k a).trans (h q k a)
theorem fC_tr {μ μ1 μ2 : Mm} (h : fC μ μ1) (g : fC μ1 μ2) : fC μ μ2 := ⟨fun q k a => (g.1 q k a).trans (h.1 q k a), g.2.trans h.2⟩
theorem kC.fM {μ μ' : Mm} (h : kC μ μ') : fM μ μ' := h.2.2
theorem kM.fC {μ μ' : Mm} (h : kM μ μ') : fC μ μ' := ⟨h.1, h.2.1⟩
theorem RC_same {t : Nat} {S : SS} {μ μ' : Mm} (hR : RC t S μ) (h : ∀ q k, (q = t ∨ q = t + 1 ∨ q = t + 2) → ss_i μ' q k = ss_i μ q k) : RC t S μ' := by
  refine ⟨by rw [h t 2 (Or.inl rfl)]; exact hR.1, fun c hc => ?_⟩
  obtain ⟨h1, h2⟩ := hR.2 c hc
  exact ⟨by rw [h _ _ (Or.inr (Or.inl rfl))]; exact h1, fun hd k hk => by rw [h _ _ (Or.inr (Or.inr rfl))]; exact h2 hd k hk⟩
theorem RM_same {g b : Nat} {S : SS} {μ μ' : Mm} (hR : RM g b S μ) (h0 : ss_i μ' 29 g = ss_i μ 29 g) (h : ∀ q k, 30 ≤ q → q ≤ 32 → ss_i μ' q k = ss_i μ q k) : RM g b S μ' := by
  refine ⟨by rw [h0]; exact hR.1, fun c hc => ?_⟩
  obtain ⟨h1, h2⟩ := hR.2 c hc
  exact ⟨by rw [h _ _ (by decide) (by decide)]; exact h1, fun hd k hk => by rw [h 31 _ (by decide) (by decide), h 32 _ (by decide) (by decide)]; exact h2 hd k hk⟩
theorem DC_same {D : DD} {μ μ' : Mm} (hR : DC D μ) (h : ∀ q k, (q = 10 ∨ q = 11) → ss_i μ' q k = ss_i μ q k) : DC D μ' := ⟨by rw [h _ _ (Or.inl rfl)]; exact hR.1, fun hd k hk => by rw [h _ _ (Or.inr rfl)]; exact hR.2 hd k hk⟩
theorem DM_same {D : DD} {μ μ' : Mm} (hR : DM D μ) (h5 : ss_i μ' 29 5 = ss_i μ 29 5) (h6 : ss_i μ' 29 6 = ss_i μ 29 6) (h : ∀ q k, (q = 33 ∨ q = 34) → ss_i μ' q k = ss_i μ q k) : DM D μ' := ⟨by rw [h5]; exact hR.1, fun hd => ⟨by rw [h6]; exact (hR.2 hd).1, fun k hk hb => by rw [h _ _ (Or.inl rfl), h _ _ (Or.inr rfl)]; exact (hR.2 hd).2 k hk hb⟩⟩
theorem IC_k {S T : SS} {D : DD} {μ μ' : Mm} (h : IC S T D μ) (k : kC μ μ') : IC S T D μ' := by
  obtain ⟨p, h1, h2, h3, h4, h5, h6⟩ := h
  refine ⟨p, h1, by rw [k.2.1]; exact h2, by rw [k.2.1]; exact h3, RC_same h4 (fun q j hq => k.1 q j (by omega) (by omega)), RC_same h5 (fun q j hq => k.1 q j (by omega) (by omega)), DC_same h6 (fun q j hq => k.1 q j (by omega) (by omega))⟩
theorem IM_k {S T : SS} {D : DD} {μ μ' : Mm} (h : IM S T D μ) (k : kM μ μ') : IM S T D μ' :=
  ⟨RM_same h.1 (k.2.2.1 0 (by omega)) (fun q j a b => k.2.2.2 q j a (by omega)), RM_same h.2.1 (k.2.2.1 1 (by omega)) (fun q j a b => k.2.2.2 q j a (by omega)), DM_same h.2.2 (k.2.2.1 5 (by omega)) (k.2.2.1 6 (by omega)) (fun q j a => k.2.2.2 q j (by omega) (by omega))⟩
theorem IC_f {S T : SS} {D : DD} {μ μ' : Mm} (h : IC S T D μ) (k : fC μ μ') : IC S T D μ' := by
  obtain ⟨p, h1, h2, h3, h4, h5, h6⟩ := h
  refine ⟨p, h1, by rw [k.2]; exact h2, by rw [k.2]; exact h3, RC_same h4 (fun q j hq => k.1 q j (by omega)), RC_same h5 (fun q j hq => k.1 q j (by omega)), DC_same h6 (fun q j hq => k.1 q j (by omega))⟩
theorem IM_f {S T : SS} {D : DD} {μ μ' : Mm} (h : IM S T D μ) (k : fM μ μ') : IM S T D μ' :=
  ⟨RM_same h.1 (k 29 0 (by omega)) (fun q j a b => k q j (by omega)), RM_same h.2.1 (k 29 1 (by omega)) (fun q j a b => k q j (by omega)), DM_same h.2.2 (k 29 5 (by omega)) (k 29 6 (by omega)) (fun q j a => k q j (by omega))⟩
/-! arguments -/
theorem i0 : (0 : Int32) = nI 0 := rfl
theorem nI1_ne : ¬ nI 1 = 0 := by decide
theorem nI0_eq : nI 0 = 0 := by decide
theorem has_t {n x : Nat} (hn : n ≤ 48) (h : x < n) : iHasC (nI n) (nI x) = nI 1 := by
  unfold iHasC
  rw [if_neg (nI_pos (by omega)), if_neg (nI_ge h (by omega))]
theorem not_t {n x : Nat} (hn : n ≤ 48) (h : x < n) : iNot (iIn (nI x) (nI 0) (nI n - nI 1)) = nI 0 := by
  unfold iIn iNot
  rw [nI_sub1 (by omega), if_neg (nI_nlt (by omega) (by omega)), if_neg (nI_nlt (by omega) (by omega)), if_neg nI1_ne]
theorem cell_c {n : Nat} (hn : n ≤ 48) (a : Int32) : (∃ x, x < n ∧ a = nI x) ∨ (iHasC (nI n) a = nI 0 ∧ iNot (iIn a (nI 0) (nI n - nI 1)) = nI 1) := by
  rcases pk_ix a (n := n) (by omega) with h | h | ⟨j, h1, h2⟩
  · right
    unfold iHasC iIn iNot
    rw [if_pos h, if_pos (show a < nI 0 from h)]
    simp [nI0_eq]
  · right
    have h0 : ¬ a < 0 := fun q => absurd (Int32.lt_of_le_of_lt h q) (nI_pos (by omega))
    have h1 : nI n - nI 1 < a := by
      rcases Nat.eq_zero_or_pos n with q | q
      · subst q
        exact Int32.lt_of_lt_of_le (by decide) h
      · rw [nI_sub1 q]
        exact Int32.lt_of_lt_of_le (nI_lt (by omega) (by omega)) h
    unfold iHasC iIn iNot
    rw [if_neg h0, if_pos h, if_neg (show ¬ a < nI 0 from h0), if_pos h1]
    simp [nI0_eq]
  · exact Or.inl ⟨j, h1, h2⟩
theorem rng_c {lo hi : Nat} (hl : lo ≤ hi) (h : hi < 2 ^ 30) (a : Int32) : (∃ j, lo ≤ j ∧ j ≤ hi ∧ a = nI j) ∨ a < nI lo ∨ nI hi < a := by
  rcases pk_ix a (n := hi + 1) (by omega) with h1 | h1 | ⟨j, h1, h2⟩
  · right; left
    exact Int32.lt_of_lt_of_le h1 (nI_pos' (by omega))
  · right; right
    exact Int32.lt_of_lt_of_le (nI_lt (by omega) (by omega)) h1
  · by_cases hj : lo ≤ j
    · exact Or.inl ⟨j, hj, by omega, h2⟩
    · right; left
      subst h2
      exact nI_lt (by omega) (by omega)
theorem in_t {lo hi j : Nat} (h : hi < 2 ^ 30) (h1 : lo ≤ j) (h2 : j ≤ hi) : iIn (nI j) (nI lo) (nI hi) = nI 1 := by
  unfold iIn
  rw [if_neg (nI_nlt h1 (by omega)), if_neg (nI_nlt h2 (by omega))]
theorem in_f {a b c : Int32} (h : a < b ∨ c < a) : iIn a b c = nI 0 := by
  unfold iIn
  by_cases h1 : a < b
  · rw [if_pos h1]
  · rw [if_neg h1, if_pos (h.resolve_left h1)]
/-- a mask is one of the dimension over the cell, or neither side takes it -/
theorem msk_c {k e : Nat} (hk : k < 7) (he : e < 7) (a : Int32) : (∃ w, w < 2 ^ k ∧ popN w = e ∧ a = nI w ∧ iIsM (nI k) a (nI e) = nI 1 ∧ iIsM7 (nI k) a (nI e) = nI 1) ∨ (iIsM (nI k) a (nI e) = nI 0 ∧ iIsM7 (nI k) a (nI e) = nI 0) := by
  have h2k : 2 ^ k ≤ 64 := two_le (b := 6) (by omega)
  have h2k0 : 0 < 2 ^ k := Nat.two_pow_pos k
  rcases pk_ix a (n := 2 ^ k) (by omega) with h | h | ⟨w, h1, h2⟩
  · right
    unfold iIsM iIsM7
    rw [if_pos h, in_f (b := nI 0) (Or.inl h), if_pos nI0_eq]
    exact ⟨rfl, rfl⟩
  · right
    have h0 : ¬ a < 0 := fun q => absurd (Int32.lt_of_le_of_lt h q) (nI_pos (by omega))
    have h1 : iLow (nI k) < a := by
      rw [d_low k hk]
      exact Int32.lt_of_lt_of_le (nI_lt (by omega) (by omega)) h
    unfold iIsM iIsM7
    rw [if_neg h0, if_pos h1, in_f (Or.inr h1), if_pos nI0_eq]
    exact ⟨rfl, rfl⟩
  · subst h2
    have h0 : ¬ nI w < 0 := nI_pos (by omega)
    have e1 : ¬ iLow (nI k) < nI w := by rw [d_low k hk]; exact nI_nlt (by omega) (by omega)
    have e2 : iIn (nI w) (nI 0) (iLow (nI k)) = nI 1 := by rw [d_low k hk]; exact in_t (by omega) (by omega) (by omega)
    have e3 := d_bc w (by omega)
    have e4 := d_b7 w (by omega)
    have e5 : popN w < 7 := pop_lt64 w (by omega)
    by_cases hp : popN w = e
    · left
      refine ⟨w, h1, hp, rfl, ?_, ?_⟩
      · unfold iIsM; rw [if_neg h0, if_neg e1, e3, hp, if_pos rfl]
      · unfold iIsM7; rw [e2, if_neg nI1_ne, e4, hp, if_pos rfl]
    · right
      have hne : ¬ nI (popN w) = nI e := by rw [nI_eq (by omega) (by omega)]; exact hp
      refine ⟨?_, ?_⟩
      · unfold iIsM; rw [if_neg h0, if_neg e1, e3, if_neg hne]
      · unfold iIsM7; rw [e2, if_neg nI1_ne, e4, if_neg hne]
/-- what a simplex with a place is refused with -/
def bar (S : SS) (a1 a2 a3 a4 lo hi : Int32) : Int32 := if iHasC (nI (sn S)) a1 = 0 then -101 else if a2 < lo then -102 else if a2 ≤ hi then (if iIsM a2 a3 (nI (sd S a1.toNatClampNeg)) = 0 then -103 else if a4 < 0 then -104 else if a4 ≤ a2 then nI 0 else -104) else -102
theorem bar_c {S : SS} (hV : VS S) {lo hi : Nat} (hl : lo ≤ hi) (h6 : hi ≤ 6) (a1 a2 a3 a4 : Int32) : (∃ x n m i, a1 = nI x ∧ a2 = nI n ∧ a3 = nI m ∧ a4 = nI i ∧ vsx S x n m ∧ lo ≤ n ∧ n ≤ hi ∧ i ≤ n ∧ bar S a1 a2 a3 a4 (nI lo) (nI hi) = nI 0) ∨ bar S a1 a2 a3 a4 (nI lo) (nI hi) < 0 := by
  rcases cell_c hV.1 a1 with ⟨x, hx, rfl⟩ | ⟨h, -⟩
  · have hxs := (hV.2 x hx).1
    have e0 : Int32.toNatClampNeg (nI x) = x := cl_n (by have := hV.1; omega)
    have e1 : ¬ iHasC (nI (sn S)) (nI x) = 0 := by rw [has_t hV.1 hx]; exact nI1_ne
    rcases rng_c hl (by omega) a2 with ⟨n, h1, h2, rfl⟩ | h | h
    · have e2 : ¬ nI n < nI lo := nI_nlt h1 (by omega)
      have e3 : nI n ≤ nI hi := nI_le h2 (by omega)
      rcases msk_c (k := n) (e := sd S x) (by omega) (by omega) a3 with ⟨m, h3, h4, rfl, h5, -⟩ | ⟨h5, -⟩
      · have e4 : ¬ iIsM (nI n) (nI m) (nI (sd S x)) = 0 := by rw [h5]; exact nI1_ne
        rcases rng_c (lo := 0) (hi := n) (by omega) (by omega) a4 with ⟨i, -, h7, rfl⟩ | h7 | h7
        · left
          refine ⟨x, n, m, i, rfl, rfl, rfl, rfl, ⟨hx, by omega, h3, h4⟩, h1, h2, h7, ?_⟩
          unfold bar
          rw [if_neg e1, if_neg e2, if_pos e3, e0, if_neg e4, if_neg (nI_pos (by omega)), if_pos (nI_le h7 (by omega))]
        · right
          unfold bar
          rw [if_neg e1, if_neg e2, if_pos e3, e0, if_neg e4, if_pos (show a4 < 0 from h7)]
          decide
        · right
          have h8 : ¬ a4 ≤ nI n := Int32.not_le.mpr h7
          unfold bar
          rw [if_neg e1, if_neg e2, if_pos e3, e0, if_neg e4, if_neg h8]
          split <;> decide
      · right
        unfold bar
        rw [if_neg e1, if_neg e2, if_pos e3, e0, h5, if_pos nI0_eq]
        decide
    · right
      unfold bar
      rw [if_neg e1, if_pos h]
      decide
    · right
      unfold bar
      rw [if_neg e1, if_neg (Int32.not_le.mpr h : ¬ a2 ≤ nI hi)]
      split <;> decide
  · right
    unfold bar
    rw [h, if_pos nI0_eq]
    decide
section BA
variable {l : Launch} {ω : Wd} {μ : Mm}
theorem IC_pl {S T : SS} {D : DD} (h : IC S T D μ) : ∃ p, cel p ∧ ss_r μ 0 0 = p ∧ RC p S μ := by
  obtain ⟨p, h1, h2, h3, h4, h5, h6⟩ := h
  exact ⟨p, by unfold cel; omega, h2, h4⟩
theorem c_checkPlace {S T : SS} {D : DD} (hV : VS S) (hI : IC S T D μ) (a1 a2 a3 a4 a5 a6 : Int32) : CtrP l ω M_X6_checkPlace [.ref 0, .int a1, .int a2, .int a3, .int a4, .int a5, .int a6] μ (bar S a1 a2 a3 a4 a5 a6) := by
  obtain ⟨p, hp, hr, hR⟩ := IC_pl hI
  refine Ct_X6_checkPlace ?_
  rw [hr, hR.1]
  refine ⟨cel_o hp, fun g => ?_, fun g => ⟨by unfold bar; rw [if_pos (dnn g)], rfl⟩⟩
  obtain ⟨x, hx, rfl⟩ : ∃ x, x < sn S ∧ a1 = nI x := by
    rcases cell_c hV.1 a1 with q | q
    · exact q
    · exact absurd (by rw [q.1]; exact nI0_eq) g
  have hx48 := hV.1
  have e0 : Int32.toNatClampNeg (nI x) = x := cl_n (by omega)
  refine ⟨fun g2 => ⟨by unfold bar; rw [if_neg g, if_pos g2], rfl⟩, fun g2 => ⟨fun g3 => ?_, fun g3 => ⟨by unfold bar; rw [if_neg g, if_neg g2, if_neg g3], rfl⟩⟩⟩
  rw [cel_r0 hp, e0, (hR.2 x hx).1]
  refine ⟨cel_o hp, inb_n (cel_1 hp) (by omega) (by decide), fun g4 => ⟨fun g5 => ?_, fun g5 => ⟨fun g6 => ?_, fun g6 => ?_⟩⟩, fun g4 => ?_⟩
  · exact ⟨by unfold bar; rw [if_neg g, if_neg g2, if_pos g3, e0, if_neg g4, if_pos g5], rfl⟩
  · exact ⟨by unfold bar; rw [if_neg g, if_neg g2, if_pos g3, e0, if_neg g4, if_neg g5, if_pos g6], rfl⟩
  · exact ⟨by unfold bar; rw [if_neg g, if_neg g2, if_pos g3, e0, if_neg g4, if_neg g5, if_neg g6], rfl⟩
  · exact ⟨by unfold bar; rw [if_neg g, if_neg g2, if_pos g3, e0, if_pos (dnn g4)], rfl⟩
theorem c_simplexBarred {S T : SS} {D : DD} (hV : VS S) (hI : IM S T D μ) {lo hi : Nat} (hl : lo ≤ hi) (h6 : hi ≤ 6) (a1 a2 a3 a4 : Int32) : CtrP l ω M_X7_simplexBarred [.ref 29, .int a1, .int a2, .int a3, .int a4, .int (nI lo), .int (nI hi)] μ (bar S a1 a2 a3 a4 (nI lo) (nI hi)) := by
  have hR := hI.1
  refine Ct_X7_simplexBarred ?_
  rw [hR.1]
  rcases cell_c hV.1 a1 with ⟨x, hx, rfl⟩ | ⟨h, h'⟩
  · have hx48 := hV.1
    have hxs := (hV.2 x hx).1
    have e0 : Int32.toNatClampNeg (nI x) = x := cl_n (by omega)
    have g : ¬ iHasC (nI (sn S)) (nI x) = 0 := by rw [has_t hV.1 hx]; exact nI1_ne
    have er := (hR.2 x hx).1
    rw [Nat.zero_add] at er
    rw [not_t hV.1 hx]
    refine ⟨fun _ => ?_, fun q => absurd nI0_eq q⟩
    rcases rng_c hl (by omega) a2 with ⟨n, h1, h2, rfl⟩ | h | h
    · have g2 : ¬ nI n < nI lo := nI_nlt h1 (by omega)
      have g3 : nI n ≤ nI hi := nI_le h2 (by omega)
      rw [in_t (by omega) h1 h2, e0, er]
      refine ⟨fun _ => ⟨inb_n (n := 96) rfl (by omega) (by decide), ?_⟩, fun q => absurd nI1_ne q⟩
      rcases msk_c (k := n) (e := sd S x) (by omega) (by omega) a3 with ⟨m, h3, h4, rfl, h5, h5'⟩ | ⟨h5, h5'⟩
      · have g4 : ¬ iIsM (nI n) (nI m) (nI (sd S x)) = 0 := by rw [h5]; exact nI1_ne
        rw [h5']
        refine ⟨fun _ => ?_, fun q => absurd nI1_ne q⟩
        rcases rng_c (lo := 0) (hi := n) (by omega) (by omega) a4 with ⟨i, -, h7, rfl⟩ | h7 | h7
        · rw [in_t (by omega) (by omega) h7]
          refine ⟨fun q => absurd q nI1_ne, fun _ => ⟨?_, rfl⟩⟩
          unfold bar
          rw [if_neg g, if_neg g2, if_pos g3, e0, if_neg g4, if_neg (nI_pos (by omega)), if_pos (nI_le h7 (by omega))]
        · rw [in_f (Or.inl h7)]
          refine ⟨fun _ => ⟨?_, rfl⟩, fun q => absurd nI0_eq q⟩
          unfold bar
          rw [if_neg g, if_neg g2, if_pos g3, e0, if_neg g4, if_pos (show a4 < 0 from h7)]
        · rw [in_f (Or.inr h7)]
          refine ⟨fun _ => ⟨?_, rfl⟩, fun q => absurd nI0_eq q⟩
          unfold bar
          rw [if_neg g, if_neg g2, if_pos g3, e0, if_neg g4, if_neg (Int32.not_le.mpr h7 : ¬ a4 ≤ nI n)]
          split <;> rfl
      · rw [h5']
        refine ⟨fun q => absurd nI0_eq q, fun _ => ⟨?_, rfl⟩⟩
        unfold bar
        rw [if_neg g, if_neg g2, if_pos g3, e0, h5, if_pos nI0_eq]
    · rw [in_f (Or.inl h)]
      refine ⟨fun q => absurd nI0_eq q, fun _ => ⟨?_, rfl⟩⟩
      unfold bar
      rw [if_neg g, if_pos h]
    · rw [in_f (Or.inr h)]
      refine ⟨fun q => absurd nI0_eq q, fun _ => ⟨?_, rfl⟩⟩
      unfold bar
      rw [if_neg g, if_neg (Int32.not_le.mpr h : ¬ a2 ≤ nI hi)]
      split <;> rfl
  · rw [h']
    refine ⟨fun q => absurd q nI1_ne, fun _ => ⟨?_, rfl⟩⟩
    unfold bar
    rw [h, if_pos nI0_eq]
end BA

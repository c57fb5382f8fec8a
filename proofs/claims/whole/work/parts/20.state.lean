/-! simplicial sets as numbers: how many cells, their dimensions, their faces' cells and masks -/
abbrev SS : Type := Nat × (Nat → Nat) × (Nat → Nat → Nat) × (Nat → Nat → Nat)
def sn (S : SS) : Nat := S.1
def sd (S : SS) (c : Nat) : Nat := S.2.1 c
def sf (S : SS) (c k : Nat) : Nat := S.2.2.1 c k
def sm (S : SS) (c k : Nat) : Nat := S.2.2.2 c k
def VS (S : SS) : Prop := sn S ≤ 48 ∧ ∀ c, c < sn S → sd S c ≤ 4 ∧ (1 ≤ sd S c → ∀ k, k ≤ sd S c → sf S c k < sn S ∧ sm S c k < 2 ^ (sd S c - 1) ∧ popN (sm S c k) = sd S (sf S c k))
/-- the cells of a place of the class -/
def RC (t : Nat) (S : SS) (μ : Mm) : Prop := ss_i μ t 2 = nI (sn S) ∧ ∀ c, c < sn S → ss_i μ (t + 1) c = nI (sd S c) ∧ (1 ≤ sd S c → ∀ k, k ≤ sd S c → ss_i μ (t + 2) (5 * c + k) = nI (64 * sf S c k + sm S c k))
/-- the cells of the reference, from a base on -/
def RM (g b : Nat) (S : SS) (μ : Mm) : Prop := ss_i μ 29 g = nI (sn S) ∧ ∀ c, c < sn S → ss_i μ 30 (b + c) = nI (sd S c) ∧ (1 ≤ sd S c → ∀ k, k ≤ sd S c → ss_i μ 31 (5 * (b + c) + k) = nI (sf S c k) ∧ ss_i μ 32 (5 * (b + c) + k) = nI (sm S c k))
def cel (t : Nat) : Prop := t = 1 ∨ t = 4 ∨ t = 7
theorem cel_0 {t : Nat} (h : cel t) : shA t = (0, 0) := by rcases h with rfl | rfl | rfl <;> rfl
theorem cel_1 {t : Nat} (h : cel t) : shA (t + 1) = (1, 48) := by rcases h with rfl | rfl | rfl <;> rfl
theorem cel_2 {t : Nat} (h : cel t) : shA (t + 2) = (1, 240) := by rcases h with rfl | rfl | rfl <;> rfl
theorem cel_o {t : Nat} (h : cel t) : oCl t 0 = true := oCl_n (cel_0 h)
theorem cel_r0 {t : Nat} (h : cel t) (μ : Mm) : ss_r μ t 0 = t + 1 := by rcases h with rfl | rfl | rfl <;> rfl
theorem cel_r1 {t : Nat} (h : cel t) (μ : Mm) : ss_r μ t 1 = t + 2 := by rcases h with rfl | rfl | rfl <;> rfl
/-- a simplex of dimension n over a cell -/
def vsx (S : SS) (x n m : Nat) : Prop := x < sn S ∧ n < 7 ∧ m < 2 ^ n ∧ popN m = sd S x
def fcx (S : SS) (x n m i : Nat) : Nat := if aloN n m i = true then sf S x (numN m i) else x
def fmx (S : SS) (x n m i : Nat) : Nat := if aloN n m i = true then sprN (sm S x (numN m i)) (stpN n m i) else drpN n m i
theorem two_le {a b : Nat} (h : a ≤ b) : 2 ^ a ≤ 2 ^ b := Nat.pow_le_pow_right (by decide) h
theorem stp32 {n m i : Nat} (hn : n < 7) (h : stpN n m i < 2 ^ (n - 1)) : stpN n m i < 32 := Nat.lt_of_lt_of_le h (two_le (b := 5) (by omega))
theorem face_v {S : SS} (hV : VS S) {x n m i : Nat} (h : vsx S x n m) (hn : 1 ≤ n) (hi : i ≤ n) : vsx S (fcx S x n m i) (n - 1) (fmx S x n m i) := by
  obtain ⟨h1, h2, h3, h4⟩ := h
  unfold fcx fmx
  cases ha : aloN n m i
  · obtain ⟨q1, q2, -⟩ := d_drp h2 hn h3 hi ha
    simp only [Bool.false_eq_true, if_false]
    exact ⟨h1, by omega, q2, by rw [q1]; exact h4⟩
  · obtain ⟨q1, q2, q3, q4, -⟩ := d_alo h2 hn h3 hi ha
    simp only [if_true]
    obtain ⟨r1, r2⟩ := hV.2 x h1
    rw [h4] at q1 q2 q3
    obtain ⟨f1, f2, f3⟩ := r2 q1 (numN m i) q2
    have hs := stp32 h2 q4
    have hf8 : sm S x (numN m i) < 8 := Nat.lt_of_lt_of_le f2 (two_le (b := 3) (by omega))
    obtain ⟨e1, e2⟩ := d_spr _ hs _ hf8 (by rw [q3]; exact f2)
    exact ⟨f1, by omega, Nat.lt_of_le_of_lt e2 q4, by rw [e1]; exact f3⟩
theorem RC_k {t : Nat} {S : SS} {μ : Mm} (h : RC t S μ) {c k : Nat} (hc : c < sn S) (hd : 1 ≤ sd S c) (hk : k ≤ sd S c) : ss_i μ (t + 2) (5 * c + k) = nI (64 * sf S c k + sm S c k) := (h.2 c hc).2 hd k hk
theorem has_n {n x : Nat} (hn : n ≤ 48) (h : x < n) : ¬ iHasC (nI n) (nI x) = 0 := by
  unfold iHasC
  rw [if_neg (nI_pos (by omega)), if_neg (nI_ge h (by omega))]
  decide
theorem fAt_n {μ : Mm} {t x k : Nat} {S : SS} (ht : cel t) (hV : VS S) (hR : RC t S μ) (hx : x < sn S) (hk : k < 5) : fAt μ t (nI x) (nI k) = true := by
  have h48 := hV.1
  refine fAt_i ?_ ?_ (nI_pos (by omega)) (nI_ge hk (by decide))
  · rw [cel_r1 ht, show nI x * nI 5 + nI k = nI (5 * x + k) by rw [pk_mul, nI_add]; congr 1; omega]
    exact inb_n (cel_2 ht) (by omega) (by decide)
  · rw [hR.1]; exact has_n h48 hx
section FO
variable {l : Launch} {ω : Wd} {μ : Mm}
theorem c_faceOf {t : Nat} {S : SS} {x n m i : Nat} (ht : cel t) (hV : VS S) (hR : RC t S μ) (hx : vsx S x n m) (hn : 1 ≤ n) (hi : i ≤ n) : CtrP l ω M_X0_faceOf [.ref t, .int (nI (64 * x + m)), .int (nI n), .int (nI i)] μ (nI (64 * fcx S x n m i + fmx S x n m i)) := by
  obtain ⟨h1, h2, h3, h4⟩ := id hx
  have hx48 : x < 48 := Nat.lt_of_lt_of_le h1 hV.1
  have hm64 := p2_lt h2 h3
  have hfv := face_v hV hx hn hi
  have hc48 : fcx S x n m i < 48 := Nat.lt_of_lt_of_le hfv.1 hV.1
  have hf64 : fmx S x n m i < 64 := p2_lt hfv.2.1 hfv.2.2.1
  have e1 := pk_cell hx48 hm64
  have e2 := pk_mask hx48 hm64
  have nodrop : aloN n m i = true → Good l ω M_X0_faceOf 67 [.ref t, .null, .int (nI n), .int (nI i), .int (nI x), .int (nI m), .null, .null] [] μ (fun v μ' => v = some (.int (nI (64 * fcx S x n m i + fmx S x n m i))) ∧ μ' = μ) := by
    intro ha
    obtain ⟨q1, q2, q3, q4, -⟩ := d_alo h2 hn h3 hi ha
    rw [h4] at q1 q2 q3
    obtain ⟨r1, r2⟩ := hV.2 x h1
    obtain ⟨f1, f2, f3⟩ := r2 q1 (numN m i) q2
    have hs := stp32 h2 q4
    have hf8 : sm S x (numN m i) < 8 := Nat.lt_of_lt_of_le f2 (two_le (b := 3) (by omega))
    have en : nI x * nI 5 + iNum (nI m) (nI i) = nI (5 * x + numN m i) := by
      rw [d_num m hm64 i (by omega), pk_mul, nI_add]; congr 1; omega
    have er := RC_k hR h1 q1 q2
    have hsf : sf S x (numN m i) < 48 := Nat.lt_of_lt_of_le f1 hV.1
    refine Tr_X0_faceOf_67 ⟨cel_o ht, ?_, fun g => ?_, fun g => ?_⟩
    · rw [d_num m hm64 i (by omega)]; exact fAt_n ht hV hR h1 (by omega)
    · rw [cel_r1 ht, en, cl_n (by omega), er, pk_cell hsf (by omega), pk_mask hsf (by omega)]
      have hin : i = n := by
        rcases Nat.lt_or_ge i n with q | q
        · exact absurd g (nI_ge q (by omega))
        · omega
      have e3 : nI n - nI 1 = nI (n - 1) := nI_sub1 (by omega)
      have e4 : woN m (n - 1) = stpN n m i := by unfold stpN; rw [if_neg (by omega)]
      rw [e3, d_wo m hm64 (n - 1) (by omega), e4, d_sp _ hf8 _ hs, pk_pack _ hsf _ (by have := (d_spr _ hs _ hf8 (by rw [q3]; exact f2)).2; omega)]
      refine ⟨?_, rfl⟩
      unfold fcx fmx; simp only [ha, if_true]
    · rw [cel_r1 ht, en, cl_n (by omega), er, pk_cell hsf (by omega), pk_mask hsf (by omega)]
      have hin : i < n := by
        rcases Nat.lt_or_ge i n with q | q
        · exact q
        · exact absurd (nI_le q (by omega)) g
      have e4 : woN m i = stpN n m i := by unfold stpN; rw [if_pos hin]
      rw [d_wo m hm64 i (by omega), e4, d_sp _ hf8 _ hs, pk_pack _ hsf _ (by have := (d_spr _ hs _ hf8 (by rw [q3]; exact f2)).2; omega)]
      refine ⟨?_, rfl⟩
      unfold fcx fmx; simp only [ha, if_true]
  have drop : aloN n m i = false → (i < n ∧ bitN m i = 0 → iPack (nI x) (iWo (nI m) (nI i)) = nI (64 * fcx S x n m i + fmx S x n m i)) ∧ (¬ (i < n ∧ bitN m i = 0) → iPack (nI x) (iWo (nI m) (nI i - nI 1)) = nI (64 * fcx S x n m i + fmx S x n m i)) := by
    intro ha
    obtain ⟨q1, q2, q3⟩ := d_drp h2 hn h3 hi ha
    have hd64 : drpN n m i < 64 := p2_lt (by omega) q2
    have ef : fcx S x n m i = x := by unfold fcx; simp [ha]
    have eg : fmx S x n m i = drpN n m i := by unfold fmx; simp [ha]
    rw [ef, eg]
    refine ⟨fun g => ?_, fun g => ?_⟩
    · rw [d_wo m hm64 i (by omega)]
      have : drpN n m i = woN m i := by unfold drpN; rw [if_pos g]
      rw [← this, pk_pack _ hx48 _ hd64]
    · have : drpN n m i = woN m (i - 1) := by unfold drpN; rw [if_neg g]
      have hi0 : 0 < i := q3.elim (fun q => absurd q g) (fun q => q.1)
      rw [nI_sub1 hi0, d_wo m hm64 (i - 1) (by omega), ← this, pk_pack _ hx48 _ hd64]
  have has : ∀ j, j < 7 → (iHas (nI m) (nI j) = 0 ↔ bitN m j = 0) := by
    intro j hj
    rw [d_has m hm64 j hj]
    have hb : bitN m j < 2 := Nat.mod_lt _ (by decide)
    rw [show (0 : Int32) = nI 0 from rfl, nI_eq (by omega) (by decide)]
  have second : ¬ (i < n ∧ bitN m i = 0) → Good l ω M_X0_faceOf 38 [.ref t, .null, .int (nI n), .int (nI i), .int (nI x), .int (nI m), .null, .null] [] μ (fun v μ' => v = some (.int (nI (64 * fcx S x n m i + fmx S x n m i))) ∧ μ' = μ) := by
    intro g
    have alo : (i = 0 ∨ bitN m (i - 1) ≠ 0) → aloN n m i = true := by
      intro q
      cases ha : aloN n m i with
      | true => rfl
      | false =>
        obtain ⟨-, -, q3⟩ := d_drp h2 hn h3 hi ha
        rcases q3 with q3 | q3
        · exact absurd q3 g
        · rcases q with q | q
          · omega
          · exact absurd q3.2 q
    refine Tr_X0_faceOf_38 ⟨fun g2 => ?_, fun g2 => ⟨fun g3 => ?_, fun g3 => ?_⟩⟩
    · have : i = 0 := by
        rcases Nat.eq_zero_or_pos i with q | q
        · exact q
        · exact absurd g2 (nI_nle q (by omega))
      exact nodrop (alo (Or.inl this))
    · have hi0 : 0 < i := by
        rcases Nat.eq_zero_or_pos i with q | q
        · subst q; exact absurd (by decide) g2
        · exact q
      rw [nI_sub1 hi0, has _ (by omega)] at g3
      exact nodrop (alo (Or.inr g3))
    · have hi0 : 0 < i := by
        rcases Nat.eq_zero_or_pos i with q | q
        · subst q; exact absurd (by decide) g2
        · exact q
      have g4 := dnn g3
      rw [nI_sub1 hi0, has _ (by omega)] at g4
      have hna : aloN n m i = false := by
        cases ha : aloN n m i with
        | false => rfl
        | true => exact absurd ⟨hi0, g4⟩ (d_alo h2 hn h3 hi ha).2.2.2.2.2
      exact ⟨by rw [(drop hna).2 g], rfl⟩
  refine Ct_X0_faceOf ?_
  rw [e1, e2]
  refine ⟨fun g => ?_, fun g => ⟨fun g2 => ?_, fun g2 => ?_⟩⟩
  · refine second (fun q => ?_)
    exact absurd g (nI_ge q.1 (by omega))
  · rw [has _ (by omega)] at g2
    exact second (fun q => g2 q.2)
  · have g3 := dnn g2
    rw [has _ (by omega)] at g3
    have hin : i < n := by
      rcases Nat.lt_or_ge i n with q | q
      · exact q
      · exact absurd (nI_le q (by omega)) g
    have hna : aloN n m i = false := by
      cases ha : aloN n m i with
      | false => rfl
      | true => exact absurd ⟨hin, g3⟩ (d_alo h2 hn h3 hi ha).2.2.2.2.1
    exact ⟨by rw [(drop hna).1 ⟨hin, g3⟩], rfl⟩
end FO

/-! the reference's face of a simplex -/
theorem d_bt : ∀ m, m < 64 → ∀ j, j < 7 → (nI m >>> (nI j &&& 31)) &&& nI 1 = nI (bitN m j) := by decide +kernel
theorem d_n7 : ∀ m, m < 64 → ∀ j, j < 7 → iBits (nI m &&& iLow (nI j)) = nI (numN m j) := by decide +kernel
theorem d_b7 : ∀ m, m < 64 → iBits (nI m) = nI (popN m) := by decide +kernel
def k_dr7 (n m i : Nat) : Bool := !(decide (1 ≤ n) && !aloN n m i) || decide (iDrp (nI n) (nI m) (nI i) = nI (drpN n m i))
theorem d_dr70 : ∀ n, n < 7 → ∀ m, m < 2 ^ n → ∀ i, i < n + 1 → k_dr7 n m i = true := by decide +kernel
theorem d_dr7 {n m i : Nat} (hn : n < 7) (hn1 : 1 ≤ n) (hm : m < 2 ^ n) (hi : i ≤ n) (ha : aloN n m i = false) : iDrp (nI n) (nI m) (nI i) = nI (drpN n m i) := by
  have h := d_dr70 n hn m hm i (by omega)
  unfold k_dr7 at h
  rw [ha, decide_eq_true hn1] at h
  exact of_decide_eq_true h
def tkF (m fm v j : Int32) : Int32 := if v ≤ iBits (m &&& iLow j) then iBits (fm &&& iLow (iBits (m &&& iLow j) - nI 1)) else iBits (fm &&& iLow (iBits (m &&& iLow j)))
def tkS (m fm v i j : Int32) (x : Int32 × Int32 × Int32) : Int32 × Int32 × Int32 := if j = i then x else (x.1 + nI 1, tkF m fm v j, if x.1 ≤ 0 then x.2.2 ||| nI 0 else if tkF m fm v j ≤ x.2.1 then x.2.2 ||| nI 0 else x.2.2 ||| (nI 1 <<< ((x.1 - nI 1) &&& 31)))
def tkR (m fm v i : Int32) : Nat → Int32 × Int32 × Int32
  | 0 => (nI 0, nI 0, nI 0)
  | j + 1 => tkS m fm v i (nI j) (tkR m fm v i j)
def k_tk (n m i f : Nat) : Bool := !(decide (1 ≤ n) && aloN n m i && decide (f < 2 ^ (popN m - 1))) || decide ((tkR (nI m) (nI f) (nI (numN m i)) (nI i) (n + 1)).2.2 = nI (sprN f (stpN n m i)))
theorem d_tk0 : ∀ n, n < 7 → ∀ m, m < 2 ^ n → ∀ i, i < n + 1 → ∀ f, f < 8 → k_tk n m i f = true := by decide +kernel
theorem d_tk {n m i f : Nat} (hn : n < 7) (hn1 : 1 ≤ n) (hm : m < 2 ^ n) (hi : i ≤ n) (ha : aloN n m i = true) (hf : f < 8) (hf2 : f < 2 ^ (popN m - 1)) : (tkR (nI m) (nI f) (nI (numN m i)) (nI i) (n + 1)).2.2 = nI (sprN f (stpN n m i)) := by
  have h := d_tk0 n hn m hm i (by omega) f hf
  unfold k_tk at h
  rw [ha, decide_eq_true hn1, decide_eq_true hf2] at h
  exact of_decide_eq_true h
theorem alo_t {n m i : Nat} (h1 : i = 0 ∨ bitN m (i - 1) = 1) (h2 : i = n ∨ bitN m i = 1) : aloN n m i = true := by
  unfold aloN; simp only [Bool.and_eq_true, Bool.or_eq_true, decide_eq_true_eq]; exact ⟨h1, h2⟩
theorem alo_f {n m i : Nat} (h : ¬ (i = 0 ∨ bitN m (i - 1) = 1) ∨ ¬ (i = n ∨ bitN m i = 1)) : aloN n m i = false := by
  cases ha : aloN n m i with
  | false => rfl
  | true =>
    unfold aloN at ha
    simp only [Bool.and_eq_true, Bool.or_eq_true, decide_eq_true_eq] at ha
    exact absurd ha (fun q => h.elim (fun r => r q.1) (fun r => r q.2))
section TF
variable {l : Launch} {ω : Wd} {μ : Mm}
theorem c_takeFace {g b : Nat} {S : SS} {x n m i : Nat} (hb : b ≤ 48) (hV : VS S) (hR : RM g b S μ) (hx : vsx S x n m) (hn : 1 ≤ n) (hi : i ≤ n) : Ctr l ω M_X7_takeFace [.ref 29, .int (nI b), .int (nI x), .int (nI n), .int (nI m), .int (nI i)] μ (fun v μ' => v = none ∧ μ' = ss_wi (ss_wi μ 29 9 (nI (fcx S x n m i))) 29 10 (nI (fmx S x n m i))) := by
  obtain ⟨h1, h2, h3, h4⟩ := id hx
  have hx48 : x < 48 := Nat.lt_of_lt_of_le h1 hV.1
  have hm64 := p2_lt h2 h3
  have bt : ∀ j, j < 7 → ((nI m >>> (nI j &&& 31)) &&& nI 1 = nI 1 ↔ bitN m j = 1) := by
    intro j hj
    have hb : bitN m j < 2 := Nat.mod_lt _ (by decide)
    rw [d_bt m hm64 j hj, nI_eq (by omega) (by decide)]
  have yes : aloN n m i = true → Good l ω M_X7_takeFace 65 [.ref 29, .int (nI b), .int (nI x), .int (nI n), .int (nI m), .int (nI i), .null, .null, .null, .null, .null, .null, .null, .null, .null] [] μ (fun v μ' => v = none ∧ μ' = ss_wi (ss_wi μ 29 9 (nI (fcx S x n m i))) 29 10 (nI (fmx S x n m i))) := by
    intro ha
    obtain ⟨q1, q2, q3, q4, -⟩ := d_alo h2 hn h3 hi ha
    have q1' := q1
    rw [h4] at q1 q2 q3
    obtain ⟨r1, r2⟩ := hV.2 x h1
    obtain ⟨f1, f2, f3⟩ := r2 q1 (numN m i) q2
    have hf8 : sm S x (numN m i) < 8 := Nat.lt_of_lt_of_le f2 (two_le (b := 3) (by omega))
    obtain ⟨e31, e32⟩ := (hR.2 x h1).2 q1 (numN m i) q2
    refine Tr_X7_takeFace_65 ?_
    have en : nI 5 * (nI b + nI x) + iBits (nI m &&& iLow (nI i)) = nI (5 * (b + x) + numN m i) := by
      rw [d_n7 m hm64 i (by omega), nI_add, pk_mul, nI_add]
    have ev := d_n7 m hm64 i (by omega)
    rw [en, ev]
    have hin : ∀ p, (p = 31 ∨ p = 32) → inb p 1 (nI (5 * (b + x) + numN m i)) = true := by
      rintro p (rfl | rfl) <;> exact inb_n (n := 480) rfl (by omega) (by decide)
    have hcl : Int32.toNatClampNeg (nI (5 * (b + x) + numN m i)) = 5 * (b + x) + numN m i := cl_n (by omega)
    refine upto0 (G := fun j => Good l ω M_X7_takeFace 96 [.ref 29, .null, .null, .int (nI n), .int (nI m), .int (nI i), .null, .int (nI (numN m i)), .int (nI (5 * (b + x) + numN m i)), .int (tkR (nI m) (nI (sm S x (numN m i))) (nI (numN m i)) (nI i) j).1, .int (tkR (nI m) (nI (sm S x (numN m i))) (nI (numN m i)) (nI i) j).2.1, .int (tkR (nI m) (nI (sm S x (numN m i))) (nI (numN m i)) (nI i) j).2.2, .int (nI j), .null, .null] [] μ (fun v μ' => v = none ∧ μ' = ss_wi (ss_wi μ 29 9 (nI (fcx S x n m i))) 29 10 (nI (fmx S x n m i)))) (n + 1) ?_ ?_ 0 (by omega)
    · refine Tr_X7_takeFace_96 ⟨fun _ => ⟨hin _ (Or.inl rfl), rfl, ?_⟩, fun g => absurd (nI_lt (by omega) (by omega)) g⟩
      rw [hcl, e31, d_tk h2 hn h3 hi ha hf8 (by rw [h4]; exact f2)]
      have e5 : fcx S x n m i = sf S x (numN m i) := by unfold fcx; simp only [ha, if_true]
      have e6 : fmx S x n m i = sprN (sm S x (numN m i)) (stpN n m i) := by unfold fmx; simp only [ha, if_true]
      rw [e5, e6]
    · intro j hj k
      rw [← nI_1] at k
      generalize hX : tkR (nI m) (nI (sm S x (numN m i))) (nI (numN m i)) (nI i) j = X at *
      have eX : tkR (nI m) (nI (sm S x (numN m i))) (nI (numN m i)) (nI i) (j + 1) = tkS (nI m) (nI (sm S x (numN m i))) (nI (numN m i)) (nI i) (nI j) X := by rw [← hX]; rfl
      rw [eX] at k
      unfold tkS tkF at k
      refine Tr_X7_takeFace_96 ⟨fun g => absurd g (nI_nlt (by omega) (by omega)), fun _ => ⟨fun g => ?_, fun g => ⟨hin _ (Or.inr rfl), ?_⟩⟩⟩
      · simp only [g, if_true] at k; rw [g]; exact k
      · rw [hcl, e32]
        refine ⟨fun g2 => ⟨fun g3 => ?_, fun g3 => ⟨fun g4 => ?_, fun g4 => ?_⟩⟩, fun g2 => ⟨fun g3 => ?_, fun g3 => ⟨fun g4 => ?_, fun g4 => ?_⟩⟩⟩
        · simp only [g, g2, g3, if_true, if_false] at k; exact k
        · simp only [g, g2, g3, g4, if_true, if_false] at k; exact k
        · simp only [g, g2, g3, g4, if_true, if_false] at k; exact k
        · simp only [g, g2, g3, if_true, if_false] at k; exact k
        · simp only [g, g2, g3, g4, if_true, if_false] at k; exact k
        · simp only [g, g2, g3, g4, if_true, if_false] at k; exact k
  have no : aloN n m i = false → Good l ω M_X7_takeFace 47 [.ref 29, .null, .int (nI x), .int (nI n), .int (nI m), .int (nI i), .null, .null, .null, .null, .null, .null, .null, .null, .null] [] μ (fun v μ' => v = none ∧ μ' = ss_wi (ss_wi μ 29 9 (nI (fcx S x n m i))) 29 10 (nI (fmx S x n m i))) := by
    intro ha
    refine Tr_X7_takeFace_47 ⟨rfl, ?_⟩
    rw [d_dr7 h2 hn h3 hi ha]
    have ef : fcx S x n m i = x := by unfold fcx; simp [ha]
    have eg : fmx S x n m i = drpN n m i := by unfold fmx; simp [ha]
    rw [ef, eg]
  have ei0 : nI i = 0 ↔ i = 0 := by rw [show (0 : Int32) = nI 0 from rfl, nI_eq (by omega) (by decide)]
  have ein : nI i = nI n ↔ i = n := nI_eq (by omega) (by omega)
  refine Ct_X7_takeFace ⟨fun g => ⟨fun g2 => ?_, fun g2 => ⟨fun g3 => ?_, fun g3 => ?_⟩⟩, fun g => ⟨fun g2 => ?_, fun g2 => ⟨fun g3 => ?_, fun g3 => ⟨fun g4 => ?_, fun g4 => ?_⟩⟩⟩⟩
  · exact yes (alo_t (Or.inl (ei0.mp g)) (Or.inl (ein.mp g2)))
  · exact no (alo_f (Or.inr (fun q => q.elim (fun r => g2 (ein.mpr r)) (fun r => g3 ((bt i (by omega)).mpr r)))))
  · exact yes (alo_t (Or.inl (ei0.mp g)) (Or.inr ((bt i (by omega)).mp (dnn g3))))
  · rw [ei0] at g
    rw [nI_sub1 (by omega), bt (i - 1) (by omega)] at g2
    exact no (alo_f (Or.inl (fun q => q.elim g g2)))
  · rw [ei0] at g
    have g4 := dnn g2
    rw [nI_sub1 (by omega), bt (i - 1) (by omega)] at g4
    exact yes (alo_t (Or.inr g4) (Or.inl (ein.mp g3)))
  · exact no (alo_f (Or.inr (fun q => q.elim (fun r => g3 (ein.mpr r)) (fun r => g4 ((bt i (by omega)).mpr r)))))
  · rw [ei0] at g
    have g5 := dnn g2
    rw [nI_sub1 (by omega), bt (i - 1) (by omega)] at g5
    exact yes (alo_t (Or.inr g5) (Or.inr ((bt i (by omega)).mp (dnn g4))))
end TF

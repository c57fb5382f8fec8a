section RO
variable {l : Launch} {ω : Wd} {μ : Mm} {R C m : Nat} {E : MX}
/-- what work on the entries leaves -/
def kE (μ μ' : Mm) : Prop := μ'.1 = μ.1 ∧ μ'.2.2 = μ.2.2 ∧ ∀ q k, q ≠ 24 → ss_l μ' q k = ss_l μ q k
theorem kE_rf {μ : Mm} : kE μ μ := ⟨rfl, rfl, fun _ _ _ => rfl⟩
theorem kE_tr {μ μ1 μ2 : Mm} (h : kE μ μ1) (g : kE μ1 μ2) : kE μ μ2 := ⟨g.1.trans h.1, g.2.1.trans h.2.1, fun q k a => (g.2.2 q k a).trans (h.2.2 q k a)⟩
theorem kE_i {μ μ' : Mm} (h : kE μ μ') (q k : Nat) : ss_i μ' q k = ss_i μ q k := by unfold ss_i; rw [h.1]
theorem kE_wl {μ : Mm} {k : Nat} {v : Int64} : kE μ (ss_wl μ 24 k v) := ⟨rfl, rfl, fun q j hq => by rw [rl_wl, if_neg (fun r => hq r.1)]⟩
theorem RX_E {E' : MX} {μ' : Mm} (h : RX R C m E μ) (hk : kE μ μ') (he : ∀ r c, r < R → c < C → ss_l μ' 24 (r * C + c) = lI (E' r c) ∧ 0 ≤ E' r c ∧ E' r c < m) : RX R C m E' μ' := ⟨by rw [kE_i hk]; exact h.1, by rw [kE_i hk]; exact h.2.1, by rw [hk.2.2 22 4 (by decide)]; exact h.2.2.1, he⟩
theorem rc_ix {r c : Nat} (hRC : R * C ≤ 576) (hr : r < R) (hc : c < C) : r * C + c < 576 := by
  have := Nat.mul_le_mul_right C (show r + 1 ≤ R by omega)
  rw [Nat.succ_mul] at this
  omega
theorem c_rowWith {k col : Nat} (h : RX R C m E μ) (hRC : R * C ≤ 576) (hR : R ≤ 48) (hm : m < 2 ^ 47) (hc : col < C) (hk : k ≤ R) : Ctr l ω M_X5_rowWithEntry [.ref 22, .int (nI k), .int (nI col)] μ (fun v μ' => μ' = μ ∧ ((v = some (.int (-1)) ∧ ∀ r, k ≤ r → r < R → E r col = 0) ∨ ∃ r, k ≤ r ∧ r < R ∧ E r col ≠ 0 ∧ v = some (.int (nI r)))) := by
  refine Ct_X5_rowWithEntry ?_
  have key : ∀ e i, i + e = R → k ≤ i → (∀ r, k ≤ r → r < i → E r col = 0) → Good l ω M_X5_rowWithEntry 2 [.ref 22, .null, .int (nI col), .int (nI i)] [] μ (fun v μ' => μ' = μ ∧ ((v = some (.int (-1)) ∧ ∀ r, k ≤ r → r < R → E r col = 0) ∨ ∃ r, k ≤ r ∧ r < R ∧ E r col ≠ 0 ∧ v = some (.int (nI r)))) := by
    intro e
    induction e with
    | zero =>
      intro i hi hki hz
      refine Tr_X5_rowWithEntry_2 ?_
      rw [h.1]
      exact ⟨fun _ => ⟨rfl, Or.inl ⟨rfl, fun r h1 h2 => hz r h1 (by omega)⟩⟩, fun g => absurd (nI_le (by omega) (by omega)) g⟩
    | succ e ih =>
      intro i hi hki hz
      have hix := rc_ix (r := i) (c := col) hRC (by omega) hc
      obtain ⟨e1, e2, e3⟩ := h.2.2.2 i col (by omega) hc
      refine Tr_X5_rowWithEntry_2 ?_
      rw [h.1, h.2.1, pk_mul, nI_add, cl_n (by omega), e1, lN_I, cmp_0 (by omega) (by omega) (by decide) (by decide), nI_add]
      refine ⟨fun g => absurd g (nI_ge (by omega) (by omega)), fun _ => ⟨inb_n (n := 576) rfl hix (by decide), fun g => ?_, fun g => ⟨rfl, Or.inr ⟨i, hki, by omega, g, rfl⟩⟩⟩⟩
      refine ih (i + 1) (by omega) (by omega) (fun r h1 h2 => ?_)
      by_cases hri : r = i
      · rw [hri]; exact g
      · exact hz r h1 (by omega)
  exact key (R - k) k (by omega) (Nat.le_refl _) (fun r h1 h2 => by omega)
end RO

section LO
variable {l : Launch} {ω : Wd} {μ : Mm} {S T : SS} {D : DD}
/-- the class's matrix -/
def RX (R C m : Nat) (E : MX) (μ : Mm) : Prop := ss_i μ 22 2 = nI R ∧ ss_i μ 22 3 = nI C ∧ ss_l μ 22 4 = lI m ∧ ∀ r c, r < R → c < C → ss_l μ 24 (r * C + c) = lI (E r c) ∧ 0 ≤ E r c ∧ E r c < m
/-- what work on the matrix leaves -/
def kX (μ μ' : Mm) : Prop := (∀ q k, (q < 21 ∨ 25 < q) → ss_i μ' q k = ss_i μ q k) ∧ μ'.2.2 = μ.2.2
theorem kX_rf {μ : Mm} : kX μ μ := ⟨fun _ _ _ => rfl, rfl⟩
theorem kX_tr {μ μ1 μ2 : Mm} (h : kX μ μ1) (g : kX μ1 μ2) : kX μ μ2 := ⟨fun q k a => (g.1 q k a).trans (h.1 q k a), g.2.trans h.2⟩
/-- what loading leaves of the homology -/
def k21 (μ μ' : Mm) : Prop := (∀ k, ss_i μ' 21 k = ss_i μ 21 k) ∧ ∀ k, ss_l μ' 21 k = ss_l μ 21 k
theorem kX_k {μ μ' : Mm} (h : kX μ μ') : kC μ μ' := ⟨fun q k _ b => h.1 q k (by omega), h.2, fun q k a => h.1 q k (by omega)⟩
theorem cnt_two (S : SS) (n : Nat) (hn : 1 ≤ n) : ∀ c, cntN S (n - 1) c + cntN S n c ≤ c
  | 0 => Nat.le_refl _
  | c + 1 => by
    have := cnt_two S n hn c
    rw [cntN, cntN]
    by_cases h : sd S c = n
    · rw [if_pos h, if_neg (by omega)]; omega
    · rw [if_neg h]; split <;> omega
def bdR (S : SS) (n m : Nat) : MX := fun r c => bdM S n r c % m
theorem c_load {t n m : Nat} (ht : cel t) (hV : VS S) (hR : RC t S μ) (h1 : 1 ≤ n) (h4 : n ≤ 4) (m0 : 0 < m) (m47 : m < 2 ^ 47) : Ctr l ω M_X5_load [.ref 22, .ref t, .int (nI n), .long (lI m)] μ (fun v μ' => v = none ∧ RX (cntN S (n - 1) (sn S)) (cntN S n (sn S)) m (bdR S n m) μ' ∧ kX μ μ' ∧ k21 μ μ') := by
  have h48 := hV.1
  have ht9 : t + 2 < 10 := by rcases ht with rfl | rfl | rfl <;> decide
  have hC48 := cnt_le S n (sn S)
  have hR48 := cnt_le S (n - 1) (sn S)
  have h2 := cnt_two S n h1 (sn S)
  have hRC := rc_48 (R := cntN S (n - 1) (sn S)) (C := cntN S n (sn S)) (by omega)
  have hmx : (if lI (m : Int) < lN 1 then lN 1 else lI (m : Int)) = lI m := by
    rw [lN_I]
    by_cases h : m = 1
    · subst h; split <;> rfl
    · rw [if_neg (fun q => by have := (lI_lt (by omega) (by omega) (by decide) (by decide)).mp q; omega)]
  refine Ct_X5_load ?_
  rw [hmx]
  refine Tr_X5_load_6 ⟨rfl, ?_⟩
  rw [nI_sub1 h1]
  have hRa : RC t S (ss_wl μ 22 4 (lI m)) := RC_same hR (fun q k _ => rfl)
  refine ex_q (c_numberCells (d := n - 1) ht hV hRa (fun c hc => by have := (hV.2 c hc).1; rw [nI_eq (by omega) (by omega)])) (fun v μ1 hq => ?_)
  obtain ⟨rfl, a1, a2, a3, a4⟩ := hq
  refine Tr_X5_load_18 ⟨rfl, ?_⟩
  have hRb : RC t S (ss_wi μ1 22 2 (nI (cntN S (n - 1) (sn S)))) := RC_same hR (fun q k hq => by rw [ri_wi, if_neg (by omega), a1 q k (by omega)]; rfl)
  refine ex_q (c_numberCells (d := n) ht hV hRb (fun c hc => by have := (hV.2 c hc).1; rw [nI_eq (by omega) (by omega)])) (fun v μ2 hq => ?_)
  obtain ⟨rfl, b1, b2, b3, b4⟩ := hq
  refine Tr_X5_load_28 ⟨rfl, ?_⟩
  refine ex_q (c_fillL (n := 576) rfl (by decide)) (fun v μ3 hq => ?_)
  obtain ⟨rfl, c1, c2, c3, c4⟩ := hq
  refine Tr_X5_load_39 ?_
  have i3 : ∀ q k, ss_i μ3 q k = ss_i (ss_wi μ2 22 3 (nI (cntN S n (sn S)))) q k := fun q k => by unfold ss_i; rw [c1]
  have out : ∀ q k, (q < 21 ∨ 25 < q) → ss_i μ3 q k = ss_i μ q k := by
    intro q k hq
    rw [i3, ri_wi, if_neg (by omega), b1 q k (by omega), ri_wi, if_neg (by omega), a1 q k (by omega)]; rfl
  have o21 : ∀ k, ss_i μ3 21 k = ss_i μ 21 k := by
    intro k
    rw [i3, ri_wi, if_neg (by omega), b1 21 k (by omega), ri_wi, if_neg (by omega), a1 21 k (by omega)]; rfl
  have l21 : ∀ k, ss_l μ3 21 k = ss_l μ 21 k := by
    intro k
    rw [c3 21 k (by decide)]
    show μ2.2.1 21 k = _
    rw [b2]
    show μ1.2.1 21 k = _
    rw [a2]
    show ss_l (ss_wl μ 22 4 (lI m)) 21 k = _
    rw [rl_wl, if_neg (by omega)]
  have r3 : μ3.2.2 = μ.2.2 := by rw [c2]; show μ2.2.2 = _; rw [b2]; show μ1.2.2 = _; rw [a2]; rfl
  have e2 : ss_i μ3 22 2 = nI (cntN S (n - 1) (sn S)) := by rw [i3, ri_wi, if_neg (by omega), b1 22 2 (by decide), ri_wi, if_pos ⟨rfl, rfl⟩]
  have e3 : ss_i μ3 22 3 = nI (cntN S n (sn S)) := by rw [i3, ri_wi, if_pos ⟨rfl, rfl⟩]
  have e4 : ss_l μ3 22 4 = lI m := by
    rw [c3 22 4 (by decide)]
    show μ2.2.1 22 4 = _
    rw [b2]
    show μ1.2.1 22 4 = _
    rw [a2]
    show ss_l (ss_wl μ 22 4 (lI m)) 22 4 = _
    rw [rl_wl, if_pos ⟨rfl, rfl⟩]
  have p1 : ∀ f, f < sn S → sd S f = n - 1 → ss_i μ3 25 f = nI (cntN S (n - 1) f) := by
    intro f hf hs
    rw [i3, ri_wi, if_neg (by omega), b4 f (by omega), ri_wi, if_neg (by omega), a3 f hf hs]
  have p2 : ∀ f, f < sn S → sd S f = n → ss_i μ3 25 f = nI (cntN S n f) := by
    intro f hf hs
    rw [i3, ri_wi, if_neg (by omega), b3 f hf hs]
  rw [e2, e3, pk_mul]
  refine ⟨fun _ => ?_, fun g => absurd (nI_le hRC (by decide)) g⟩
  refine upto1 (G := fun c μ4 => Good l ω M_X5_load 68 [.ref 22, .ref t, .int (nI n), .null, .null, .int (nI c)] [] μ4 _) (I := fun c μ4 => μ4.1 = μ3.1 ∧ μ4.2.2 = μ3.2.2 ∧ (∀ q k, q ≠ 24 → ss_l μ4 q k = ss_l μ3 q k) ∧ (∀ r j, r < cntN S (n - 1) (sn S) → j < cntN S n (sn S) → ss_l μ4 24 (r * cntN S n (sn S) + j) = lI (if j < cntN S n c then bdR S n m r j else 0))) (sn S) ?_ ?_ 0 (by omega) μ3 ⟨rfl, rfl, fun _ _ _ => rfl, fun r j hr hj => ?_⟩
  · intro μ4 ⟨k1, k2, k3, k4⟩
    have ri : ∀ q j, ss_i μ4 q j = ss_i μ3 q j := fun q j => by unfold ss_i; rw [k1]
    refine Tr_X5_load_68 ?_
    rw [ri, out t 2 (by omega), hR.1]
    refine ⟨cel_o ht, fun _ => ⟨rfl, ⟨by rw [ri]; exact e2, by rw [ri]; exact e3, by rw [k3 22 4 (by decide)]; exact e4, fun r c hr hc => ⟨by rw [k4 r c hr hc, if_pos hc], Int.emod_nonneg _ (by omega), Int.emod_lt_of_pos _ (by omega)⟩⟩, ⟨fun q k hq => by rw [ri]; exact out q k hq, by rw [k2]; exact r3⟩, fun k => by rw [ri]; exact o21 k, fun k => by rw [k3 21 k (by decide)]; exact l21 k⟩, fun g => absurd (nI_le (Nat.le_refl _) (by omega)) g⟩
  · intro c μ4 hc ⟨k1, k2, k3, k4⟩ ih
    have ri : ∀ q j, ss_i μ4 q j = ss_i μ3 q j := fun q j => by unfold ss_i; rw [k1]
    have hsd := (hV.2 c hc).1
    refine Tr_X5_load_68 ?_
    rw [ri, out t 2 (by omega), hR.1, cel_r0 ht, cl_n (by omega), ri (t + 1), out (t + 1) c (by omega), (hR.2 c hc).1, nI_eq (by omega) (by omega)]
    refine ⟨cel_o ht, fun g => absurd g (nI_ge hc (by omega)), fun _ => ⟨cel_o ht, inb_n (cel_1 ht) (by omega) (by decide), fun g => Tr_X5_load_95 ?_, fun g => ?_⟩⟩
    · rw [nI_add]
      have e : cntN S n (c + 1) = cntN S n c := by rw [cntN, if_neg g]; rfl
      refine ih μ4 ⟨k1, k2, k3, fun r j hr hj => by rw [e]; exact k4 r j hr hj⟩
    · have hs : sd S c = n := Decidable.not_not.mp g
      have e : cntN S n (c + 1) = cntN S n c + 1 := by rw [cntN, if_pos hs]
      have hjC : cntN S n c < cntN S n (sn S) := cnt_lt hc hs
      refine ex_q (c_loadColumn (m := m) ht hV (RC_same hR (fun q k hq => by rw [ri]; exact out q k (by omega))) hc h1 hs (by rw [ri]; exact e3) (by rw [k3 22 4 (by decide)]; exact e4) m0 m47 hRC (fun f hf hs => by rw [ri]; exact p1 f hf hs) (by rw [ri]; exact p2 c hc hs) (fun r hr => by rw [k4 r _ hr hjC, if_neg (by omega)])) (fun v μ5 hq => ?_)
      obtain ⟨rfl, d1, d2, d3, d4, d5⟩ := hq
      refine Tr_X5_load_95 ?_
      rw [nI_add]
      refine ih μ5 ⟨by rw [d1]; exact k1, by rw [d2]; exact k2, fun q k hq => by rw [d3 q k hq]; exact k3 q k hq, fun r j hr hj => ?_⟩
      rw [e]
      by_cases hjc : j = cntN S n c
      · subst hjc
        rw [d5 r hr, if_pos (by omega)]
        unfold bdR bdM colS
        rw [show cid S n (cntN S n c) = c from cid_is _ hc hs]
      · rw [d4 r j hj hjc, k4 r j hr hj]
        by_cases hlt : j < cntN S n c
        · rw [if_pos hlt, if_pos (by omega)]
        · rw [if_neg hlt, if_neg (by omega)]
  · have hix : r * cntN S n (sn S) + j < 576 := by
      have := Nat.mul_le_mul_right (cntN S n (sn S)) (show r + 1 ≤ cntN S (n - 1) (sn S) by omega)
      rw [Nat.succ_mul] at this
      omega
    rw [c4 _ hix, if_neg (by show ¬ j < 0; omega)]
    exact lN_I 0
end LO

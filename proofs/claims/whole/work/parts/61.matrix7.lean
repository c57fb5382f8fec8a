/-! the reference's matrix -/
/-- what homology in the reference leaves -/
def kH (μ μ' : Mm) : Prop := (∀ q k, (q < 29 ∨ (30 ≤ q ∧ q ≤ 35) ∨ (q = 29 ∧ k ≠ 12 ∧ k ≠ 13)) → ss_i μ' q k = ss_i μ q k) ∧ μ'.2.2 = μ.2.2
theorem kH_rf {μ : Mm} : kH μ μ := ⟨fun _ _ _ => rfl, rfl⟩
theorem kH_tr {μ μ1 μ2 : Mm} (h : kH μ μ1) (g : kH μ1 μ2) : kH μ μ2 := ⟨fun q k a => (g.1 q k a).trans (h.1 q k a), g.2.trans h.2⟩
theorem kH_M {μ μ' : Mm} (h : kH μ μ') : kM μ μ' := ⟨fun q k a => h.1 q k (Or.inl a), h.2, fun k a => h.1 29 k (by omega), fun q k a b => h.1 q k (by omega)⟩
theorem kH_wi {μ : Mm} {p k : Nat} {v : Int32} (hp : (p = 29 ∧ (k = 12 ∨ k = 13)) ∨ 35 < p) : kH μ (ss_wi μ p k v) := ⟨fun q j hq => by rw [ri_wi, if_neg (by omega)], rfl⟩
theorem kH_wl {μ : Mm} {p k : Nat} {v : Int64} : kH μ (ss_wl μ p k v) := ⟨fun _ _ _ => rfl, rfl⟩
theorem RM_H {S : SS} {μ μ' : Mm} (hR : RM 0 0 S μ) (h : kH μ μ') : RM 0 0 S μ' := RM_same hR (h.1 29 0 (by omega)) (fun q k a b => h.1 q k (by omega))
theorem sg_i : ∀ k, k < 5 → iSign (nI k) = Int32.ofInt (sg k) := by decide +kernel
theorem inc_s (S : SS) (c o : Nat) : ∀ k, k ≤ 5 → incR S c o k = Int32.ofInt (sumN (fun j => if sf S c j = o then sg j else 0) k) ∧ -(k : Int) ≤ sumN (fun j => if sf S c j = o then sg j else 0) k ∧ sumN (fun j => if sf S c j = o then sg j else 0) k ≤ k
  | 0, _ => ⟨rfl, by simp [sumN], by simp [sumN]⟩
  | k + 1, h => by
    obtain ⟨h1, h2, h3⟩ := inc_s S c o k (by omega)
    rw [incR, sumN]
    by_cases hq : sf S c k = o
    · have := sg_pm k
      rw [if_pos hq, if_pos hq, h1, sg_i k (by omega), Int32.ofInt_add]
      refine ⟨rfl, ?_, ?_⟩ <;> omega
    · rw [if_neg hq, if_neg hq, Int.add_zero]
      exact ⟨h1, by omega, by omega⟩
theorem i2l_d : ∀ z : Fin 11, Int32.toInt64 (Int32.ofInt ((z.val : Int) - 5)) = lI ((z.val : Int) - 5) := by decide +kernel
theorem i2l {z : Int} (h1 : -5 ≤ z) (h2 : z ≤ 5) : Int32.toInt64 (Int32.ofInt z) = lI z := by
  have := i2l_d ⟨(z + 5).toNat, by omega⟩
  rw [show (((z + 5).toNat : Nat) : Int) - 5 = z by omega] at this
  exact this
theorem bd_ab (S : SS) {n : Nat} (h4 : n ≤ 4) (r c : Nat) : -5 ≤ bdM S n r c ∧ bdM S n r c ≤ 5 := by
  have := (inc_s S (cid S n c) (cid S (n - 1) r) (n + 1) (by omega)).2
  have e : bdM S n r c = sumN (fun j => if sf S (cid S n c) j = cid S (n - 1) r then sg j else 0) (n + 1) := rfl
  rw [e]; omega
theorem ent_l {S : SS} {n x y : Nat} (h1 : 1 ≤ n) (h4 : n ≤ 4) (hx : x < sn S) (hy : y < sn S) (dx : sd S x = n) (dy : sd S y = n - 1) : Int32.toInt64 (entV S x y) = lI (bdM S n (cntN S (n - 1) y) (cntN S n x)) := by
  have e : bdM S n (cntN S (n - 1) y) (cntN S n x) = sumN (fun j => if sf S x j = y then sg j else 0) (n + 1) := by
    unfold bdM
    rw [show cid S n (cntN S n x) = x from cid_is _ hx dx, show cid S (n - 1) (cntN S (n - 1) y) = y from cid_is _ hy dy]
  obtain ⟨a1, a2, a3⟩ := inc_s S x y (n + 1) (by omega)
  unfold entV
  rw [if_pos (by omega), dx, a1, e, i2l (by omega) (by omega)]
abbrev rr (S : SS) (n : Nat) : Nat := if nC S n = 0 then 0 else nR S n
/-- the reference's matrix is laid -/
def MT (S : SS) (n : Nat) (μ : Mm) : Prop := ∀ r c, r < nR S n → c < nC S n → Int32.toInt64 (ss_i μ 36 (r * 48 + c)) = lI (bdM S n r c)
section LM7
variable {l : Launch} {ω : Wd} {μ : Mm} {S T : SS} {D : DD}
theorem c_layMatrix {n : Nat} (hV : VS S) (hR : RM 0 0 S μ) (h1 : 1 ≤ n) (h4 : n ≤ 4) : Ctr l ω M_X7_layMatrix [.ref 29, .int (nI n)] μ (fun v μ' => v = none ∧ kH μ μ' ∧ MT S n μ' ∧ ss_i μ' 29 12 = nI (rr S n) ∧ ss_i μ' 29 13 = nI (nC S n)) := by
  have h48 := hV.1
  have hRC : nR S n + nC S n ≤ sn S := cnt_two S n h1 (sn S)
  refine Ct_X7_layMatrix ?_
  refine upto1 (G := fun x μ1 => Good l ω M_X7_layMatrix 12 [.ref 29, .int (nI n), .int (nI x), .null] [] μ1 _) (I := fun x μ1 => kH μ μ1 ∧ (∀ r c, r < nR S n → c < cntN S n x → Int32.toInt64 (ss_i μ1 36 (r * 48 + c)) = lI (bdM S n r c)) ∧ ss_i μ1 29 12 = nI (if cntN S n x = 0 then 0 else nR S n) ∧ ss_i μ1 29 13 = nI (cntN S n x)) (sn S) ?_ ?_ 0 (by omega) _ ⟨kH_tr (kH_wi (by omega)) (kH_wi (by omega)), fun r c _ hc => absurd hc (by show ¬ c < 0; omega), ?_, ?_⟩
  · intro μ1 ⟨k1, k2, k3, k4⟩
    refine Tr_X7_layMatrix_12 ?_
    rw [(RM_H hR k1).1]
    exact ⟨fun _ => ⟨rfl, k1, k2, k3, k4⟩, fun g => absurd (nI_le (Nat.le_refl _) (by omega)) g⟩
  · intro x μ1 hx ⟨k1, k2, k3, k4⟩ ih
    have R1 := RM_H hR k1
    have e0 := (R1.2 x hx).1
    rw [Nat.zero_add] at e0
    have hxd := (hV.2 x hx).1
    refine Tr_X7_layMatrix_12 ?_
    rw [R1.1, cl_n (by omega), e0, nI_eq (by omega) (by omega), nI_add]
    refine ⟨fun g => absurd g (nI_ge hx (by omega)), fun _ => ⟨inb_n (n := 96) rfl (by omega) (by decide), fun g => ?_, fun g => ?_⟩⟩
    · have e : cntN S n (x + 1) = cntN S n x := by rw [cntN, if_neg g]; rfl
      exact ih μ1 ⟨k1, by rw [e]; exact k2, by rw [e]; exact k3, by rw [e]; exact k4⟩
    · have hs : sd S x = n := Decidable.not_not.mp g
      have e : cntN S n (x + 1) = cntN S n x + 1 := by rw [cntN, if_pos hs]
      have hcl : cntN S n x < nC S n := cnt_lt hx hs
      refine upto1 (G := fun y μ2 => Good l ω M_X7_layMatrix 37 [.ref 29, .int (nI n), .int (nI x), .int (nI y)] [] μ2 _) (I := fun y μ2 => kH μ μ2 ∧ (∀ r c, r < nR S n → c < cntN S n x → Int32.toInt64 (ss_i μ2 36 (r * 48 + c)) = lI (bdM S n r c)) ∧ (∀ r, r < cntN S (n - 1) y → Int32.toInt64 (ss_i μ2 36 (r * 48 + cntN S n x)) = lI (bdM S n r (cntN S n x))) ∧ ss_i μ2 29 12 = nI (cntN S (n - 1) y) ∧ ss_i μ2 29 13 = nI (cntN S n x)) (sn S) ?_ ?_ 0 (by omega) _ ⟨kH_tr k1 (kH_wi (by omega)), fun r c hr hc => by rw [ri_wi, if_neg (by omega)]; exact k2 r c hr hc, fun r hr => absurd hr (by show ¬ r < 0; omega), by rw [ri_wi, if_pos ⟨rfl, rfl⟩]; rfl, by rw [ri_wi, if_neg (by omega)]; exact k4⟩
      · intro μ2 ⟨j1, j2, j3, j4, j5⟩
        have R2 := RM_H hR j1
        refine Tr_X7_layMatrix_37 ?_
        rw [R2.1, j5, nI_add, nI_add]
        refine ⟨fun _ => ih _ ⟨kH_tr j1 (kH_wi (by omega)), fun r c hr hc => ?_, ?_, ?_⟩, fun g => absurd (nI_le (Nat.le_refl _) (by omega)) g⟩
        · rw [ri_wi, if_neg (by omega)]
          rw [e] at hc
          by_cases hcc : c = cntN S n x
          · rw [hcc]; exact j3 r hr
          · exact j2 r c hr (by omega)
        · rw [ri_wi, if_neg (by omega), j4, e, if_neg (by omega)]
        · rw [ri_wi, if_pos ⟨rfl, rfl⟩, e]
      · intro y μ2 hy ⟨j1, j2, j3, j4, j5⟩ ih2
        have R2 := RM_H hR j1
        have e1 := (R2.2 y hy).1
        rw [Nat.zero_add] at e1
        have hyd := (hV.2 y hy).1
        refine Tr_X7_layMatrix_37 ?_
        rw [R2.1, cl_n (by omega), e1, nI_sub1 h1, nI_eq (by omega) (by omega), nI_add, nI_add]
        refine ⟨fun g => absurd g (nI_ge hy (by omega)), fun _ => ⟨inb_n (n := 96) rfl (by omega) (by decide), fun g => ?_, fun g => ?_⟩⟩
        · have e' : cntN S (n - 1) (y + 1) = cntN S (n - 1) y := by rw [cntN, if_neg g]; rfl
          exact ih2 μ2 ⟨j1, j2, by rw [e']; exact j3, by rw [e']; exact j4, j5⟩
        · have hs' : sd S y = n - 1 := Decidable.not_not.mp g
          have e' : cntN S (n - 1) (y + 1) = cntN S (n - 1) y + 1 := by rw [cntN, if_pos hs']
          have hrl : cntN S (n - 1) y < nR S n := cnt_lt hy hs'
          refine ex_p (c_entryOf hV R2 hx hy) (Tr_X7_layMatrix_79 ?_)
          rw [j4, j5, pk_mul, nI_add, cl_n (by omega), ri_wi, if_neg (by omega), j4, nI_add, nI_add, Nat.mul_comm 48]
          refine ⟨inb_n (n := 2304) rfl (by omega) (by decide), ih2 _ ⟨kH_tr j1 (kH_tr (kH_wi (by omega)) (kH_wi (by omega))), fun r c hr hc => ?_, fun r hr => ?_, ?_, ?_⟩⟩
          · rw [ri_wi, if_neg (by omega), ri_wi, if_neg (by omega)]; exact j2 r c hr hc
          · rw [ri_wi, if_neg (by omega), ri_wi]
            rw [e'] at hr
            by_cases hrr : r = cntN S (n - 1) y
            · rw [if_pos ⟨rfl, by rw [hrr]⟩, hrr]
              exact ent_l h1 h4 hx hy hs hs'
            · rw [if_neg (by omega)]; exact j3 r (by omega)
          · rw [ri_wi, if_pos ⟨rfl, rfl⟩, e']
          · rw [ri_wi, if_neg (by omega), ri_wi, if_neg (by omega)]; exact j5
  · rw [ri_wi, if_neg (by omega), ri_wi, if_pos ⟨rfl, rfl⟩]; rfl
  · rw [ri_wi, if_pos ⟨rfl, rfl⟩]; rfl
end LM7
/-! clearing a column -/
/-- only longs of a place change -/
def kL (p : Nat) (μ μ' : Mm) : Prop := μ'.1 = μ.1 ∧ μ'.2.2 = μ.2.2 ∧ ∀ q k, q ≠ p → ss_l μ' q k = ss_l μ q k
theorem kL_rf {p : Nat} {μ : Mm} : kL p μ μ := ⟨rfl, rfl, fun _ _ _ => rfl⟩
theorem kL_tr {p : Nat} {μ μ1 μ2 : Mm} (h : kL p μ μ1) (g : kL p μ1 μ2) : kL p μ μ2 := ⟨g.1.trans h.1, g.2.1.trans h.2.1, fun q k a => (g.2.2 q k a).trans (h.2.2 q k a)⟩
theorem kL_i {p : Nat} {μ μ' : Mm} (h : kL p μ μ') (q k : Nat) : ss_i μ' q k = ss_i μ q k := by unfold ss_i; rw [h.1]
theorem kL_wl {p : Nat} {μ : Mm} {k : Nat} {v : Int64} : kL p μ (ss_wl μ p k v) := ⟨rfl, rfl, fun q j hq => by rw [rl_wl, if_neg (fun r => hq r.1)]⟩
theorem kL_H {p : Nat} {μ μ' : Mm} (h : kL p μ μ') : kH μ μ' := ⟨fun q k _ => kL_i h q k, h.2.1⟩
section CC
variable {l : Launch} {ω : Wd} {μ : Mm} {R C p : Nat} {F : MX} {u : Nat → Bool}
theorem add_mm {x f y p : Int} : (x + (p - f) * y) % p = (x - f * y) % p := by
  have : x + (p - f) * y = (x - f * y) + p * y := by grind
  rw [this, Int.add_mul_emod_self_left]
theorem c_clearColumn {pv col : Nat} (hp : prm p) (p31 : p < 2 ^ 31) (hr : ss_i μ 29 12 = nI R) (hcl : ss_i μ 29 13 = nI C) (hR : R ≤ 48) (hC : C ≤ 48) (g : GR 37 48 R C F μ) (hb : ∀ r c, r < R → c < C → 0 ≤ F r c ∧ F r c < p) (hu : ∀ r, r < R → (ss_i μ 38 r = 0 ↔ u r = false)) (hpv : pv < R) (hup : u pv = true) (hc : col < C) (hF : F pv col ≠ 0) : Ctr l ω M_X7_clearColumn [.ref 29, .int (nI pv), .int (nI col), .long (lI p)] μ (fun v μ' => v = none ∧ kL 37 μ μ' ∧ ∃ f : Nat → Int, (∀ r, r < R → u r = false → (p : Int) ∣ F r col - f r * F pv col) ∧ GR 37 48 R C (fun r c => if u r = false ∧ col ≤ c then (F r c - f r * F pv c) % p else F r c) μ') := by
  have hp2 := hp.1
  obtain ⟨b1, b2⟩ := hb pv col hpv hc
  obtain ⟨x, hx⟩ := Int.eq_ofNat_of_zero_le b1
  have x0 : 0 < x := by omega
  have xm : x < p := by omega
  refine Ct_X7_clearColumn ?_
  have key := fun y => inv_dvd y hp x0 xm
  have hi := Nat.mod_lt (x ^ (p - 2)) (show p > 0 by omega)
  have civ : CtrL l ω M_X7_inverse [.long (lI x), .long (lI p)] μ (lI ((x ^ (p - 2) % p : Nat) : Int)) := c_inverse hp2 p31 xm
  generalize x ^ (p - 2) % p = inv at hi key civ
  rw [pk_mul, nI_add, Nat.mul_comm 48, cl_n (by omega), g pv col hpv hc, hx]
  refine ⟨inb_n (n := 2304) rfl (by omega) (by decide), ex_l civ (Tr_X7_clearColumn_15 ?_)⟩
  let f : Nat → Int := fun r => (((F r col).toNat * inv % p : Nat) : Int)
  have fb : ∀ r, 0 ≤ f r ∧ f r < p := fun r => ⟨Int.natCast_nonneg _, by have := Nat.mod_lt ((F r col).toNat * inv) (show p > 0 by omega); show (((F r col).toNat * inv % p : Nat) : Int) < p; omega⟩
  have pz : decide (¬ lI (p : Int) = 0) = true := lI_n0 (by omega) (by omega)
  refine upto1 (G := fun r μ1 => Good l ω M_X7_clearColumn 20 [.ref 29, .int (nI pv), .int (nI col), .long (lI p), .null, .long (lI inv), .null, .int (nI r), .null, .null, .null] [] μ1 _) (I := fun r μ1 => kL 37 μ μ1 ∧ GR 37 48 R C (fun r' c => if u r' = false ∧ col ≤ c ∧ r' < r then (F r' c - f r' * F pv c) % p else F r' c) μ1) R ?_ ?_ 0 (by omega) μ ⟨kL_rf, GR_c g (fun r c _ _ => by rw [if_neg (by omega)])⟩
  · intro μ1 ⟨k1, k2⟩
    refine Tr_X7_clearColumn_20 ?_
    rw [kL_i k1, hr]
    refine ⟨fun _ => ⟨rfl, k1, f, fun r hr hur => ?_, GR_c k2 (fun r c hr hc => ?_)⟩, fun q => absurd (nI_le (Nat.le_refl _) (by omega)) q⟩
    · have h3 := (hb r col hr hc).1
      have := key (F r col).toNat
      rw [Int.toNat_of_nonneg h3] at this
      exact this
    · by_cases hq : u r = false ∧ col ≤ c
      · rw [if_pos ⟨hq.1, hq.2, hr⟩, if_pos hq]
      · rw [if_neg (fun q => hq ⟨q.1, q.2.1⟩), if_neg hq]
  · intro r μ1 hr1 ⟨k1, k2⟩ ih
    refine Tr_X7_clearColumn_20 ?_
    rw [kL_i k1, kL_i k1, hr, cl_n (n := r) (by omega), hu r hr1]
    refine ⟨fun q => absurd q (nI_ge hr1 (by omega)), fun _ => ⟨inb_n (n := 48) rfl (by omega) (by decide), fun q => ?_, fun q => ?_⟩⟩
    · obtain ⟨c1, c2⟩ := hb r col hr1 hc
      obtain ⟨y, hy⟩ := Int.eq_ofNat_of_zero_le c1
      have ym : y < p := by omega
      have g1 := k2 r col hr1 hc
      dsimp only at g1
      rw [if_neg (by omega), hy] at g1
      have fy : f r = ((y * inv % p : Nat) : Int) := by show (((F r col).toNat * inv % p : Nat) : Int) = _; rw [hy]; rfl
      have hlt : y * inv < 2 ^ 62 := Nat.lt_of_lt_of_le (Nat.mul_lt_mul'' (show y < 2 ^ 31 by omega) (show inv < 2 ^ 31 by omega)) (by decide)
      have em : lI (y : Int) * lI (inv : Int) - lI (y : Int) * lI (inv : Int) / lI (p : Int) * lI (p : Int) = lI (f r) := by
        rw [lI_mul, lI_mod (by rw [← Int.natCast_mul]; omega) (by rw [← Int.natCast_mul]; omega) (by omega) (by omega), fy, Int.natCast_emod, Int.natCast_mul]
      rw [pk_mul, nI_add, Nat.mul_comm 48, cl_n (by omega), g1, em]
      refine ⟨inb_n (n := 2304) rfl (by omega) (by decide), pz, ?_⟩
      obtain ⟨f0, f1⟩ := fb r
      have c0 : lg_cmp (lI (f r)) (lN 0) = 0 ↔ f r = 0 := by rw [lN_I]; exact cmp_0 (by omega) (by omega) (by decide) (by decide)
      by_cases hf0 : f r = 0
      · have nx := ih μ1 ⟨k1, GR_c k2 (fun r' c hr' hc' => by
          by_cases hq : u r' = false ∧ col ≤ c ∧ r' < r
          · rw [if_pos hq, if_pos ⟨hq.1, hq.2.1, by omega⟩]
          · rw [if_neg hq]
            by_cases hq2 : u r' = false ∧ col ≤ c ∧ r' < r + 1
            · have er : r' = r := by
                rcases Nat.lt_or_ge r' r with w | w
                · exact absurd ⟨hq2.1, hq2.2.1, w⟩ hq
                · omega
              have := hb r c hr1 hc'
              rw [if_pos hq2, er, hf0, Int.zero_mul, Int.sub_zero, Int.emod_eq_of_lt this.1 this.2]
            · rw [if_neg hq2])⟩
        rw [← nI_add] at nx
        refine Tr_X7_clearColumn_65 ⟨fun _ => nx, fun _ => ⟨fun _ => nx, fun q => absurd (c0.mpr hf0) q⟩⟩
      · refine upto1 (G := fun i μ2 => col ≤ i → Good l ω M_X7_clearColumn 65 [.ref 29, .int (nI pv), .int (nI col), .long (lI p), .null, .long (lI inv), .null, .int (nI r), .long (lI (f r)), .null, .int (nI i)] [] μ2 _) (I := fun i μ2 => kL 37 μ μ2 ∧ GR 37 48 R C (fun r' c => if u r' = false ∧ col ≤ c ∧ (r' < r ∨ (r' = r ∧ c < i)) then (F r' c - f r' * F pv c) % p else F r' c) μ2) C ?_ ?_ col (by omega) μ1 ⟨k1, GR_c k2 (fun r' c _ _ => by
          by_cases hq : u r' = false ∧ col ≤ c ∧ r' < r
          · rw [if_pos hq, if_pos ⟨hq.1, hq.2.1, Or.inl hq.2.2⟩]
          · rw [if_neg hq, if_neg (fun w => hq ⟨w.1, w.2.1, by omega⟩)])⟩ (Nat.le_refl _)
        · intro μ2 ⟨j1, j2⟩ _
          refine Tr_X7_clearColumn_65 ?_
          rw [kL_i j1, hcl, nI_add]
          refine ⟨fun _ => ih μ2 ⟨j1, GR_c j2 (fun r' c hr' hc' => ?_)⟩, fun q => absurd (nI_le (Nat.le_refl _) (by omega)) q⟩
          by_cases hq : u r' = false ∧ col ≤ c ∧ r' < r + 1
          · rw [if_pos ⟨hq.1, hq.2.1, by omega⟩, if_pos hq]
          · rw [if_neg (fun w => hq ⟨w.1, w.2.1, by omega⟩), if_neg hq]
        · intro i μ2 hiC ⟨j1, j2⟩ ih2 hci
          have ga := j2 r i hr1 hiC
          dsimp only at ga
          rw [if_neg (by omega)] at ga
          have gp := j2 pv i hpv hiC
          dsimp only at gp
          rw [if_neg (fun w => by rw [hup] at w; exact absurd w.1 (by decide))] at gp
          have ba := hb r i hr1 hiC
          have bp := hb pv i hpv hiC
          obtain ⟨z, hz⟩ := Int.eq_ofNat_of_zero_le bp.1
          obtain ⟨w, hw⟩ := Int.eq_ofNat_of_zero_le (show 0 ≤ (p : Int) - f r by omega)
          have hwz : w * z < 2 ^ 62 := Nat.lt_of_lt_of_le (Nat.mul_lt_mul'' (show w < 2 ^ 31 by omega) (show z < 2 ^ 31 by omega)) (by decide)
          have ev : lI (F r i) + (lI (p : Int) - lI (f r)) * lI (F pv i) - (lI (F r i) + (lI (p : Int) - lI (f r)) * lI (F pv i)) / lI (p : Int) * lI (p : Int) = lI ((F r i - f r * F pv i) % p) := by
            rw [lI_sub, lI_mul, lI_add, lI_mod (by rw [hw, hz, ← Int.natCast_mul]; omega) (by rw [hw, hz, ← Int.natCast_mul]; omega) (by omega) (by omega), add_mm]
          refine Tr_X7_clearColumn_65 ?_
          rw [kL_i j1, hcl, pk_mul, pk_mul, nI_add, nI_add, nI_add, nI_add, Nat.mul_comm 48, Nat.mul_comm 48, cl_n (n := r * 48 + i) (by omega), cl_n (n := pv * 48 + i) (by omega), ga, gp, ev]
          refine ⟨fun q => absurd q (nI_ge hiC (by omega)), fun _ => ⟨fun q => absurd (c0.mp q) hf0, fun _ => ⟨inb_n (n := 2304) rfl (by omega) (by decide), inb_n (n := 2304) rfl (by omega) (by decide), pz, inb_n (n := 2304) rfl (by omega) (by decide), ?_⟩⟩⟩
          refine ih2 _ ⟨kL_tr j1 kL_wl, GR_c (GR_wl j2 hC hiC) (fun r' c hr' hc' => ?_)⟩ (by omega)
          by_cases hq : r' = r ∧ c = i
          · rw [if_pos hq, if_pos ⟨by rw [hq.1]; exact q, by omega, by omega⟩, hq.1, hq.2]
          · rw [if_neg hq]
            by_cases hq2 : u r' = false ∧ col ≤ c ∧ (r' < r ∨ (r' = r ∧ c < i))
            · rw [if_pos hq2, if_pos ⟨hq2.1, hq2.2.1, by omega⟩]
            · rw [if_neg hq2, if_neg (fun w => hq2 ⟨w.1, w.2.1, by omega⟩)]
    · have nx := ih μ1 ⟨k1, GR_c k2 (fun r' c hr' hc' => by
        by_cases hq : u r' = false ∧ col ≤ c ∧ r' < r
        · rw [if_pos hq, if_pos ⟨hq.1, hq.2.1, by omega⟩]
        · rw [if_neg hq, if_neg (fun w => hq ⟨w.1, w.2.1, by
            have : r' ≠ r := fun e => q (by rw [← e]; exact w.1)
            omega⟩)])⟩
      rw [← nI_add] at nx
      have c0 : lg_cmp (lN 0) (lN 0) = 0 := by decide
      exact Tr_X7_clearColumn_65 ⟨fun _ => nx, fun _ => ⟨fun _ => nx, fun q => absurd c0 q⟩⟩
end CC

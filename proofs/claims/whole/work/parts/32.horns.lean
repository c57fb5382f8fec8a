/-! horns (class) -/
def tb (x : Int64) (b : Nat) : Bool := x.toBitVec.getLsbD b
theorem sh_b : ∀ b, b < 48 → ((Int32.toInt64 (nI b) &&& 63).toBitVec.smod 64).toNat = b := by decide +kernel
theorem one_b : ∀ b, b < 48 → ∀ c, c < 48 → tb (lN 1 <<< (Int32.toInt64 (nI b) &&& 63)) c = decide (c = b) := by decide +kernel
theorem tb_or (x : Int64) {b c : Nat} (hb : b < 48) (hc : c < 48) : tb (x ||| (lN 1 <<< (Int32.toInt64 (nI b) &&& 63))) c = (tb x c || decide (c = b)) := by
  rw [← one_b b hb c hc]
  unfold tb
  rw [Int64.toBitVec_or, BitVec.getLsbD_or]
theorem and1 (y : Int64) : y &&& lN 1 = lN 0 ↔ tb y 0 = false := by
  have h : (y &&& lN 1).toBitVec = BitVec.setWidth 64 (BitVec.ofBool (y.toBitVec.getLsbD 0)) := by
    rw [Int64.toBitVec_and]
    exact BitVec.and_one_eq_setWidth_ofBool_getLsbD
  rw [← Int64.toBitVec_inj, h]
  unfold tb
  cases y.toBitVec.getLsbD 0 <;> decide
theorem tb_test (x : Int64) {b : Nat} (hb : b < 48) : lg_cmp ((x >>> (Int32.toInt64 (nI b) &&& 63)) &&& lN 1) (lN 0) = 0 ↔ tb x b = false := by
  rw [lg_cmp_eq, and1]
  unfold tb
  rw [Int64.toBitVec_shiftRight, BitVec.sshiftRight_eq', sh_b b hb, BitVec.getLsbD_sshiftRight]
  simp only [Nat.add_zero]
  rw [if_pos (by omega)]
  simp
theorem tb_0 (b : Nat) : tb (lN 0) b = false := by
  unfold tb
  rw [show (lN 0).toBitVec = 0#64 from rfl, BitVec.getLsbD_zero]
def loN (k : Nat) : Nat := if k = 0 then 1 else 0
def upN (k : Nat) : Nat := if k = 2 then 1 else 2
theorem lo_n : ∀ k, k < 3 → iLo (nI k) = nI (loN k) := by decide +kernel
theorem up_n : ∀ k, k < 3 → iUp (nI k) = nI (upN k) := by decide +kernel
theorem lu_b : ∀ k, k < 3 → loN k ≤ 1 ∧ 1 ≤ upN k ∧ upN k ≤ 2 := by decide +kernel
theorem isM_n {k m e : Nat} (hk : k < 7) (he : e < 7) (hm : m < 2 ^ k) : iIsM (nI k) (nI m) (nI e) = if popN m = e then nI 1 else nI 0 := by
  have h64 := p2_lt hk hm
  unfold iIsM
  rw [if_neg (nI_pos (by omega)), d_low k hk, if_neg (nI_nlt (by omega) (by have := two_le (a := k) (b := 6) (by omega); omega)), d_bc m h64]
  have hp := pop_lt64 m h64
  by_cases h : popN m = e
  · rw [if_pos h, h, if_pos rfl]
  · rw [if_neg h, if_neg (by rw [nI_eq (by omega) (by omega)]; exact h)]
/-- the vertex of an edge, degenerate or not -/
def vt (S : SS) (a i : Nat) : Nat := if sd S a = 0 then a else sf S a i
theorem d_e0 : ∀ i, i < 2 → aloN 1 0 i = false := by decide
theorem d_e1 : ∀ i, i < 2 → aloN 1 1 i = true ∧ numN 1 i = i := by decide
theorem vt_f {S : SS} {a i : Nat} (h : sd S a ≤ 1) (hi : i ≤ 1) : fcx S a 1 (2 ^ sd S a - 1) i = vt S a i := by
  unfold fcx vt
  rcases (show sd S a = 0 ∨ sd S a = 1 by omega) with q | q
  · rw [q]
    have := d_e0 i (by omega)
    simp [this]
  · rw [q]
    have := d_e1 i (by omega)
    simp [this.1, this.2]
def mkF (S : SS) (lo up c m : Nat) (F : Nat → Nat → Bool) : Nat → Nat → Bool := if popN m = sd S c then (fun a b => F a b || (decide (a = fcx S c 2 m lo) && decide (b = fcx S c 2 m up))) else F
def flI (S : SS) (lo up c : Nat) (F : Nat → Nat → Bool) : Nat → Nat → Nat → Bool
  | 0 => F
  | m + 1 => mkF S lo up c m (flI S lo up c F m)
def flC (S : SS) (lo up : Nat) : Nat → Nat → Nat → Bool
  | 0 => fun _ _ => false
  | c + 1 => flI S lo up c (flC S lo up c) 4
def hornB (S : SS) (lo up a b : Nat) : Bool := decide (sd S a < 2) && (decide (sd S b < 2) && decide (vt S b lo = vt S a (up - 1)))
def hcB (P : Nat → Nat → Bool) (a : Nat) : Nat → Nat
  | 0 => 0
  | b + 1 => hcB P a b + if P a b then 1 else 0
def hcA (P : Nat → Nat → Bool) (n : Nat) : Nat → Nat
  | 0 => 0
  | a + 1 => hcA P n a + hcB P a n
def hnV (S : SS) (k : Nat) (F : Nat → Nat → Bool) : Nat := hcA (fun a b => hornB S (loN k) (upN k) a b && !F a b) (sn S) (sn S)
def A_horn (S : SS) (a : Int32) : Int32 := if a < 0 then -104 else if a ≤ nI 2 then nI (hnV S a.toNatClampNeg (fun _ _ => false)) else -104
def A_unf (S : SS) (a : Int32) : Int32 := if a < 0 then -104 else if a ≤ nI 2 then nI (hnV S a.toNatClampNeg (flC S (loN a.toNatClampNeg) (upN a.toNatClampNeg) (sn S))) else -104
def FL (μ : Mm) (F : Nat → Nat → Bool) : Prop := ∀ a b, a < 48 → b < 48 → tb (ss_l μ 18 a) b = F a b
theorem kC_l {μ : Mm} {p j : Nat} {v : Int64} : kC μ (ss_wl μ p j v) := ⟨fun _ _ _ _ => rfl, rfl, fun _ _ _ => rfl⟩
theorem kC_p {μ : Mm} {p j : Nat} {v : Int32} (h1 : 12 ≤ p) (h2 : p < 29) : kC μ (ss_wi μ p j v) := ⟨fun q k a b => by rw [ri_wi, if_neg (by omega)], rfl, fun q k a => by rw [ri_wi, if_neg (by omega)]⟩
section HO
variable {l : Launch} {ω : Wd} {μ : Mm} {S T : SS} {D : DD}
theorem c_fillL {p n : Nat} {a : Int64} (hs : shA p = (2, n)) (hn : n < 2 ^ 31) : Ctr l ω M_J7_fill_d0a16 [.ref p, .long a] μ (fun v μ' => v = none ∧ μ'.1 = μ.1 ∧ μ'.2.2 = μ.2.2 ∧ (∀ q k, q ≠ p → ss_l μ' q k = ss_l μ q k) ∧ ∀ j, j < n → ss_l μ' p j = a) := by
  refine Ct_J7_fill_d0a16 ?_
  rw [hs]
  refine ⟨rfl, ?_⟩
  refine upto1 (G := fun i μ1 => Good l ω M_J7_fill_d0a16 6 [.ref p, .long a, .null, .int (nI i), .int (nI n)] [] μ1 _) (I := fun i μ1 => μ1.1 = μ.1 ∧ μ1.2.2 = μ.2.2 ∧ (∀ q k, q ≠ p → ss_l μ1 q k = ss_l μ q k) ∧ ∀ j, j < i → ss_l μ1 p j = a) n ?_ ?_ 0 (by omega) μ ⟨rfl, rfl, fun _ _ _ => rfl, fun j hj => by omega⟩
  · intro μ1 ⟨k1, k2, k3, k4⟩
    exact Tr_J7_fill_d0a16_6 ⟨fun _ => ⟨rfl, k1, k2, k3, k4⟩, fun g => absurd (nI_le (Nat.le_refl _) hn) g⟩
  · intro i μ1 hi ⟨k1, k2, k3, k4⟩ ih
    refine Tr_J7_fill_d0a16_6 ⟨fun g => absurd g (nI_ge hi hn), fun _ => ⟨inb_n hs hi hn, ?_⟩⟩
    rw [cl_n (by omega), nI_add]
    refine ih _ ⟨k1, k2, fun q k hq => by rw [rl_wl, if_neg (fun r => hq r.1)]; exact k3 q k hq, fun j hj => ?_⟩
    rw [rl_wl]
    by_cases hji : j = i
    · rw [if_pos ⟨rfl, hji⟩]
    · rw [if_neg (fun r => hji r.2)]; exact k4 j (by omega)
theorem kC_of {μ μ' : Mm} (h1 : μ'.1 = μ.1) (h2 : μ'.2.2 = μ.2.2) : kC μ μ' := ⟨fun q k _ _ => by unfold ss_i; rw [h1], h2, fun q k _ => by unfold ss_i; rw [h1]⟩
theorem c_forget : Ctr l ω M_X3_forget [.ref 17] μ (fun v μ' => v = none ∧ kC μ μ' ∧ FL μ' (fun _ _ => false)) := by
  refine Ct_X3_forget (ex_q (c_fillL (n := 48) rfl (by decide)) (fun v μ1 hq => ?_))
  obtain ⟨rfl, h1, h2, h3, h4⟩ := hq
  exact Tr_X3_forget_8 ⟨rfl, kC_of h1 h2, fun a b ha hb => by rw [h4 a ha]; exact tb_0 b⟩
theorem c_markFilled {t k : Nat} (ht : cel t) (ht2 : t ≤ 9) (hV : VS S) (hR : RC t S μ) (hk : k < 3) (hF : FL μ (fun _ _ => false)) : Ctr l ω M_X3_markFilled [.ref 17, .ref t, .int (nI k)] μ (fun v μ' => v = none ∧ kC μ μ' ∧ FL μ' (flC S (loN k) (upN k) (sn S))) := by
  have h48 := hV.1
  obtain ⟨u1, u2, u3⟩ := lu_b k hk
  have hRk : ∀ μ1, kC μ μ1 → RC t S μ1 := fun μ1 k1 => RC_same hR (fun q j hq => k1.1 q j (by rcases ht with rfl | rfl | rfl <;> omega) (by rcases ht with rfl | rfl | rfl <;> omega))
  refine Ct_X3_markFilled ?_
  refine upto1 (G := fun c μ1 => Good l ω M_X3_markFilled 2 [.ref 17, .ref t, .int (nI k), .int (nI c), .null, .null, .null] [] μ1 _) (I := fun c μ1 => kC μ μ1 ∧ FL μ1 (flC S (loN k) (upN k) c)) (sn S) ?_ ?_ 0 (by omega) μ ⟨kC_rf, hF⟩
  · intro μ1 ⟨k1, k2⟩
    refine Tr_X3_markFilled_2 ?_
    rw [(hRk μ1 k1).1]
    exact ⟨cel_o ht, fun _ => ⟨rfl, k1, k2⟩, fun g => absurd (nI_le (Nat.le_refl _) (by omega)) g⟩
  · intro c μ1 hc ⟨k1, k2⟩ ih
    refine Tr_X3_markFilled_2 ?_
    rw [(hRk μ1 k1).1]
    refine ⟨cel_o ht, fun g => absurd g (nI_ge hc (by omega)), fun _ => ?_⟩
    refine upto1 (G := fun m μ2 => Good l ω M_X3_markFilled 13 [.ref 17, .ref t, .int (nI k), .int (nI c), .int (nI m), .null, .null] [] μ2 _) (I := fun m μ2 => kC μ μ2 ∧ FL μ2 (flI S (loN k) (upN k) c (flC S (loN k) (upN k) c) m)) 4 ?_ ?_ 0 (by omega) μ1 ⟨k1, k2⟩
    · intro μ2 ⟨j1, j2⟩
      refine Tr_X3_markFilled_13 ⟨fun _ => ?_, fun g => absurd (by decide) g⟩
      rw [nI_add]
      exact ih μ2 ⟨j1, j2⟩
    · intro m μ2 hm ⟨j1, j2⟩ ih2
      have hR2 := hRk μ2 j1
      have hsd := (hV.2 c hc).1
      refine Tr_X3_markFilled_13 ⟨fun g => absurd g (by rw [d_low 2 (by decide)]; exact nI_nlt (by omega) (by omega)), fun _ => ?_⟩
      rw [cel_r0 ht, cl_n (by omega), (hR2.2 c hc).1, isM_n (by decide) (by omega) (by omega), nI_add]
      refine ⟨cel_o ht, inb_n (cel_1 ht) (by omega) (by decide), ?_⟩
      by_cases hp : popN m = sd S c
      · rw [if_pos hp]
        refine ⟨fun g => absurd g nI1_ne, fun _ => ⟨cel_o ht, ?_⟩⟩
        have hv : vsx S c 2 m := ⟨hc, by decide, by omega, hp⟩
        have f1 := face_v hV hv (i := loN k) (by decide) (by omega)
        have f2 := face_v hV hv (i := upN k) (by decide) (by omega)
        have c1 := Nat.lt_of_lt_of_le f1.1 hV.1
        have c2 := Nat.lt_of_lt_of_le f2.1 hV.1
        rw [pk_pack c (by omega) m (by omega), lo_n k hk]
        refine ex_p (c_faceOf ht hV hR2 hv (by decide) (by omega)) (Tr_X3_markFilled_48 ?_)
        rw [pk_pack c (by omega) m (by omega), up_n k hk, pk_cell c1 (p2_lt f1.2.1 f1.2.2.1)]
        refine ⟨cel_o ht, ex_p (c_faceOf ht hV hR2 hv (by decide) (by omega)) (Tr_X3_markFilled_68 ?_)⟩
        rw [pk_cell c2 (p2_lt f2.2.1 f2.2.2.1), cl_n (by omega), nI_add, hR2.1]
        have hin : inb 18 2 (nI (fcx S c 2 m (loN k))) = true := inb_n (n := 48) rfl c1 (by decide)
        refine ⟨cel_o ht, fun g => absurd g (has_n h48 f1.1), fun _ => ⟨hin, hin, ih2 _ ⟨kC_tr j1 kC_l, fun a b ha hb => ?_⟩⟩⟩
        show _ = mkF S (loN k) (upN k) c m _ a b
        unfold mkF
        rw [if_pos hp, rl_wl]
        by_cases haf : a = fcx S c 2 m (loN k)
        · rw [if_pos ⟨rfl, haf⟩, tb_or _ c2 hb, ← haf, j2 a b ha hb]
          simp
        · rw [if_neg (fun r => haf r.2), j2 a b ha hb]
          simp [haf]
      · rw [if_neg hp]
        refine ⟨fun _ => ih2 μ2 ⟨j1, ?_⟩, fun g => absurd nI0_eq g⟩
        have : flI S (loN k) (upN k) c (flC S (loN k) (upN k) c) (m + 1) = flI S (loN k) (upN k) c (flC S (loN k) (upN k) c) m := by
          rw [flI, mkF, if_neg hp]
        rw [this]; exact j2
def mtA (S : SS) (i c : Nat) : Int32 := if sd S c ≤ 1 then nI (vt S c i) else -1
theorem vt_lt (hV : VS S) {c i : Nat} (hc : c < sn S) (h1 : sd S c ≤ 1) (hi : i ≤ 1) : vt S c i < sn S := by
  unfold vt
  split
  · exact hc
  · exact ((hV.2 c hc).2 (by omega) i (by omega)).1
theorem c_meet {t k : Nat} (ht : cel t) (hV : VS S) (hR : RC t S μ) (hk : k < 3) : Ctr l ω M_X3_findMeetingPoints [.ref 17, .ref t, .int (nI k)] μ (fun v μ' => v = none ∧ kC μ μ' ∧ μ'.2.1 = μ.2.1 ∧ ∀ c, c < sn S → ss_i μ' 19 c = mtA S (upN k - 1) c ∧ ss_i μ' 20 c = mtA S (loN k) c) := by
  have h48 := hV.1
  obtain ⟨u1, u2, u3⟩ := lu_b k hk
  have hRk : ∀ μ1, kC μ μ1 → RC t S μ1 := fun μ1 k1 => RC_same hR (fun q j hq => k1.1 q j (by rcases ht with rfl | rfl | rfl <;> omega) (by rcases ht with rfl | rfl | rfl <;> omega))
  refine Ct_X3_findMeetingPoints ?_
  refine upto1 (G := fun c μ1 => Good l ω M_X3_findMeetingPoints 2 [.ref 17, .ref t, .int (nI k), .int (nI c), .null, .null, .null] [] μ1 _) (I := fun c μ1 => kC μ μ1 ∧ μ1.2.1 = μ.2.1 ∧ ∀ z, z < c → ss_i μ1 19 z = mtA S (upN k - 1) z ∧ ss_i μ1 20 z = mtA S (loN k) z) (sn S) ?_ ?_ 0 (by omega) μ ⟨kC_rf, rfl, fun z hz => by omega⟩
  · intro μ1 ⟨k1, k2, k3⟩
    refine Tr_X3_findMeetingPoints_2 ?_
    rw [(hRk μ1 k1).1]
    exact ⟨cel_o ht, fun _ => ⟨rfl, k1, k2, k3⟩, fun g => absurd (nI_le (Nat.le_refl _) (by omega)) g⟩
  · intro c μ1 hc ⟨k1, k2, k3⟩ ih
    have hR1 := hRk μ1 k1
    have hsd := (hV.2 c hc).1
    have hin : ∀ p, (p = 19 ∨ p = 20) → inb p 1 (nI c) = true := by rintro p (rfl | rfl) <;> exact inb_n (n := 48) rfl (by omega) (by decide)
    have put : ∀ x y : Int32, x = mtA S (upN k - 1) c → y = mtA S (loN k) c → Good l ω M_X3_findMeetingPoints 2 [.ref 17, .ref t, .int (nI k), .int (nI (c + 1)), .null, .null, .null] [] (ss_wi (ss_wi μ1 19 c x) 20 c y) (fun v μ' => v = none ∧ kC μ μ' ∧ μ'.2.1 = μ.2.1 ∧ ∀ c, c < sn S → ss_i μ' 19 c = mtA S (upN k - 1) c ∧ ss_i μ' 20 c = mtA S (loN k) c) := by
      intro x y hx hy
      refine ih _ ⟨kC_tr k1 (kC_tr (kC_p (p := 19) (by decide) (by decide)) (kC_p (p := 20) (by decide) (by decide))), k2, fun z hz => ?_⟩
      by_cases hzc : z = c
      · subst hzc
        refine ⟨?_, ?_⟩
        · rw [ri_wi, if_neg (by omega), ri_wi, if_pos ⟨rfl, rfl⟩, hx]
        · rw [ri_wi, if_pos ⟨rfl, rfl⟩, hy]
      · rw [ri_wi, if_neg (by omega), ri_wi, if_neg (by omega), ri_wi, if_neg (by omega), ri_wi, if_neg (by omega)]
        exact k3 z (by omega)
    refine Tr_X3_findMeetingPoints_2 ?_
    rw [hR1.1, cel_r0 ht, cl_n (by omega), (hR1.2 c hc).1, nI_add]
    refine ⟨cel_o ht, fun g => absurd g (nI_ge hc (by omega)), fun _ => ⟨cel_o ht, inb_n (cel_1 ht) (by omega) (by decide), fun g => ⟨hin _ (Or.inl rfl), hin _ (Or.inr rfl), ?_⟩, fun g => ⟨cel_o ht, ?_⟩⟩⟩
    · have : ¬ sd S c ≤ 1 := fun q => absurd g (nI_nlt q (by omega))
      exact put _ _ (by unfold mtA; rw [if_neg this]) (by unfold mtA; rw [if_neg this])
    · have h1 : sd S c ≤ 1 := by
        rcases Nat.lt_or_ge 1 (sd S c) with q | q
        · exact absurd (nI_lt q (by omega)) g
        · exact q
      have hv : vsx S c 1 (2 ^ sd S c - 1) := by
        rcases (show sd S c = 0 ∨ sd S c = 1 by omega) with q | q
        · rw [q]; exact ⟨hc, by decide, by decide, by rw [q]; rfl⟩
        · rw [q]; exact ⟨hc, by decide, by decide, by rw [q]; rfl⟩
      have hm2 : 2 ^ sd S c - 1 < 2 := hv.2.2.1
      have f1 := face_v hV hv (i := upN k - 1) (by decide) (by omega)
      have f2 := face_v hV hv (i := loN k) (by decide) (by omega)
      have v1 := vt_f (S := S) (a := c) (i := upN k - 1) h1 (by omega)
      have v2 := vt_f (S := S) (a := c) (i := loN k) h1 (by omega)
      rw [d_low _ (by omega), pk_pack c (by omega) _ (by omega), up_n k hk, nI_sub1 (by omega)]
      refine ex_p (c_faceOf ht hV hR1 hv (by decide) (by omega)) (Tr_X3_findMeetingPoints_65 ?_)
      rw [cl_n (by omega), pk_cell (Nat.lt_of_lt_of_le f1.1 hV.1) (p2_lt f1.2.1 f1.2.2.1), lo_n k hk]
      refine ⟨hin _ (Or.inl rfl), fun g => absurd g nI1_ne, fun _ => ⟨cel_o ht, ?_⟩⟩
      have hR2 : RC t S (ss_wi μ1 19 c (nI (fcx S c 1 (2 ^ sd S c - 1) (upN k - 1)))) := hRk _ (kC_tr k1 (kC_p (p := 19) (by decide) (by decide)))
      refine ex_p (c_faceOf ht hV hR2 hv (by decide) (by omega)) (Tr_X3_findMeetingPoints_94 ?_)
      rw [cl_n (by omega), pk_cell (Nat.lt_of_lt_of_le f2.1 hV.1) (p2_lt f2.2.1 f2.2.2.1), nI_add]
      refine ⟨hin _ (Or.inr rfl), put _ _ ?_ ?_⟩
      · unfold mtA; rw [if_pos h1, v1]
      · unfold mtA; rw [if_pos h1, v2]
theorem hcB_le (P : Nat → Nat → Bool) (a : Nat) : ∀ b, hcB P a b ≤ b
  | 0 => Nat.le_refl 0
  | b + 1 => by have := hcB_le P a b; unfold hcB; split <;> omega
theorem hcA_le (P : Nat → Nat → Bool) (n : Nat) : ∀ a, hcA P n a ≤ a * n
  | 0 => by unfold hcA; omega
  | a + 1 => by have := hcA_le P n a; have := hcB_le P a n; unfold hcA; rw [Nat.succ_mul]; omega
theorem c_countUnmarked {t k : Nat} (ht : cel t) (hV : VS S) (hR : RC t S μ) (hk : k < 3) {F : Nat → Nat → Bool} (hF : FL μ F) : Ctr l ω M_X3_countUnmarked [.ref 17, .ref t, .int (nI k)] μ (fun v μ' => v = some (.int (nI (hnV S k F))) ∧ kC μ μ') := by
  have h48 := hV.1
  obtain ⟨u1, u2, u3⟩ := lu_b k hk
  refine Ct_X3_countUnmarked (ex_q (c_meet ht hV hR hk) (fun v μ1 hq => ?_))
  obtain ⟨rfl, k1, k2, k3⟩ := hq
  have hR1 : RC t S μ1 := RC_same hR (fun q j hq => k1.1 q j (by rcases ht with rfl | rfl | rfl <;> omega) (by rcases ht with rfl | rfl | rfl <;> omega))
  have hF1 : FL μ1 F := fun a b ha hb => by unfold ss_l; rw [k2]; exact hF a b ha hb
  refine Tr_X3_countUnmarked_6 ?_
  generalize hP : (fun a b => hornB S (loN k) (upN k) a b && !F a b) = P
  have hval : hnV S k F = hcA P (sn S) (sn S) := by unfold hnV; rw [hP]
  rw [hval]
  refine upto0 (G := fun a => Good l ω M_X3_countUnmarked 11 [.ref 17, .ref t, .null, .int (nI (hcA P (sn S) a)), .int (nI a), .null, .null] [] μ1 _) (sn S) ?_ ?_ 0 (by omega)
  · refine Tr_X3_countUnmarked_11 ?_
    rw [hR1.1]
    exact ⟨cel_o ht, fun _ => ⟨rfl, k1⟩, fun g => absurd (nI_le (Nat.le_refl _) (by omega)) g⟩
  · intro a ha ih
    refine Tr_X3_countUnmarked_11 ?_
    rw [hR1.1]
    refine ⟨cel_o ht, fun g => absurd g (nI_ge ha (by omega)), fun _ => ?_⟩
    refine upto0 (G := fun b => Good l ω M_X3_countUnmarked 23 [.ref 17, .ref t, .null, .int (nI (hcA P (sn S) a + hcB P a b)), .int (nI a), .int (nI b), .null] [] μ1 _) (sn S) ?_ ?_ 0 (by omega)
    · refine Tr_X3_countUnmarked_23 ?_
      rw [hR1.1, nI_add a 1]
      exact ⟨cel_o ht, fun _ => ih, fun g => absurd (nI_le (Nat.le_refl _) (by omega)) g⟩
    · intro b hb ih2
      refine Tr_X3_countUnmarked_23 ?_
      rw [hR1.1, cl_n (by omega), cl_n (by omega), (k3 a ha).1, (k3 b hb).2, nI_add b 1, nI_add (hcA P (sn S) a + hcB P a b) 1, tb_test _ (by omega), hF1 a b (by omega) (by omega)]
      have hin : ∀ p y, (p = 19 ∨ p = 20) → y < 48 → inb p 1 (nI y) = true := by rintro p y (rfl | rfl) hy <;> exact inb_n (n := 48) rfl hy (by decide)
      have no : P a b = false → Good l ω M_X3_countUnmarked 23 [.ref 17, .ref t, .null, .int (nI (hcA P (sn S) a + hcB P a b)), .int (nI a), .int (nI (b + 1)), .null] [] μ1 (fun v μ' => v = some (.int (nI (hcA P (sn S) (sn S)))) ∧ kC μ μ') := by
        intro h
        rw [show hcA P (sn S) a + hcB P a (b + 1) = hcA P (sn S) a + hcB P a b by rw [hcB, h]; rfl] at ih2
        exact ih2
      have ePab : P a b = (hornB S (loN k) (upN k) a b && !F a b) := by rw [← hP]
      refine ⟨cel_o ht, fun g => absurd g (nI_ge hb (by omega)), fun _ => ⟨hin _ _ (Or.inl rfl) (by omega), fun g => ?_, fun g => ⟨hin _ _ (Or.inl rfl) (by omega), hin _ _ (Or.inr rfl) (by omega), fun g2 => ?_, fun g2 => ⟨inb_n (n := 48) rfl (by omega) (by decide), fun g3 => ?_, fun g3 => ?_⟩⟩⟩⟩
      · apply no
        have ha2 : ¬ sd S a ≤ 1 := by
          intro q
          unfold mtA at g
          rw [if_pos q] at g
          have := vt_lt hV ha q (i := upN k - 1) (by omega)
          have h0 : ¬ nI (vt S a (upN k - 1)) < 0 := nI_pos (by omega)
          rw [g] at h0
          exact h0 (by decide)
        rw [ePab]; unfold hornB
        rw [decide_eq_false (show ¬ sd S a < 2 by omega)]
        rfl
      · apply no
        have ha1 : sd S a ≤ 1 := by
          rcases Nat.lt_or_ge 1 (sd S a) with q | q
          · exact absurd (by unfold mtA; rw [if_neg (by omega)]) g
          · exact q
        rw [ePab]; unfold hornB
        by_cases hb1 : sd S b ≤ 1
        · have : ¬ vt S b (loN k) = vt S a (upN k - 1) := by
            intro q
            apply g2
            unfold mtA
            rw [if_pos ha1, if_pos hb1, q]
          rw [decide_eq_false this]
          simp
        · rw [decide_eq_false (show ¬ sd S b < 2 by omega)]
          simp
      · apply no
        rw [ePab]
        have : F a b = true := by cases h : F a b with | true => rfl | false => exact absurd h g3
        rw [this]; simp
      · have g2 := dnn g2
        have g3 := dnn g3
        have ha1 : sd S a ≤ 1 := by
          rcases Nat.lt_or_ge 1 (sd S a) with q | q
          · exact absurd (by unfold mtA; rw [if_neg (by omega)]) g
          · exact q
        have va := vt_lt hV ha ha1 (i := upN k - 1) (by omega)
        have hb1 : sd S b ≤ 1 := by
          rcases Nat.lt_or_ge 1 (sd S b) with q | q
          · exfalso
            apply g
            rw [g2]
            unfold mtA
            rw [if_neg (by omega)]
          · exact q
        have vb := vt_lt hV hb hb1 (i := loN k) (by omega)
        have hh : P a b = true := by
          rw [ePab, g3]
          unfold hornB
          unfold mtA at g2
          rw [if_pos ha1, if_pos hb1, nI_eq (by omega) (by omega)] at g2
          rw [decide_eq_true (show sd S a < 2 by omega), decide_eq_true (show sd S b < 2 by omega), decide_eq_true g2.symm]
          rfl
        rw [show hcA P (sn S) a + hcB P a (b + 1) = hcA P (sn S) a + hcB P a b + 1 by rw [hcB, hh]; rfl] at ih2
        exact ih2
theorem x_hornCount (hV : VS S) (hI : IC S T D μ) (a : Int32) : Ctr l ω M_X6_hornCount [.ref 0, .int a] μ (fun v μ' => v = some (.int (A_horn S a)) ∧ kC μ μ') := by
  refine Ct_X6_hornCount ⟨fun g => ⟨by unfold A_horn; rw [if_pos g], kC_rf⟩, fun g => ⟨fun g2 => ?_, fun g2 => ⟨by unfold A_horn; rw [if_neg g, if_neg g2], kC_rf⟩⟩⟩
  obtain ⟨k, hk, rfl⟩ := nI_of2 (M := nI 2) (n := 2) (by decide) g g2
  refine ex_q c_forget (fun v μ1 hq => ?_)
  obtain ⟨rfl, k1, k2⟩ := hq
  obtain ⟨p, hp, hr, hR⟩ := IC_pl (IC_k hI k1)
  refine Tr_X6_hornCount_19 ?_
  rw [hr]
  refine ex_q (c_countUnmarked hp hV hR (by omega) k2) (fun v μ2 hq => ?_)
  obtain ⟨rfl, k3⟩ := hq
  refine Tr_X6_hornCount_31 ⟨?_, kC_tr k1 k3⟩
  unfold A_horn
  rw [if_neg g, if_pos g2, cl_n (by omega)]
theorem x_unfilledCount (hV : VS S) (hI : IC S T D μ) (a : Int32) : Ctr l ω M_X6_unfilledCount [.ref 0, .int a] μ (fun v μ' => v = some (.int (A_unf S a)) ∧ kC μ μ') := by
  refine Ct_X6_unfilledCount ⟨fun g => ⟨by unfold A_unf; rw [if_pos g], kC_rf⟩, fun g => ⟨fun g2 => ?_, fun g2 => ⟨by unfold A_unf; rw [if_neg g, if_neg g2], kC_rf⟩⟩⟩
  obtain ⟨k, hk, rfl⟩ := nI_of2 (M := nI 2) (n := 2) (by decide) g g2
  refine ex_q c_forget (fun v μ1 hq => ?_)
  obtain ⟨rfl, k1, k2⟩ := hq
  obtain ⟨p, hp, hr, hR⟩ := IC_pl (IC_k hI k1)
  refine Tr_X6_unfilledCount_19 ?_
  rw [hr]
  refine ex_q (c_markFilled hp (by rcases hp with rfl | rfl | rfl <;> omega) hV hR (by omega) k2) (fun v μ2 hq => ?_)
  obtain ⟨rfl, k3, k4⟩ := hq
  obtain ⟨p2, hp2, hr2, hR2⟩ := IC_pl (IC_k hI (kC_tr k1 k3))
  refine Tr_X6_unfilledCount_31 ?_
  rw [hr2]
  refine ex_q (c_countUnmarked hp2 hV hR2 (by omega) k4) (fun v μ3 hq => ?_)
  obtain ⟨rfl, k5⟩ := hq
  refine Tr_X6_unfilledCount_43 ⟨?_, kC_tr (kC_tr k1 k3) k5⟩
  unfold A_unf
  rw [if_neg g, if_pos g2, cl_n (by omega)]
end HO

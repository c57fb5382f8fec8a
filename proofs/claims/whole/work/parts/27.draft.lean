/-! cells are added; the draft (class) -/
def appS (S : SS) (d : Nat) (f g : Nat → Nat) : SS := (sn S + 1, (fun c => if c = sn S then d else sd S c), (fun c k => if c = sn S then f k else sf S c k), (fun c k => if c = sn S then g k else sm S c k))
theorem app_n {S : SS} {d : Nat} {f g : Nat → Nat} : sn (appS S d f g) = sn S + 1 := rfl
theorem app_d {S : SS} {d : Nat} {f g : Nat → Nat} {c : Nat} : sd (appS S d f g) c = if c = sn S then d else sd S c := rfl
theorem app_f {S : SS} {d : Nat} {f g : Nat → Nat} {c k : Nat} : sf (appS S d f g) c k = if c = sn S then f k else sf S c k := rfl
theorem app_m {S : SS} {d : Nat} {f g : Nat → Nat} {c k : Nat} : sm (appS S d f g) c k = if c = sn S then g k else sm S c k := rfl
theorem app_V {S : SS} (hV : VS S) {d : Nat} {f g : Nat → Nat} (h : sn S < 48) (hd : d ≤ 4) (hf : 1 ≤ d → ∀ k, k ≤ d → f k < sn S ∧ g k < 2 ^ (d - 1) ∧ popN (g k) = sd S (f k)) : VS (appS S d f g) := by
  refine ⟨by rw [app_n]; omega, fun c hc => ?_⟩
  rw [app_n] at hc
  rw [app_d]
  by_cases hcs : c = sn S
  · rw [if_pos hcs]
    refine ⟨hd, fun h1 k hk => ?_⟩
    obtain ⟨f1, f2, f3⟩ := hf h1 k hk
    rw [app_f, app_m, if_pos hcs, if_pos hcs, app_n, app_d, if_neg (by omega)]
    exact ⟨by omega, f2, f3⟩
  · rw [if_neg hcs]
    obtain ⟨q1, q2⟩ := hV.2 c (by omega)
    refine ⟨q1, fun h1 k hk => ?_⟩
    obtain ⟨f1, f2, f3⟩ := q2 h1 k hk
    rw [app_f, app_m, if_neg hcs, if_neg hcs, app_n, app_d, if_neg (by omega)]
    exact ⟨by omega, f2, f3⟩
theorem app_D {S : SS} {D : DD} {d : Nat} {f g : Nat → Nat} (hD : DV S D) : DV (appS S d f g) D := by
  refine ⟨hD.1, fun h1 => ⟨(hD.2 h1).1, fun k hk hb => ?_⟩⟩
  obtain ⟨q1, q2, q3⟩ := (hD.2 h1).2 k hk hb
  rw [app_n, app_d, if_neg (by omega)]
  exact ⟨by omega, q2, q3⟩
def apM (μ : Mm) (t n : Nat) (a : Int32) (r : Nat) : Mm := ss_wi (ss_cp (ss_wi μ (t + 1) n a) r 0 (t + 2) (5 * n) 5) t 2 (nI (n + 1))
theorem ap_i {μ : Mm} {t n r : Nat} {a : Int32} (q k : Nat) : ss_i (apM μ t n a r) q k = if q = t ∧ k = 2 then nI (n + 1) else if q = t + 2 ∧ 5 * n ≤ k ∧ k < 5 * n + 5 then ss_i (ss_wi μ (t + 1) n a) r (0 + (k - 5 * n)) else if q = t + 1 ∧ k = n then a else ss_i μ q k := rfl
theorem ap_R {μ : Mm} {t r d : Nat} {S : SS} {f g : Nat → Nat} (hR : RC t S μ) (hr : r ≠ t + 1) (hd : d ≤ 4) (hf : 1 ≤ d → ∀ k, k ≤ d → ss_i μ r k = nI (64 * f k + g k)) (h4 : ∀ c, c < sn S → sd S c ≤ 4) : RC t (appS S d f g) (apM μ t (sn S) (nI d) r) := by
  refine ⟨by rw [ap_i, if_pos ⟨rfl, rfl⟩]; rfl, fun c hc => ?_⟩
  rw [app_n] at hc
  rw [app_d]
  by_cases hcs : c = sn S
  · subst hcs
    rw [if_pos rfl]
    refine ⟨by rw [ap_i, if_neg (by omega), if_neg (by omega), if_pos ⟨rfl, rfl⟩], fun h1 k hk => ?_⟩
    rw [app_f, app_m, if_pos rfl, if_pos rfl, ap_i, if_neg (by omega), if_pos ⟨rfl, by omega, by omega⟩, ri_wi, if_neg (fun q => hr q.1), show 0 + (5 * sn S + k - 5 * sn S) = k by omega]
    exact hf h1 k hk
  · rw [if_neg hcs]
    obtain ⟨q1, q2⟩ := hR.2 c (by omega)
    have h5 := h4 c (by omega)
    refine ⟨by rw [ap_i, if_neg (by omega), if_neg (by omega), if_neg (by omega)]; exact q1, fun h1 k hk => ?_⟩
    rw [app_f, app_m, if_neg hcs, if_neg hcs, ap_i, if_neg (by omega), if_neg (by omega), if_neg (by omega)]
    exact q2 h1 k hk
section DR
variable {l : Launch} {ω : Wd} {μ : Mm} {S T : SS} {D : DD}
theorem c_append {t n r : Nat} {a : Int32} (ht : cel t) (hn : ss_i μ t 2 = nI n) (h48 : n < 48) (hr : shA r = (1, 5)) : Ctr l ω M_X0_append [.ref t, .int a, .ref r] μ (fun v μ' => v = some (.int (nI n)) ∧ μ' = apM μ t n a r) := by
  refine Ct_X0_append ?_
  rw [hn, rr_wi, cel_r0 ht, cel_r1 ht, pk_mul, cl_n (by omega), cl_n (by omega), cl_n (by omega), cl_n (by omega)]
  refine ⟨cel_o ht, fun _ => ⟨cel_o ht, cel_o ht, inb_n (cel_1 ht) (by omega) (by decide), cel_o ht, 5, 240, hr, cel_2 ht, by decide, nI_pos (by omega), by decide, by omega, by omega, ?_⟩, fun g => absurd (nI_lt h48 (by decide)) g⟩
  refine Tr_X0_append_37 ⟨cel_o ht, cel_o ht, rfl, ?_⟩
  have e : ss_i (ss_cp (ss_wi μ (t + 1) n a) r 0 (t + 2) (n * 5) 5) t 2 = nI n := by
    rw [ri_cp, if_neg (by omega), ri_wi, if_neg (by omega)]; exact hn
  rw [e, nI_add]
  unfold apM
  rw [Nat.mul_comm n 5]
theorem c_appF {t n r : Nat} {a : Int32} (ht : cel t) (hn : ss_i μ t 2 = nI n) (h48 : ¬ n < 48) (hn2 : n ≤ 48) : CtrP l ω M_X0_append [.ref t, .int a, .ref r] μ (-105) := by
  refine Ct_X0_append ?_
  rw [hn]
  exact ⟨cel_o ht, fun g => absurd ((nI_ltI (by omega) (by decide)).mp g) h48, fun _ => ⟨rfl, rfl⟩⟩
theorem c_fillI {p n : Nat} {a : Int32} (hs : shA p = (1, n)) (hn : n < 2 ^ 31) : Ctr l ω M_J7_fill_53178 [.ref p, .int a] μ (fun v μ' => v = none ∧ (∀ q k, q ≠ p → ss_i μ' q k = ss_i μ q k) ∧ μ'.2 = μ.2 ∧ ∀ j, j < n → ss_i μ' p j = a) := by
  refine Ct_J7_fill_53178 ?_
  rw [hs]
  refine ⟨rfl, ?_⟩
  refine upto1 (G := fun i μ1 => Good l ω M_J7_fill_53178 5 [.ref p, .int a, .int (nI i), .int (nI n)] [] μ1 _) (I := fun i μ1 => (∀ q k, q ≠ p → ss_i μ1 q k = ss_i μ q k) ∧ μ1.2 = μ.2 ∧ ∀ j, j < i → ss_i μ1 p j = a) n ?_ ?_ 0 (by omega) μ ⟨fun _ _ _ => rfl, rfl, fun j hj => by omega⟩
  · intro μ1 ⟨k1, k2, k3⟩
    exact Tr_J7_fill_53178_5 ⟨fun _ => ⟨rfl, k1, k2, k3⟩, fun g => absurd (nI_le (Nat.le_refl _) hn) g⟩
  · intro i μ1 hi ⟨k1, k2, k3⟩ ih
    refine Tr_J7_fill_53178_5 ⟨fun g => absurd g (nI_ge hi hn), fun _ => ⟨inb_n hs hi hn, ?_⟩⟩
    rw [cl_n (by omega), nI_add]
    refine ih _ ⟨fun q k hq => by rw [ri_wi, if_neg (fun r => hq r.1)]; exact k1 q k hq, k2, fun j hj => ?_⟩
    rw [ri_wi]
    by_cases hji : j = i
    · rw [if_pos ⟨rfl, hji⟩]
    · rw [if_neg (fun r => hji r.2)]; exact k3 j (by omega)
def zf : Nat → Nat := fun _ => 0
def A_addV (S : SS) : Int32 := if sn S < 48 then nI (sn S) else -105
def N_addV (S : SS) : SS := if sn S < 48 then appS S 0 zf zf else S
theorem x_addVertex (hV : VS S) (hI : IC S T D μ) : Ctr l ω M_X6_addVertex [.ref 0] μ (fun v μ' => v = some (.int (A_addV S)) ∧ IC (N_addV S) T D μ' ∧ fM μ μ') := by
  obtain ⟨p, hp4, hr, hr1, hR, hR7, hDC⟩ := id hI
  have hp : cel p := by unfold cel; omega
  have h48 := hV.1
  refine Ct_X6_addVertex ?_
  rw [show ss_r μ 0 0 = p from hr]
  refine ⟨cel_o hp, ?_⟩
  by_cases hlt : sn S < 48
  · refine ex_q (c_append hp hR.1 hlt rfl) (fun v μ1 hq => ?_)
    obtain ⟨rfl, rfl⟩ := hq
    refine Tr_X6_addVertex_12 ⟨by unfold A_addV; rw [if_pos hlt], ?_, ?_⟩
    · unfold N_addV
      rw [if_pos hlt]
      refine ⟨p, hp4, hr, hr1, ap_R hR (by omega) (by omega) (fun h => by omega) (fun c hc => (hV.2 c hc).1), RC_same hR7 (fun q k hq => ?_), DC_same hDC (fun q k hq => ?_)⟩
      · rw [ap_i, if_neg (by omega), if_neg (by omega), if_neg (by omega)]
      · rw [ap_i, if_neg (by omega), if_neg (by omega), if_neg (by omega)]
    · intro q k hq
      rw [ap_i, if_neg (by omega), if_neg (by omega), if_neg (by omega)]
  · exact ex_p (c_appF hp hR.1 hlt h48) (Tr_X6_addVertex_12 ⟨by unfold A_addV; rw [if_neg hlt], by unfold N_addV; rw [if_neg hlt]; exact hI, fM_rf⟩)
theorem c_begin {a : Int32} : Ctr l ω M_X1_begin [.ref 10, .int a] μ (fun v μ' => v = none ∧ (∀ q k, q ≠ 11 → ss_i μ' q k = ss_i (ss_wi μ 10 1 a) q k) ∧ μ'.2 = μ.2 ∧ ∀ j, j < 5 → ss_i μ' 11 j = -1) := by
  refine Ct_X1_begin (ex_q (c_fillI (n := 5) rfl (by decide)) (fun v μ1 hq => ?_))
  obtain ⟨rfl, hq⟩ := hq
  exact Tr_X1_begin_13 ⟨rfl, hq⟩
def A_beg (a : Int32) : Int32 := if a < nI 1 then -102 else if a ≤ nI 4 then nI 1 else -102
def N_beg (D : DD) (a : Int32) : DD := if a < nI 1 then D else if a ≤ nI 4 then (a.toNatClampNeg, 0, zf, zf) else D
theorem bit_0 (k : Nat) : bitN 0 k = 0 := by unfold bitN; rw [Nat.zero_div]
theorem x_beginCell (hV : VS S) (hI : IC S T D μ) (a : Int32) : Ctr l ω M_X6_beginCell [.ref 0, .int a] μ (fun v μ' => v = some (.int (A_beg a)) ∧ IC S T (N_beg D a) μ' ∧ fM μ μ') := by
  refine Ct_X6_beginCell ⟨fun g => ⟨by unfold A_beg; rw [if_pos g], by unfold N_beg; rw [if_pos g]; exact hI, fM_rf⟩, fun g => ⟨fun g2 => ?_, fun g2 => ⟨by unfold A_beg; rw [if_neg g, if_neg g2], by unfold N_beg; rw [if_neg g, if_neg g2]; exact hI, fM_rf⟩⟩⟩
  rcases rng_c (lo := 1) (hi := 4) (by decide) (by decide) a with ⟨d, hd1, hd, rfl⟩ | h | h
  · refine ex_q c_begin (fun v μ1 hq => ?_)
    obtain ⟨rfl, k1, k2, k3⟩ := hq
    refine Tr_X6_beginCell_21 ⟨by unfold A_beg; rw [if_neg g, if_pos g2], ?_, ?_⟩
    · unfold N_beg
      rw [if_neg g, if_pos g2, cl_n (by omega)]
      obtain ⟨p, hp4, hr, hr1, hR, hR7, hDC⟩ := hI
      have hk2 : μ1.2.2 = μ.2.2 := by rw [k2]
      refine ⟨p, hp4, by rw [hk2]; exact hr, by rw [hk2]; exact hr1, RC_same hR (fun q k hq => ?_), RC_same hR7 (fun q k hq => ?_), ?_, fun h1 k hk => ?_⟩
      · rw [k1 q k (by omega), ri_wi, if_neg (by omega)]
      · rw [k1 q k (by omega), ri_wi, if_neg (by omega)]
      · rw [k1 10 1 (by omega), ri_wi, if_pos ⟨rfl, rfl⟩]
      · have hk4 : k ≤ d := hk
        rw [k3 k (by omega), if_neg (by rw [bit_0]; decide)]
    · intro q k hq
      rw [k1 q k (by omega), ri_wi, if_neg (by omega)]
  · exact absurd h g
  · exact absurd g2 (Int32.not_le.mpr h)
end DR

/-! the same calls of the reference -/
section D7
variable {l : Launch} {ω : Wd} {μ : Mm} {S T : SS} {D : DD}
def acM (μ : Mm) (n : Nat) (a : Int32) : Mm := ss_wi (ss_wi μ 30 n a) 29 0 (nI (n + 1))
theorem c_addCell {n : Nat} {a : Int32} (hn : ss_i μ 29 0 = nI n) (h48 : n < 48) : Ctr l ω M_X7_addCell [.ref 29, .int a] μ (fun v μ' => v = some (.int (nI n)) ∧ μ' = acM μ n a) := by
  refine Ct_X7_addCell ?_
  rw [hn, cl_n (by omega)]
  have e1 : ss_i (ss_wi μ 30 n a) 29 0 = nI n := by rw [ri_wi, if_neg (by omega)]; exact hn
  rw [e1, nI_add, ri_wi, if_pos ⟨rfl, rfl⟩, nI_sub1 (by omega)]
  exact ⟨inb_n (n := 96) rfl (by omega) (by decide), rfl, rfl⟩
theorem c_putFace {c k : Nat} {a b : Int32} (h : 5 * c + k < 480) : Ctr l ω M_X7_putFace [.ref 29, .int (nI c), .int (nI k), .int a, .int b] μ (fun v μ' => v = none ∧ μ' = ss_wi (ss_wi μ 31 (5 * c + k) a) 32 (5 * c + k) b) := by
  refine Ct_X7_putFace ?_
  rw [pk_mul, nI_add, cl_n (by omega)]
  exact ⟨inb_n (n := 480) rfl h (by decide), inb_n (n := 480) rfl h (by decide), rfl, rfl⟩
/-- a cell more, its faces as they stand in the rows -/
theorem RM_app {μ μ' : Mm} {d : Nat} {f g : Nat → Nat} (hR : RM 0 0 S μ) (h0 : ss_i μ' 29 0 = nI (sn S + 1)) (hd : ss_i μ' 30 (sn S) = nI d) (ho : ∀ c, c < sn S → ss_i μ' 30 c = ss_i μ 30 c) (hf : 1 ≤ d → ∀ k, k ≤ d → ss_i μ' 31 (5 * sn S + k) = nI (f k) ∧ ss_i μ' 32 (5 * sn S + k) = nI (g k)) (hfo : ∀ k, k < 5 * sn S → ss_i μ' 31 k = ss_i μ 31 k ∧ ss_i μ' 32 k = ss_i μ 32 k) (h4 : ∀ c, c < sn S → sd S c ≤ 4) : RM 0 0 (appS S d f g) μ' := by
  refine ⟨h0, fun c hc => ?_⟩
  rw [app_n] at hc
  rw [app_d, Nat.zero_add]
  by_cases hcs : c = sn S
  · rw [if_pos hcs, hcs]
    refine ⟨hd, fun h1 k hk => ?_⟩
    rw [app_f, app_m, if_pos rfl, if_pos rfl]
    exact hf h1 k hk
  · rw [if_neg hcs]
    obtain ⟨q1, q2⟩ := hR.2 c (by omega)
    rw [Nat.zero_add] at q1 q2
    have h5 := h4 c (by omega)
    refine ⟨by rw [ho c (by omega)]; exact q1, fun h1 k hk => ?_⟩
    rw [app_f, app_m, if_neg hcs, if_neg hcs, (hfo (5 * c + k) (by omega)).1, (hfo (5 * c + k) (by omega)).2]
    exact q2 h1 k hk
theorem RM48 {μ μ' : Mm} (hR : RM 1 48 T μ) (h1 : ss_i μ' 29 1 = ss_i μ 29 1) (ho : ∀ k, 48 ≤ k → ss_i μ' 30 k = ss_i μ 30 k) (hfo : ∀ k, 240 ≤ k → ss_i μ' 31 k = ss_i μ 31 k ∧ ss_i μ' 32 k = ss_i μ 32 k) : RM 1 48 T μ' := by
  refine ⟨by rw [h1]; exact hR.1, fun c hc => ?_⟩
  obtain ⟨q1, q2⟩ := hR.2 c hc
  refine ⟨by rw [ho _ (by omega)]; exact q1, fun h1 k hk => ?_⟩
  rw [(hfo _ (by omega)).1, (hfo _ (by omega)).2]
  exact q2 h1 k hk
theorem m_addVertex (hV : VS S) (hI : IM S T D μ) : Ctr l ω M_X7_addVertex [.ref 29] μ (fun v μ' => v = some (.int (A_addV S)) ∧ IM (N_addV S) T D μ' ∧ fC μ μ') := by
  obtain ⟨hR, hR7, hDM⟩ := id hI
  have h48 := hV.1
  refine Ct_X7_addVertex ?_
  rw [hR.1, nI_eq (by omega) (by decide)]
  refine ⟨fun g => ex_q (c_addCell hR.1 (by omega)) (fun v μ1 hq => ?_), fun g => ?_⟩
  · obtain ⟨rfl, rfl⟩ := hq
    have hlt : sn S < 48 := by omega
    have hout : ∀ q k, q ≠ 30 → ¬ (q = 29 ∧ k = 0) → ss_i (acM μ (sn S) (nI 0)) q k = ss_i μ q k := by
      intro q k h1 h2
      unfold acM
      rw [ri_wi, if_neg h2, ri_wi, if_neg (fun r => h1 r.1)]
    have h30 : ∀ k, ss_i (acM μ (sn S) (nI 0)) 30 k = if k = sn S then nI 0 else ss_i μ 30 k := by
      intro k
      unfold acM
      rw [ri_wi, if_neg (by omega), ri_wi]
      simp only [true_and]
    refine Tr_X7_addVertex_19 ⟨by unfold A_addV; rw [if_pos hlt], ?_, ⟨fun q k hq => hout q k (by omega) (by omega), rfl⟩⟩
    unfold N_addV
    rw [if_pos hlt]
    refine ⟨RM_app hR (by unfold acM; rw [ri_wi, if_pos ⟨rfl, rfl⟩]) (by rw [h30, if_pos rfl]) (fun c hc => by rw [h30, if_neg (by omega)]) (fun h => by omega) (fun k hk => ⟨hout _ _ (by decide) (by omega), hout _ _ (by decide) (by omega)⟩) (fun c hc => (hV.2 c hc).1), RM48 hR7 (hout _ _ (by decide) (by omega)) (fun k hk => by rw [h30, if_neg (by omega)]) (fun k hk => ⟨hout _ _ (by decide) (by omega), hout _ _ (by decide) (by omega)⟩), DM_same hDM (hout _ _ (by decide) (by omega)) (hout _ _ (by decide) (by omega)) (fun q k hq => hout _ _ (by omega) (by omega))⟩
  · have hlt : ¬ sn S < 48 := by omega
    exact Tr_X7_addVertex_19 ⟨by unfold A_addV; rw [if_neg hlt], by unfold N_addV; rw [if_neg hlt]; exact hI, fC_rf⟩
theorem m_beginCell (hI : IM S T D μ) (a : Int32) : Ctr l ω M_X7_beginCell [.ref 29, .int a] μ (fun v μ' => v = some (.int (A_beg a)) ∧ IM S T (N_beg D a) μ' ∧ fC μ μ') := by
  obtain ⟨hR, hR7, hDM⟩ := id hI
  refine Ct_X7_beginCell ?_
  rcases rng_c (lo := 1) (hi := 4) (by decide) (by decide) a with ⟨d, hd1, hd, rfl⟩ | h | h
  · have g : ¬ nI d < nI 1 := nI_nlt hd1 (by omega)
    have g2 : nI d ≤ nI 4 := nI_le hd (by omega)
    rw [in_t (by decide) hd1 hd]
    have hout : ∀ q k, ¬ (q = 29 ∧ (k = 5 ∨ k = 6)) → ss_i (ss_wi (ss_wi μ 29 5 (nI d)) 29 6 (nI 0)) q k = ss_i μ q k := by
      intro q k h
      rw [ri_wi, if_neg (by omega), ri_wi, if_neg (by omega)]
    refine ⟨fun _ => ⟨by unfold A_beg; rw [if_neg g, if_pos g2], ?_, ⟨fun q k hq => hout q k (by omega), rfl⟩⟩, fun q => absurd nI1_ne q⟩
    unfold N_beg
    rw [if_neg g, if_pos g2, cl_n (by omega)]
    refine ⟨RM_same hR (hout _ _ (by omega)) (fun q k a b => hout _ _ (by omega)), RM_same hR7 (hout _ _ (by omega)) (fun q k a b => hout _ _ (by omega)), ?_, fun h1 => ⟨?_, fun k hk hb => ?_⟩⟩
    · rw [ri_wi, if_neg (by omega), ri_wi, if_pos ⟨rfl, rfl⟩]
    · rw [ri_wi, if_pos ⟨rfl, rfl⟩]
    · exact absurd hb (by show ¬ bitN 0 k = 1; rw [bit_0]; decide)
  · rw [in_f (Or.inl h)]
    exact ⟨fun q => absurd nI0_eq q, fun _ => ⟨by unfold A_beg; rw [if_pos h], by unfold N_beg; rw [if_pos h]; exact hI, fC_rf⟩⟩
  · rw [in_f (Or.inr h)]
    have g2 : ¬ a ≤ nI 4 := Int32.not_le.mpr h
    refine ⟨fun q => absurd nI0_eq q, fun _ => ⟨?_, ?_, fC_rf⟩⟩
    · unfold A_beg; rw [if_neg g2]; split <;> rfl
    · have : N_beg D a = D := by unfold N_beg; rw [if_neg g2]; split <;> rfl
      rw [this]; exact hI
theorem beg_D {a : Int32} (hD : DV S D) : DV S (N_beg D a) := by
  unfold N_beg
  split
  · exact hD
  · rename_i g
    split
    · rename_i g2
      rcases rng_c (lo := 1) (hi := 4) (by decide) (by decide) a with ⟨d, hd1, hd, rfl⟩ | h | h
      · rw [cl_n (by omega)]
        exact ⟨hd, fun _ => ⟨Nat.two_pow_pos _, fun k hk hb => absurd hb (by show ¬ bitN 0 k = 1; rw [bit_0]; decide)⟩⟩
      · exact absurd h g
      · exact absurd g2 (Int32.not_le.mpr h)
    · exact hD
theorem m_setFace (hV : VS S) (hD : DV S D) (hI : IM S T D μ) (a1 a2 a3 : Int32) : Ctr l ω M_X7_setFace [.ref 29, .int a1, .int a2, .int a3] μ (fun v μ' => v = some (.int (A_setF S D a1 a2 a3)) ∧ IM S T (N_setF S D a1 a2 a3) μ' ∧ fC μ μ') := by
  obtain ⟨hR, hR7, hDM⟩ := id hI
  have h48 := hV.1
  have h4 := hD.1
  have key := setF_c hV hD a1 a2 a3
  have ref : ∀ r : Int32, A_setF S D a1 a2 a3 = r → ¬ r = nI 1 → some (Value.int r) = some (.int (A_setF S D a1 a2 a3)) ∧ IM S T (N_setF S D a1 a2 a3) μ ∧ fC μ μ := by
    intro r h1 h2
    refine ⟨by rw [h1], ?_, fC_rf⟩
    unfold N_setF
    rw [if_neg (by rw [h1]; exact h2)]
    exact hI
  refine Ct_X7_setFace ?_
  rw [hDM.1, hR.1]
  by_cases h0 : D.1 = 0
  · rw [h0]
    exact ⟨fun g => absurd nI0_eq g, fun _ => ref _ (by unfold A_setF; rw [if_pos h0]) (by decide)⟩
  refine ⟨fun _ => ?_, fun g => absurd (nI_ne0 (by omega) (by omega)) g⟩
  rcases rng_c (lo := 0) (hi := D.1) (by omega) (by omega) a1 with ⟨k, -, hk, rfl⟩ | h | h
  · have g1 : ¬ nI k < 0 := nI_pos (by omega)
    have g2 : nI k ≤ nI D.1 := nI_le hk (by omega)
    rw [in_t (by omega) (by omega) hk]
    refine ⟨fun _ => ?_, fun g => absurd nI1_ne g⟩
    rcases cell_c hV.1 a2 with ⟨x, hx, rfl⟩ | ⟨h, h'⟩
    · have hsd := (hV.2 x hx).1
      have g3 : ¬ iHasC (nI (sn S)) (nI x) = 0 := by rw [has_t hV.1 hx]; exact nI1_ne
      rw [not_t hV.1 hx, nI_sub1 (by omega), cl_n (n := x) (by omega), RM_d0 hR hx]
      refine ⟨fun _ => ⟨inb_n (n := 96) rfl (by omega) (by decide), ?_⟩, fun g => absurd nI0_eq g⟩
      rcases msk_c (k := D.1 - 1) (e := sd S x) (by omega) (by omega) a3 with ⟨m, m1, m2, rfl, m4, m5⟩ | ⟨m4, m5⟩
      · rw [m5]
        refine ⟨fun _ => ?_, fun g => absurd nI1_ne g⟩
        rcases key with ⟨k', x', m', h1, e1, hk', e2, hx', e3, hm', hpm, -, -, hA, hN⟩ | ⟨hA, -⟩
        · have hm64 := p2_lt (by omega) hm'
          have hm64' := p2_lt (by omega) m1
          obtain rfl : k = k' := (nI_eq (by omega) (by omega)).mp e1
          obtain rfl : x = x' := (nI_eq (by omega) (by omega)).mp e2
          obtain rfl : m = m' := (nI_eq (by omega) (by omega)).mp e3
          rw [cl_n (by omega), ri_wi, if_neg (by omega), ri_wi, if_neg (by omega)]
          obtain ⟨q1, q2⟩ := hDM.2 h1
          obtain ⟨r1, r2⟩ := hD.2 h1
          have hw : D.2.1 < 32 := Nat.lt_of_lt_of_le r1 (two_le (b := 5) (by omega))
          rw [q1, d_or D.2.1 hw k (by omega)]
          have hin : ∀ p, (p = 33 ∨ p = 34) → inb p 1 (nI k) = true := by rintro p (rfl | rfl) <;> exact inb_n (n := 5) rfl (by omega) (by decide)
          have hout : ∀ q j, ¬ (q = 29 ∧ j = 6) → ¬ (q = 33 ∧ j = k) → ¬ (q = 34 ∧ j = k) → ss_i (ss_wi (ss_wi (ss_wi μ 33 k (nI x)) 34 k (nI m)) 29 6 (nI (orB D.2.1 k))) q j = ss_i μ q j := by
            intro q j a b c
            rw [ri_wi, if_neg a, ri_wi, if_neg c, ri_wi, if_neg b]
          refine ⟨hin _ (Or.inl rfl), hin _ (Or.inr rfl), by rw [hA], ?_, ⟨fun q j hq => hout q j (by omega) (by omega) (by omega), rfl⟩⟩
          rw [hN]
          refine ⟨RM_same hR (hout _ _ (by omega) (by omega) (by omega)) (fun q j a b => hout _ _ (by omega) (by omega) (by omega)), RM_same hR7 (hout _ _ (by omega) (by omega) (by omega)) (fun q j a b => hout _ _ (by omega) (by omega) (by omega)), by rw [hout _ _ (by omega) (by omega) (by omega)]; exact hDM.1, fun _ => ⟨by rw [ri_wi, if_pos ⟨rfl, rfl⟩], fun j hj hb => ?_⟩⟩
          have hj : j ≤ D.1 := hj
          have hb : bitN (orB D.2.1 k) j = 1 := hb
          show ss_i _ 33 j = nI (if j = k then x else D.2.2.1 j) ∧ ss_i _ 34 j = nI (if j = k then m else D.2.2.2 j)
          by_cases hjk : j = k
          · subst hjk
            rw [if_pos rfl, if_pos rfl]
            refine ⟨?_, ?_⟩
            · rw [ri_wi, if_neg (by omega), ri_wi, if_neg (by omega), ri_wi, if_pos ⟨rfl, rfl⟩]
            · rw [ri_wi, if_neg (by omega), ri_wi, if_pos ⟨rfl, rfl⟩]
          · rw [if_neg hjk, if_neg hjk, hout _ _ (by omega) (by omega) (by omega), hout _ _ (by omega) (by omega) (by omega)]
            exact q2 j hj (((bit_or _ _ _ hw (by omega) (by omega)).mp hb).resolve_left hjk)
        · exact absurd (by unfold A_setF; rw [if_neg h0, if_neg g1, if_pos g2, if_neg g3, cl_n (by omega), m4, if_neg nI1_ne]) hA
      · rw [m5]
        exact ⟨fun g => absurd nI0_eq g, fun _ => ref _ (by unfold A_setF; rw [if_neg h0, if_neg g1, if_pos g2, if_neg g3, cl_n (by omega), m4, if_pos nI0_eq]) (by decide)⟩
    · rw [h']
      exact ⟨fun g => absurd g nI1_ne, fun _ => ref _ (by unfold A_setF; rw [if_neg h0, if_neg g1, if_pos g2, h, if_pos nI0_eq]) (by decide)⟩
  · rw [in_f (Or.inl h)]
    exact ⟨fun g => absurd nI0_eq g, fun _ => ref _ (by unfold A_setF; rw [if_neg h0, if_pos (show a1 < 0 from h)]) (by decide)⟩
  · rw [in_f (Or.inr h)]
    refine ⟨fun g => absurd nI0_eq g, fun _ => ref _ ?_ (by decide)⟩
    unfold A_setF
    rw [if_neg h0, if_neg (Int32.not_le.mpr h : ¬ a1 ≤ nI D.1)]
    split <;> rfl
theorem m_clear (hI : IM S T D μ) : Ctr l ω M_X7_clear [.ref 29] μ (fun v μ' => v = some (.int (nI (sn S))) ∧ IM eS T eD μ' ∧ fC μ μ') := by
  obtain ⟨hR, hR7, hDM⟩ := id hI
  refine Ct_X7_clear ?_
  rw [hR.1]
  have hout : ∀ q k, ¬ (q = 29 ∧ (k = 0 ∨ k = 5)) → ss_i (ss_wi (ss_wi μ 29 0 (nI 0)) 29 5 (nI 0)) q k = ss_i μ q k := by
    intro q k h
    rw [ri_wi, if_neg (by omega), ri_wi, if_neg (by omega)]
  refine ⟨rfl, ⟨⟨?_, fun c hc => absurd hc (by show ¬ c < 0; omega)⟩, RM_same hR7 (hout _ _ (by omega)) (fun q k a b => hout _ _ (by omega)), ?_, fun q => absurd q (by show ¬ 1 ≤ (0 : Nat); omega)⟩, ⟨fun q k hq => hout q k (by omega), rfl⟩⟩
  · rw [ri_wi, if_neg (by omega), ri_wi, if_pos ⟨rfl, rfl⟩]; rfl
  · rw [ri_wi, if_pos ⟨rfl, rfl⟩]; rfl
end D7

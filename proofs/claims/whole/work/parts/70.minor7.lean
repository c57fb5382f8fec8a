/-! the reference's minor by a prime -/
def kN (μ μ' : Mm) : Prop := (∀ q k, q ≠ 38 → (q ≠ 29 ∨ (k ≠ 12 ∧ k ≠ 13)) → ss_i μ' q k = ss_i μ q k) ∧ μ'.2.2 = μ.2.2
theorem kN_rf {μ : Mm} : kN μ μ := ⟨fun _ _ _ _ => rfl, rfl⟩
theorem kN_tr {μ μ1 μ2 : Mm} (h : kN μ μ1) (g : kN μ1 μ2) : kN μ μ2 := ⟨fun q k a b => (g.1 q k a b).trans (h.1 q k a b), g.2.trans h.2⟩
theorem kN_wi {μ : Mm} {p k : Nat} {v : Int32} (hp : (p = 29 ∧ (k = 12 ∨ k = 13)) ∨ p = 38) : kN μ (ss_wi μ p k v) := ⟨fun q j _ _ => by rw [ri_wi, if_neg (by omega)], rfl⟩
theorem kN_L {p : Nat} {μ μ' : Mm} (h : kL p μ μ') : kN μ μ' := ⟨fun q k _ _ => kL_i h q k, h.2.1⟩
theorem kN_H {μ μ' : Mm} (h : kN μ μ') : kH μ μ' := ⟨fun q k a => h.1 q k (by omega) (by omega), h.2⟩
theorem par_d : ∀ j, j < 48 → ((nI (j + 1) - nI (j + 1) / nI 2 * nI 2 = nI 1) ↔ j % 2 = 0) := by decide +kernel
/-- one step of the determinant: the row j of the rows left has the pivot -/
theorem det_step {p : Int} {m j : Nat} {A B : MX} {f : Nat → Int} (hj : j < m + 1) (h1 : ∀ r c, r < m + 1 → r ≠ j → c < m + 1 → p ∣ B r c - (A r c - f r * A j c)) (h0 : ∀ r, r < m + 1 → r ≠ j → B r 0 = 0) : p ∣ det (m + 1) A - sg j * A j 0 * det m (fun r c => B (rmI j r) (c + 1)) := by
  have e1 := det_clr (A := A) hj (fun r => -f r)
  have e2 : det (m + 1) (fun r c => if r = j then A r c else B r c) = sg j * A j 0 * det m (fun r c => B (rmI j r) (c + 1)) := by
    rw [det_col1 (i := j) hj (fun r hr hne => by rw [if_neg hne]; exact h0 r hr hne), if_pos rfl]
    congr 1
    refine det_congr (fun r c _ _ => ?_)
    rw [if_neg (rm_ne j r)]
  rw [← e2, ← e1]
  refine det_mod (fun r c hr hc => ?_)
  by_cases hrj : r = j
  · rw [if_pos hrj, if_pos hrj]; exact ⟨0, by omega⟩
  · rw [if_neg hrj, if_neg hrj]
    obtain ⟨x, hx⟩ := h1 r c hr hrj hc
    exact ⟨-x, by
      have : B r c = A r c - f r * A j c + p * x := by omega
      rw [this]; grind⟩
section MB
variable {l : Launch} {ω : Wd} {μ : Mm} {s p : Nat} {M : MX} {π J : Nat → Nat}
abbrev QM (s p : Nat) (M : MX) (μ : Mm) : Option Value → Mm → Prop := fun v μ' => ∃ d : Nat, d < p ∧ (p : Int) ∣ d - det s M ∧ v = some (.long (lI d)) ∧ kN μ μ'
theorem c_minorBy (hp : prm p) (p31 : p < 2 ^ 31) (hs : s ≤ 48) (hπ : ∀ i, i < s → π i < 48 ∧ J i < 48) (hb : ∀ i, i < s → ss_i μ 39 i = nI (π i) ∧ ss_i μ 40 i = nI (J i)) (hM : ∀ i j, i < s → j < s → Int32.toInt64 (ss_i μ 36 (π i * 48 + J j)) = lI (M i j) ∧ -5 ≤ M i j ∧ M i j ≤ 5) : Ctr l ω M_X7_minorBy [.ref 29, .int (nI s), .long (lI p)] μ (QM s p M μ) := by
  have hp2 := hp.1
  have pz : decide (¬ lI (p : Int) = 0) = true := lI_n0 (by omega) (by omega)
  refine Ct_X7_minorBy ?_
  have main : ∀ μ0, kN μ μ0 → ss_i μ0 29 12 = nI s → ss_i μ0 29 13 = nI s → GR 37 48 s s (fun r c => M r c % p) μ0 → (∀ r, r < s → ss_i μ0 38 r = nI 0) → Good l ω M_X7_minorBy 95 [.ref 29, .int (nI s), .long (lI p), .null, .long (lI ((1 : Nat) : Int)), .null, .int (nI 0), .null, .null, .null] [] μ0 (QM s p M μ) := by
    intro μ0 z1 z2 z3 z4 z5
    refine upto1 (σ := Nat × Mm) (G := fun c q => Good l ω M_X7_minorBy 95 [.ref 29, .int (nI s), .long (lI p), .null, .long (lI (q.1 : Int)), .null, .int (nI c), .null, .null, .null] [] q.2 (QM s p M μ)) (I := fun c q => q.1 < p ∧ kN μ q.2 ∧ ss_i q.2 29 12 = nI s ∧ ss_i q.2 29 13 = nI s ∧ ∃ (W : MX) (U : Nat → Bool) (e : Nat → Nat), GR 37 48 s s W q.2 ∧ (∀ r c, r < s → c < s → 0 ≤ W r c ∧ W r c < p) ∧ (∀ r, r < s → (ss_i q.2 38 r = 0 ↔ U r = false)) ∧ (∀ a b, a < b → b < s - c → e a < e b) ∧ (∀ a, a < s - c → e a < s ∧ U (e a) = false) ∧ (∀ x, x < s → U x = false → ∃ a, a < s - c ∧ e a = x) ∧ (p : Int) ∣ q.1 * det (s - c) (fun r c' => W (e r) (c + c')) - det s M) s ?_ ?_ 0 (by omega) (1, μ0) ⟨by show 1 < p; omega, z1, z2, z3, fun r c => M r c % p, fun _ => false, fun r => r, z4, fun r c _ _ => ⟨Int.emod_nonneg _ (by omega), Int.emod_lt_of_pos _ (by omega)⟩, fun r hr => by rw [z5 r hr]; exact ⟨fun _ => rfl, fun _ => nI0_eq⟩, fun a b h _ => h, fun a ha => ⟨by omega, rfl⟩, fun x hx _ => ⟨x, by omega, rfl⟩, ?_⟩
    · intro ⟨d, μ1⟩ ⟨k1, k2, k3, k4, W, U, e, k5, k6, k7, k8, k9, k10, k11⟩
      dsimp only at k1 k2 k3 k4 k11 ⊢
      refine Tr_X7_minorBy_95 ⟨fun _ => ⟨d, k1, ?_, rfl, k2⟩, fun g => absurd (nI_le (Nat.le_refl _) (by omega)) g⟩
      rw [Nat.sub_self, det, Int.mul_one] at k11
      exact k11
    · intro c ⟨d, μ1⟩ hc ⟨k1, k2, k3, k4, W, U, e, k5, k6, k7, k8, k9, k10, k11⟩ ih
      dsimp only at k1 k2 k3 k4 k7 k11 ⊢
      obtain ⟨m, hm⟩ : ∃ m, s - c = m + 1 := ⟨s - c - 1, by omega⟩
      rw [hm] at k8 k9 k10 k11
      refine Tr_X7_minorBy_95 ⟨fun g => absurd g (nI_ge hc (by omega)), fun _ => ?_⟩
      -- a pivot
      have sme : ∀ j, j < m + 1 → W (e j) c ≠ 0 → Good l ω M_X7_minorBy 185 [.ref 29, .int (nI s), .long (lI p), .null, .long (lI (d : Int)), .null, .int (nI c), .int (nI (e j)), .int (nI (j + 1)), .null] [] μ1 (QM s p M μ) := by
        intro j hj hW
        obtain ⟨ej, uj⟩ := k9 j hj
        obtain ⟨b1, b2⟩ := k6 (e j) c ej hc
        obtain ⟨w, hw⟩ := Int.eq_ofNat_of_zero_le b1
        have wp : w < p := by omega
        let U' : Nat → Bool := fun x => if x = e j then true else U x
        have hu' : ∀ r, r < s → (ss_i (ss_wi μ1 38 (e j) (nI 1)) 38 r = 0 ↔ U' r = false) := by
          intro r hr
          rw [ri_wi]
          by_cases hrp : r = e j
          · rw [if_pos ⟨rfl, hrp⟩]
            have : U' r = true := if_pos hrp
            rw [this]
            exact ⟨fun q => absurd q nI1_ne, fun q => absurd q (by decide)⟩
          · rw [if_neg (fun q => hrp q.2)]
            have : U' r = U r := if_neg hrp
            rw [this]; exact k7 r hr
        have inj : ∀ a b, a < m + 1 → b < m + 1 → e a = e b → a = b := by
          intro a b ha hb h
          rcases Nat.lt_trichotomy a b with q | q | q
          · have := k8 a b q hb; omega
          · exact q
          · have := k8 b a q ha; omega
        have nu : ∀ r, r < m + 1 → r ≠ j → U' (e r) = false := by
          intro r hr hne
          show (if e r = e j then true else U (e r)) = false
          rw [if_neg (fun q => hne (inj r j hr hj q))]
          exact (k9 r hr).2
        have cont : ∀ d' : Nat, d' < p → (p : Int) ∣ d' - d * (sg j * w) → ∃ Q1, Ctr l ω M_X7_clearColumn [.ref 29, .int (nI (e j)), .int (nI c), .long (lI p)] (ss_wi μ1 38 (e j) (nI 1)) Q1 ∧ ∀ v μ2, Q1 v μ2 → Good l ω M_X7_minorBy 255 [.ref 29, .int (nI s), .long (lI p), .null, .long (lI (d' : Int)), .null, .int (nI c), .null, .null, .null] (v.toList ++ []) μ2 (QM s p M μ) := by
          intro d' hd' hdd
          refine ex_q (c_clearColumn (u := U') (F := W) hp p31 (by rw [ri_wi, if_neg (by omega)]; exact k3) (by rw [ri_wi, if_neg (by omega)]; exact k4) hs hs (fun r c h1 h2 => k5 r c h1 h2) k6 hu' ej (if_pos rfl) hc hW) (fun v μ2 hq => ?_)
          obtain ⟨rfl, a1, f, a2, a3⟩ := hq
          refine Tr_X7_minorBy_255 ?_
          rw [nI_add]
          have hsm : s - (c + 1) = m := by omega
          refine ih (d', μ2) ⟨hd', kN_tr k2 (kN_tr (kN_wi (by omega)) (kN_L a1)), by rw [kL_i a1, ri_wi, if_neg (by omega)]; exact k3, by rw [kL_i a1, ri_wi, if_neg (by omega)]; exact k4, _, U', fun r => e (rmI j r), a3, fun r c' h1 h2 => ?_, fun r hr => by rw [kL_i a1]; exact hu' r hr, fun a b hab hb' => ?_, fun a ha => ?_, fun x hx hux => ?_, ?_⟩
          · try dsimp only
            by_cases hq : U' r = false ∧ c ≤ c'
            · rw [if_pos hq]; exact ⟨Int.emod_nonneg _ (by omega), Int.emod_lt_of_pos _ (by omega)⟩
            · rw [if_neg hq]; exact k6 r c' h1 h2
          · rw [hsm] at hb'
            try dsimp only
            refine k8 _ _ ?_ (rm_lt hb')
            unfold rmI
            by_cases q1 : a < j
            · rw [if_pos q1]
              split <;> omega
            · rw [if_neg q1, if_neg (by omega)]; omega
          · rw [hsm] at ha
            exact ⟨(k9 _ (rm_lt ha)).1, nu _ (rm_lt ha) (rm_ne j a)⟩
          · rw [hsm]
            have hxj : x ≠ e j := fun q => by
              have : U' x = true := if_pos q
              rw [this] at hux; exact absurd hux (by decide)
            have : U' x = U x := if_neg hxj
            rw [this] at hux
            obtain ⟨a, ha1, ha2⟩ := k10 x hx hux
            have haj : a ≠ j := fun q => hxj (by rw [← ha2, q])
            refine ⟨if a < j then a else a - 1, by split <;> omega, ?_⟩
            try dsimp only
            rw [rm_inv haj]; exact ha2
          · rw [hsm]
            try dsimp only
            have st := det_step (p := (p : Int)) (m := m) (j := j) (A := fun r c' => W (e r) (c + c')) (B := fun r c' => (fun r c' => if U' r = false ∧ c ≤ c' then (W r c' - f r * W (e j) c') % p else W r c') (e r) (c + c')) (f := fun r => f (e r)) hj (fun r c' hr hne hc' => by
              show (p : Int) ∣ (if U' (e r) = false ∧ c ≤ c + c' then (W (e r) (c + c') - f (e r) * W (e j) (c + c')) % p else W (e r) (c + c')) - (W (e r) (c + c') - f (e r) * W (e j) (c + c'))
              rw [if_pos ⟨nu r hr hne, by omega⟩]
              exact em_d _ _) (fun r hr hne => by
              show (if U' (e r) = false ∧ c ≤ c + 0 then (W (e r) (c + 0) - f (e r) * W (e j) (c + 0)) % p else W (e r) (c + 0)) = 0
              rw [if_pos ⟨nu r hr hne, by omega⟩]
              exact Int.emod_eq_zero_of_dvd (a2 (e r) (k9 r hr).1 (nu r hr hne)))
            have ed : det m (fun r c' => (fun r c' => (fun r c' => if U' r = false ∧ c ≤ c' then (W r c' - f r * W (e j) c') % p else W r c') (e r) (c + c')) (rmI j r) (c' + 1)) = det m (fun r c' => if U' (e (rmI j r)) = false ∧ c ≤ c + 1 + c' then (W (e (rmI j r)) (c + 1 + c') - f (e (rmI j r)) * W (e j) (c + 1 + c')) % p else W (e (rmI j r)) (c + 1 + c')) := det_congr (fun r c' _ _ => by
              show (if U' (e (rmI j r)) = false ∧ c ≤ c + (c' + 1) then (W (e (rmI j r)) (c + (c' + 1)) - f (e (rmI j r)) * W (e j) (c + (c' + 1))) % p else W (e (rmI j r)) (c + (c' + 1))) = _
              rw [show c + (c' + 1) = c + 1 + c' by omega])
            rw [ed] at st
            generalize det m (fun r c' => if U' (e (rmI j r)) = false ∧ c ≤ c + 1 + c' then (W (e (rmI j r)) (c + 1 + c') - f (e (rmI j r)) * W (e j) (c + 1 + c')) % p else W (e (rmI j r)) (c + 1 + c')) = D' at st ⊢
            have st' : (p : Int) ∣ det (m + 1) (fun r c' => W (e r) (c + c')) - sg j * W (e j) c * D' := st
            rw [hw] at st'
            generalize det (m + 1) (fun r c' => W (e r) (c + c')) = DA at st' k11
            generalize det s M = DM' at k11 ⊢
            obtain ⟨x1, y1⟩ := st'
            obtain ⟨x2, y2⟩ := k11
            obtain ⟨x3, y3⟩ := hdd
            refine ⟨x3 * D' - d * x1 + x2, ?_⟩
            have q1 : DA = sg j * w * D' + p * x1 := by omega
            have q2 : DM' = d * DA - p * x2 := by omega
            have q3 : (d' : Int) = d * (sg j * w) + p * x3 := by omega
            rw [q2, q1, q3]
            grind
        refine Tr_X7_minorBy_185 ?_
        have wl : ∀ z : Nat, z ≤ 2 ^ 31 → d * z < 2 ^ 62 := fun z hz => Nat.lt_of_lt_of_le (Nat.mul_lt_mul_of_lt_of_le (show d < 2 ^ 31 by omega) hz (by decide)) (by decide)
        rw [nz1, cl_n (n := e j) (by omega), pk_mul, nI_add, Nat.mul_comm 48, cl_n (by omega), k5 (e j) c ej hc, hw, par_d j (by omega)]
        have i37 : inb 37 2 (nI (e j * 48 + c)) = true := inb_n (n := 2304) rfl (by omega) (by decide)
        have i38 : inb 38 3 (nI (e j)) = true := inb_n (n := 48) rfl (by omega) (by decide)
        refine ⟨fun _ => ⟨fun g => ⟨i37, pz, i38, ?_⟩, fun g => ⟨i37, pz, i38, ?_⟩⟩, fun g => absurd (nI_pos' (by omega)) g⟩
        · have sgj : sg j = -1 := by unfold sg; rw [if_neg g]
          have ev : lI (d : Int) * (lI (p : Int) - lI (w : Int)) - lI (d : Int) * (lI (p : Int) - lI (w : Int)) / lI (p : Int) * lI (p : Int) = lI ((d * (p - w) % p : Nat) : Int) := by
            have e0 : (p : Int) - w = ((p - w : Nat) : Int) := by omega
            have := wl (p - w) (by omega)
            rw [lI_sub, lI_mul, e0, ← Int.natCast_mul, lI_mod (by omega) (by omega) (by omega) (by omega), Int.natCast_emod]
          rw [ev]
          refine cont _ (Nat.mod_lt _ (by omega)) ?_
          obtain ⟨q, hq⟩ := nmod_c (d * (p - w)) p
          rw [Int.natCast_mul, show ((p - w : Nat) : Int) = (p : Int) - w by omega] at hq
          refine ⟨d - q, ?_⟩
          generalize ((d * (p - w) % p : Nat) : Int) = z at *
          have : z = d * (p - w) - p * q := by omega
          rw [this, sgj]; grind
        · have g' := Decidable.not_not.mp g
          have sgj : sg j = 1 := by unfold sg; rw [if_pos g']
          have ev : lI (d : Int) * lI (w : Int) - lI (d : Int) * lI (w : Int) / lI (p : Int) * lI (p : Int) = lI ((d * w % p : Nat) : Int) := by
            have := wl w (by omega)
            rw [lI_mul, ← Int.natCast_mul, lI_mod (by omega) (by omega) (by omega) (by omega), Int.natCast_emod]
          rw [ev]
          refine cont _ (Nat.mod_lt _ (by omega)) ?_
          obtain ⟨q, hq⟩ := nmod_c (d * w) p
          rw [Int.natCast_mul] at hq
          refine ⟨-q, ?_⟩
          generalize ((d * w % p : Nat) : Int) = z at *
          have : z = d * w - p * q := by omega
          rw [this, sgj]; grind
      -- none
      have nne : (∀ a, a < m + 1 → W (e a) c = 0) → QM s p M μ (some (.long (lN 0))) μ1 := by
        intro hz
        refine ⟨0, by omega, ?_, by rw [lN_I], k2⟩
        have : det (m + 1) (fun r c' => W (e r) (c + c')) = 0 := by
          rw [det_col1 (i := 0) (by omega) (fun r hr _ => hz r hr)]
          have : W (e 0) (c + 0) = 0 := hz 0 (by omega)
          rw [this, Int.mul_zero, Int.zero_mul]
        rw [this, Int.mul_zero] at k11
        exact k11
      -- the search
      have key : ∀ y x j, x + y = s → j ≤ m + 1 → (∀ a, a < j → e a < x ∧ W (e a) c = 0) → (∀ a, j ≤ a → a < m + 1 → x ≤ e a) → Good l ω M_X7_minorBy 111 [.ref 29, .int (nI s), .long (lI p), .null, .long (lI (d : Int)), .null, .int (nI c), .int (-109), .int (nI j), .int (nI x)] [] μ1 (QM s p M μ) := by
        intro y
        induction y with
        | zero =>
          intro x j hx hj h1 h2
          refine Tr_X7_minorBy_111 ⟨fun _ => Tr_X7_minorBy_185 ⟨fun g => absurd g (by decide), fun _ => nne (fun a ha => ?_)⟩, fun g => absurd (nI_le (by omega) (by omega)) g⟩
          rcases Nat.lt_or_ge a j with q | q
          · exact (h1 a q).2
          · have := h2 a q ha
            have := (k9 a ha).1
            omega
        | succ y ihy =>
          intro x j hx hj h1 h2
          have hxs : x < s := by omega
          refine Tr_X7_minorBy_111 ⟨fun g => absurd g (nI_ge hxs (by omega)), fun _ => ⟨fun g => absurd g (by decide), fun _ => ?_⟩⟩
          rw [cl_n (by omega), k7 x hxs]
          refine ⟨inb_n (n := 48) rfl (by omega) (by decide), fun g => ?_, fun g => ?_⟩
          · obtain ⟨a, ha1, ha2⟩ := k10 x hxs g
            have haj : a = j := by
              have q1 : j ≤ a := by
                rcases Nat.lt_or_ge a j with q | q
                · have := (h1 a q).1; omega
                · exact q
              rcases Nat.lt_or_ge j a with q | q
              · have := k8 j a q ha1
                have := h2 j (Nat.le_refl _) (by omega)
                omega
              · omega
            subst haj
            have bx := k6 x c hxs hc
            refine Tr_X7_minorBy_142 ?_
            rw [cl_n (by omega), k7 x hxs, pk_mul, nI_add, nI_add, nI_add, Nat.mul_comm 48, cl_n (by omega), k5 x c hxs hc, lN_I, cmp_0 (by omega) (by omega) (by decide) (by decide)]
            refine ⟨inb_n (n := 48) rfl (by omega) (by decide), fun q => absurd g q, fun _ => ⟨inb_n (n := 2304) rfl (by omega) (by decide), fun q => ?_, fun q => ?_⟩⟩
            · refine ihy (x + 1) (a + 1) (by omega) (by omega) (fun b hb => ?_) (fun b hb hb2 => ?_)
              · by_cases hba : b = a
                · rw [hba, ha2]; exact ⟨by omega, q⟩
                · have := h1 b (by omega); exact ⟨by omega, this.2⟩
              · have := k8 a b (by omega) hb2; omega
            · have nx := sme a ha1 (by rw [ha2]; exact q)
              rw [ha2] at nx
              exact Tr_X7_minorBy_111 ⟨fun _ => nx, fun _ => ⟨fun _ => nx, fun w => absurd (nI_pos' (by omega)) w⟩⟩
          · refine Tr_X7_minorBy_142 ?_
            rw [cl_n (by omega), k7 x hxs, nI_add, nI_add, Nat.add_zero]
            refine ⟨inb_n (n := 48) rfl (by omega) (by decide), fun _ => ihy (x + 1) j (by omega) hj (fun b hb => ?_) (fun b hb hb2 => ?_), fun q => absurd g q⟩
            · have := h1 b hb; exact ⟨by omega, this.2⟩
            · have q1 := h2 b hb hb2
              have q2 : e b ≠ x := fun q => g (by rw [← q]; exact (k9 b hb2).2)
              omega
      exact key s 0 0 (by omega) (by omega) (fun a ha => absurd ha (Nat.not_lt_zero a)) (fun a _ _ => Nat.zero_le _)
    · try dsimp only
      have : (p : Int) ∣ det s (fun r c => M r c % p) - det s M := det_mod (fun r c _ _ => em_d _ _)
      have e1 : det (s - 0) (fun r c' => M r (0 + c') % p) = det s (fun r c => M r c % p) := det_congr (fun r c _ _ => by rw [Nat.zero_add])
      rw [e1, show (((1 : Nat) : Int)) = 1 from rfl, Int.one_mul]
      exact this
  -- the copy
  refine upto1 (G := fun r μ1 => Good l ω M_X7_minorBy 3 [.ref 29, .int (nI s), .long (lI p), .null, .int (nI r), .null, .null, .null, .null, .null] [] μ1 (QM s p M μ)) (I := fun r μ1 => kN μ μ1 ∧ (∀ r' c, r' < r → c < s → ss_l μ1 37 (r' * 48 + c) = lI (M r' c % p)) ∧ ∀ r', r' < r → ss_i μ1 38 r' = nI 0) s ?_ ?_ 0 (by omega) μ ⟨kN_rf, fun r' c h => absurd h (Nat.not_lt_zero r'), fun r' h => absurd h (Nat.not_lt_zero r')⟩
  · intro μ1 ⟨k1, k2, k3⟩
    refine Tr_X7_minorBy_3 ⟨fun _ => ?_, fun g => absurd (nI_le (Nat.le_refl _) (by omega)) g⟩
    rw [lN_I]
    exact main _ (kN_tr k1 (kN_tr (kN_wi (by omega)) (kN_wi (by omega)))) (by rw [ri_wi, if_neg (by omega), ri_wi, if_pos ⟨rfl, rfl⟩]) (by rw [ri_wi, if_pos ⟨rfl, rfl⟩]) (fun r c h1 h2 => k2 r c h1 h2) (fun r hr => by rw [ri_wi, if_neg (by omega), ri_wi, if_neg (by omega)]; exact k3 r hr)
  · intro r μ1 hr ⟨k1, k2, k3⟩ ih
    refine Tr_X7_minorBy_3 ⟨fun g => absurd g (nI_ge hr (by omega)), fun _ => ?_⟩
    refine upto1 (G := fun i μ2 => Good l ω M_X7_minorBy 12 [.ref 29, .int (nI s), .long (lI p), .null, .int (nI r), .int (nI i), .null, .null, .null, .null] [] μ2 (QM s p M μ)) (I := fun i μ2 => kN μ μ2 ∧ (∀ r' c, (r' < r ∨ (r' = r ∧ c < i)) → c < s → ss_l μ2 37 (r' * 48 + c) = lI (M r' c % p)) ∧ ∀ r', r' < r → ss_i μ2 38 r' = nI 0) s ?_ ?_ 0 (by omega) μ1 ⟨k1, fun r' c h hc => k2 r' c (by omega) hc, k3⟩
    · intro μ2 ⟨j1, j2, j3⟩
      refine Tr_X7_minorBy_12 ⟨fun _ => ?_, fun g => absurd (nI_le (Nat.le_refl _) (by omega)) g⟩
      rw [nI_add, nz0, cl_n (by omega)]
      refine ⟨inb_n (n := 48) rfl (by omega) (by decide), ih _ ⟨kN_tr j1 (kN_wi (by omega)), fun r' c h hc => j2 r' c (by omega) hc, fun r' h => ?_⟩⟩
      rw [ri_wi]
      by_cases hrr : r' = r
      · rw [if_pos ⟨rfl, hrr⟩]
      · rw [if_neg (fun q => hrr q.2)]; exact j3 r' (by omega)
    · intro i μ2 hi ⟨j1, j2, j3⟩ ih2
      obtain ⟨m1, m2, m3⟩ := hM r i hr hi
      have p1 := hπ r hr
      have p2 := hπ i hi
      refine Tr_X7_minorBy_12 ⟨fun g => absurd g (nI_ge hi (by omega)), fun _ => ?_⟩
      rw [cl_n (n := r) (by omega), cl_n (n := i) (by omega), j1.1 39 r (by decide) (by omega), j1.1 40 i (by decide) (by omega), (hb r hr).1, (hb i hi).2, pk_mul, nI_add, pk_mul, nI_add, nI_add, Nat.mul_comm 48, Nat.mul_comm 48, cl_n (n := π r * 48 + J i) (by omega), cl_n (n := r * 48 + i) (by omega), j1.1 36 _ (by decide) (by omega), m1, lI_res (by omega) (by omega) (by omega) (by omega)]
      refine ⟨inb_n (n := 48) rfl (by omega) (by decide), inb_n (n := 48) rfl (by omega) (by decide), inb_n (n := 2304) rfl (by omega) (by decide), pz, inb_n (n := 2304) rfl (by omega) (by decide), ?_⟩
      refine ih2 _ ⟨kN_tr j1 (kN_L kL_wl), fun r' c h hc => ?_, j3⟩
      rw [rl_wl]
      by_cases hq : r' = r ∧ c = i
      · rw [if_pos ⟨rfl, by rw [hq.1, hq.2]⟩, hq.1, hq.2]
      · rw [if_neg (fun w => hq (idx_ne (C := 48) (by omega) (by omega) w.2))]
        exact j2 r' c (by omega) hc
end MB

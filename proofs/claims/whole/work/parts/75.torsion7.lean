/-! torsion: the reference -/
def kT (μ μ' : Mm) : Prop := (∀ q k, (q < 29 ∨ (30 ≤ q ∧ q ≤ 35) ∨ (q = 29 ∧ k < 12)) → ss_i μ' q k = ss_i μ q k) ∧ μ'.2.2 = μ.2.2
theorem kT_rf {μ : Mm} : kT μ μ := ⟨fun _ _ _ => rfl, rfl⟩
theorem kT_tr {μ μ1 μ2 : Mm} (h : kT μ μ1) (g : kT μ1 μ2) : kT μ μ2 := ⟨fun q k a => (g.1 q k a).trans (h.1 q k a), g.2.trans h.2⟩
theorem kT_H {μ μ' : Mm} (h : kH μ μ') : kT μ μ' := ⟨fun q k a => h.1 q k (by omega), h.2⟩
theorem kT_wi {μ : Mm} {k : Nat} {v : Int32} (hk : 12 ≤ k) : kT μ (ss_wi μ 29 k v) := ⟨fun q j hq => by rw [ri_wi, if_neg (by omega)], rfl⟩
theorem kT_wl {μ : Mm} {p k : Nat} {v : Int64} : kT μ (ss_wl μ p k v) := ⟨fun _ _ _ => rfl, rfl⟩
theorem kT_M {μ μ' : Mm} (h : kT μ μ') : kM μ μ' := ⟨fun q k a => h.1 q k (Or.inl a), h.2, fun k a => h.1 29 k (by omega), fun q k a b => h.1 q k (by omega)⟩
theorem RM_T {S : SS} {μ μ' : Mm} (hR : RM 0 0 S μ) (h : kT μ μ') : RM 0 0 S μ' := RM_same hR (h.1 29 0 (by omega)) (fun q k a b => h.1 q k (by omega))
theorem un_congr {f g : Nat → Nat} : ∀ {k : Nat}, (∀ i, i < k → f i = g i) → unN f k = unN g k
  | 0, _ => rfl
  | k + 1, h => by rw [unN, unN, un_congr (fun i hi => h i (by omega)), h k (by omega)]
theorem un_all {f : Nat → Nat} : ∀ {k : Nat}, (∀ i, i < k → f i = 1) → unN f k = k
  | 0, _ => rfl
  | k + 1, h => by rw [unN, un_all (fun i hi => h i (by omega)), if_pos (h k (by omega))]
theorem Phi_1 {k R C : Nat} {A : MX} : Phi ((1 : Nat) : Int) k R C A := ⟨fun _ _ => 0, fun _ _ => 0, fun r c _ _ => ⟨_, by rw [show ((1 : Nat) : Int) = 1 from rfl, Int.one_mul]⟩⟩
/-- the factor at a place of a matrix that is cleared so far -/
theorem fac_iff {d t R C F : Nat} {M W : MX} {G : Nat → Nat} (htR : t < R) (htC : t < C) (hE : EQ d R C M W) (hcl : ClE W t R C) (hi : isoE W t R C) (hb : ∀ i, i < R → i < C → 0 ≤ W i i) (hG : ∀ i, i < t → G i = Nat.gcd (W i i).toNat d ∧ G i ∣ F) (hF : F = Nat.gcd (W t t).toNat d) (hbl : ∀ r c, t < r → r < R → t < c → c < C → (F : Int) ∣ W r c) {t' : Nat} (ht' : t' ∣ d) : t' ∣ F ↔ Phi t' t R C M := by
  have td : (t' : Int) ∣ (d : Int) := Int.ofNat_dvd.mpr ht'
  rw [hE t' td t]
  constructor
  · intro q
    have qz : (t' : Int) ∣ (F : Int) := Int.ofNat_dvd.mpr q
    refine Phi_zer (w := fun i => W i i) (fun r c hr hc => ?_)
    by_cases h1 : r = c ∧ r < t
    · rw [if_pos h1, ← h1.1]; exact ⟨0, by omega⟩
    · rw [if_neg h1, Int.sub_zero]
      by_cases h2 : r < t ∨ c < t
      · rw [hcl r c hr hc (by omega) h2]; exact ⟨0, by omega⟩
      · by_cases h3 : r = t
        · by_cases h4 : c = t
          · rw [h3, h4, ← Int.toNat_of_nonneg (hb t htR htC)]
            refine Int.dvd_trans qz (Int.ofNat_dvd.mpr ?_)
            rw [hF]; exact Nat.gcd_dvd_left _ _
          · rw [h3, hi.2 c (by omega) hc]; exact ⟨0, by omega⟩
        · by_cases h4 : c = t
          · rw [h4, hi.1 r (by omega) hr]; exact ⟨0, by omega⟩
          · exact Int.dvd_trans qz (hbl r c (by omega) hr (by omega) hc)
  · intro q
    have key : ∀ i, i ≤ t → Nat.gcd (W i i).toNat d ∣ F := fun i hi => by
      by_cases h1 : i = t
      · rw [h1, hF]; exact Nat.dvd_refl _
      · have := hG i (by omega)
        rw [← this.1]; exact this.2
    have := Phi_fac (t := (t' : Int)) (F := (F : Int)) (w := fun i => W i i) htR htC q (fun r c h1 h2 => by
      unfold dgM
      by_cases hrc : r = c
      · rw [if_pos hrc, ← hrc]; exact ⟨0, by dsimp only; omega⟩
      · rw [if_neg hrc, hcl r c (by omega) (by omega) hrc (by omega)]; exact ⟨0, by omega⟩) (fun i hi => by
      obtain ⟨z, hz⟩ := key i hi
      obtain ⟨x, y, hxy⟩ := bez d (W i i).toNat
      rw [Int.toNat_of_nonneg (hb i (by omega) (by omega))] at hxy
      refine ⟨z * x, Int.dvd_trans td ⟨-(z * y), ?_⟩⟩
      rw [hz, Int.natCast_mul, ← hxy]; grind)
    exact Int.ofNat_dvd.mp this
section LT
variable {l : Launch} {ω : Wd} {μ : Mm} {S T : SS} {D : DD}
theorem RW_wi {R C m k : Nat} {W : MX} {v : Int32} (h : RW R C m W μ) (hk : k < 22) : RW R C m W (ss_wi μ 29 k v) := ⟨by rw [ri_wi, if_neg (by omega)]; exact h.1, by rw [ri_wi, if_neg (by omega)]; exact h.2.1, h.2.2.1, h.2.2.2.1, h.2.2.2.2⟩
theorem RW_wl {R C m k : Nat} {W : MX} {v : Int64} (h : RW R C m W μ) : RW R C m W (ss_wl μ 41 k v) := ⟨h.1, h.2.1, by rw [rl_wl, if_neg (by omega)]; exact h.2.2.1, fun r c hr hc => by rw [rl_wl, if_neg (by omega)]; exact h.2.2.2.1 r c hr hc, h.2.2.2.2⟩
abbrev QT (S : SS) (n : Nat) (μ : Mm) : Option Value → Mm → Prop := fun v μ' => v = none ∧ kT μ μ' ∧ rkN S n ≤ 24 ∧ ss_i μ' 29 21 = nI (tcN S n) ∧ ∀ j, j < tcN S n → ss_l μ' 41 j = lI (facN S n (unN (facN S n) (rkN S n) + j) : Nat)
theorem c_layTorsion {a : Nat} (hV : VS S) (hR : RM 0 0 S μ) (ha : a ≤ 4) : Ctr l ω M_X7_layTorsion [.ref 29, .int (nI a)] μ (QT S (a + 1) μ) := by
  refine Ct_X7_layTorsion ?_
  rw [nI_add]
  generalize hn : a + 1 = n
  refine ex_q (c_rankOf7 hV (RM_T hR (kT_wi (by decide))) (by omega)) (fun v μ1 hq => ?_)
  obtain ⟨rfl, a1, a2⟩ := hq
  have k1 : kT μ μ1 := kT_tr (kT_wi (by decide)) (kT_H a1)
  have e21 : ss_i μ1 29 21 = nI 0 := by rw [a1.1 29 21 (by omega), ri_wi, if_pos ⟨rfl, rfl⟩]
  have rk24 : rkN S n ≤ 24 := by
    by_cases h4 : n ≤ 4
    · exact (a2 (by omega) h4).1.1.1
    · rw [rkN_0 (by omega)]; omega
  refine Tr_X7_layTorsion_12 ?_
  rw [show nI (rkN S n) = 0 ↔ rkN S n = 0 by rw [i0]; exact nI_eq (by omega) (by decide)]
  refine ⟨fun g => ?_, fun g => ?_⟩
  · have h4 : n ≤ 4 := by
      rcases Nat.lt_or_ge n 5 with q | q
      · omega
      · exact absurd (rkN_0 (by omega)) g
    have h1 : 1 ≤ n := by omega
    obtain ⟨b1, b2, b3, b4, π, J, b5, b6, b7⟩ := a2 h1 h4
    have h48 := hV.1
    have hRC : nR S n + nC S n ≤ sn S := cnt_two S n h1 (sn S)
    have hr1 := b1.1.2.1
    have hr2 := b1.1.2.2
    have er : rr S n = nR S n := if_neg (by omega)
    have bd := bd_bound S (m := rkN S n) h1 h4 π J
    have b24 := pow_24 rk24
    have b3' : ss_i μ1 29 12 = nI (nR S n) := by rw [b3, er]
    have b4' : ss_i (ss_wi μ1 29 22 (ss_i μ1 29 12)) 29 13 = nI (nC S n) := by rw [ri_wi, if_neg (by omega)]; exact b4
    rw [b4', b3']
    refine ex_q (c_minorOf (M := fun i j => bdM S n (π i) (J j)) (π := π) (J := J) (by omega) (fun i hi => by have := b5 i hi; omega) (fun i hi => by rw [ri_wi, if_neg (by omega), ri_wi, if_neg (by omega), ri_wi, if_neg (by omega), ri_wi, if_neg (by omega)]; exact b6 i hi) (fun i j hi hj => by
      rw [ri_wi, if_neg (by omega), ri_wi, if_neg (by omega)]
      exact ⟨b2 (π i) (J j) (b5 i hi).1 (b5 j hj).2, bd_ab S h4 _ _⟩) (by omega)) (fun v μ2 hq => ?_)
    obtain ⟨rfl, c1⟩ := hq
    have d0 : 0 < (det (rkN S n) (fun i c => bdM S n (π i) (J c))).natAbs := Int.natAbs_pos.mpr b7
    obtain ⟨d, hd⟩ : ∃ d, (det (rkN S n) (fun i c => bdM S n (π i) (J c))).natAbs = d := ⟨_, rfl⟩
    rw [hd] at d0 bd
    refine Tr_X7_layTorsion_40 ⟨rfl, ?_⟩
    rw [hd]
    have dz : decide (¬ lI (d : Int) = 0) = true := lI_n0 d0 (by omega)
    have HWd : HW (nR S n) (nC S n) d := ⟨by omega, by omega, d0, by omega⟩
    have k2 : kT μ (ss_wl μ2 29 19 (lI d)) := kT_tr k1 (kT_tr (kT_wi (by decide)) (kT_tr (kT_wi (by decide)) (kT_tr (kT_H (kN_H c1)) kT_wl)))
    have i22 : ss_i (ss_wl μ2 29 19 (lI d)) 29 22 = nI (nR S n) := by rw [ri_wl, c1.1 29 22 (by decide) (by omega), ri_wi, if_neg (by omega), ri_wi, if_pos ⟨rfl, rfl⟩]
    have i23 : ss_i (ss_wl μ2 29 19 (lI d)) 29 23 = nI (nC S n) := by rw [ri_wl, c1.1 29 23 (by decide) (by omega), ri_wi, if_pos ⟨rfl, rfl⟩]
    have i21 : ss_i (ss_wl μ2 29 19 (lI d)) 29 21 = nI 0 := by rw [ri_wl, c1.1 29 21 (by decide) (by omega), ri_wi, if_neg (by omega), ri_wi, if_neg (by omega)]; exact e21
    have i36 : ∀ r c, r < nR S n → c < nC S n → Int32.toInt64 (ss_i (ss_wl μ2 29 19 (lI d)) 36 (r * 48 + c)) = lI (bdM S n r c) := fun r c hr hc => by rw [ri_wl, c1.1 36 _ (by decide) (by omega), ri_wi, if_neg (by omega), ri_wi, if_neg (by omega)]; exact b2 r c hr hc
    have l19 : ss_l (ss_wl μ2 29 19 (lI d)) 29 19 = lI d := by rw [rl_wl, if_pos ⟨rfl, rfl⟩]
    generalize ss_wl μ2 29 19 (lI d) = μ3 at k2 i22 i23 i21 i36 l19
    -- the factors
    have main : ∀ μ4, kL 37 μ3 μ4 → GR 37 48 (nR S n) (nC S n) (fun r c => bdM S n r c % d) μ4 → Good l ω M_X7_layTorsion 111 [.ref 29, .null, .int (nI (rkN S n)), .int (nI 0), .null, .null] [] μ4 (QT S n μ) := by
      intro μ4 z1 z2
      refine upto1 (G := fun t μ5 => Good l ω M_X7_layTorsion 111 [.ref 29, .null, .int (nI (rkN S n)), .int (nI t), .null, .null] [] μ5 (QT S n μ)) (I := fun t μ5 => kT μ μ5 ∧ ∃ (W : MX) (F : Nat → Nat), RW (nR S n) (nC S n) d W μ5 ∧ EQ d (nR S n) (nC S n) (bdM S n) W ∧ ClE W t (nR S n) (nC S n) ∧ (∀ i, i < t → F i ∣ d) ∧ (∀ i, i < t → F i = Nat.gcd (W i i).toNat d) ∧ (∀ i j, i < j → j < t → F i ∣ F j) ∧ (∀ i, i < t → BD (F i) W t (nR S n) (nC S n)) ∧ (∀ (t' i : Nat), i < t → t' ∣ d → (t' ∣ F i ↔ Phi t' i (nR S n) (nC S n) (bdM S n))) ∧ ss_i μ5 29 21 = nI (t - unN F t) ∧ ∀ j, j < t - unN F t → ss_l μ5 41 j = lI (F (unN F t + j) : Nat)) (rkN S n) ?_ ?_ 0 (by omega) μ4 ⟨kT_tr k2 (kT_H (kL_H z1)), fun r c => bdM S n r c % d, fun _ => 1, ⟨by rw [kL_i z1]; exact i22, by rw [kL_i z1]; exact i23, by rw [z1.2.2 29 19 (by decide)]; exact l19, z2, fun r c _ _ => ⟨Int.emod_nonneg _ (by omega), Int.emod_lt_of_pos _ (by omega)⟩⟩, EQ_sy (EQ_mod (fun r c _ _ => em_d _ _)), fun r c _ _ _ w => absurd w (by omega), fun i hi => absurd hi (Nat.not_lt_zero i), fun i hi => absurd hi (Nat.not_lt_zero i), fun i j _ hj => absurd hj (Nat.not_lt_zero j), fun i hi => absurd hi (Nat.not_lt_zero i), fun _ i hi => absurd hi (Nat.not_lt_zero i), by rw [kL_i z1]; exact i21, fun j hj => absurd hj (by show ¬ j < 0; omega)⟩
      · intro μ5 ⟨j1, W, F, j2, j3, j4, j5, j6, j7, j8, j9, j10, j11⟩
        have fac : isFac S n d F := ⟨d0, ⟨π, J, b5, hd⟩, j5, j7, j9⟩
        have eu : unN (facN S n) (rkN S n) = unN F (rkN S n) := un_congr (fun i hi => fac_is fac hi)
        have hle := un_le F (rkN S n)
        refine Tr_X7_layTorsion_111 ⟨fun _ => ⟨rfl, j1, rk24, ?_, fun j hj => ?_⟩, fun q => absurd (nI_le (Nat.le_refl _) (by omega)) q⟩
        · unfold tcN; rw [eu]; exact j10
        · unfold tcN at hj
          rw [eu] at hj ⊢
          rw [fac_is fac (by omega)]; exact j11 j hj
      · intro t μ5 ht ⟨j1, W, F, j2, j3, j4, j5, j6, j7, j8, j9, j10, j11⟩ ih
        have htR : t < nR S n := by omega
        have htC : t < nC S n := by omega
        have hle := un_le F t
        refine Tr_X7_layTorsion_111 ?_
        rw [j2.2.2.1, lN_I, cmp_le (by omega) (by omega) (by decide) (by decide)]
        refine ⟨fun q => absurd q (nI_ge ht (by omega)), fun _ => ⟨fun q => ?_, fun q => ?_⟩⟩
        · have d1 : d = 1 := by omega
          subst d1
          have fac : isFac S n 1 (fun _ => 1) := ⟨d0, ⟨π, J, b5, hd⟩, fun i _ => Nat.dvd_refl _, fun i j _ _ => Nat.dvd_refl _, fun t' i hi ht' => by
            rw [Nat.dvd_one.mp ht']
            exact ⟨fun _ => Phi_1, fun _ => Nat.dvd_refl _⟩⟩
          have eu : unN (facN S n) (rkN S n) = rkN S n := un_all (fun i hi => fac_is fac hi)
          have et : unN F t = t := un_all (fun i hi => Nat.dvd_one.mp (j5 i hi))
          have tc0 : tcN S n = 0 := by unfold tcN; rw [eu]; omega
          refine ⟨rfl, j1, rk24, ?_, fun j hj => ?_⟩
          · rw [tc0, j10, et, Nat.sub_self]
          · rw [tc0] at hj; omega
        · refine ex_q (c_factorAt HWd j2 htR htC j4) (fun v μ6 hq => ?_)
          obtain ⟨F', W', rfl, f1, f2, f3, f4, f5, f6, f7, f8⟩ := hq
          have hF'd : F' ∣ d := by rw [f7]; exact Nat.gcd_dvd_right _ _
          have hF'0 : 0 < F' := Nat.pos_of_dvd_of_pos hF'd d0
          have hF'l := Nat.le_of_dvd d0 hF'd
          have bdv : ∀ i, i < t → BD (F i) W' t (nR S n) (nC S n) := fun i hi => f4 _ (Int.ofNat_dvd.mpr (j5 i hi)) (j8 i hi)
          have hFF : ∀ i, i < t → F i ∣ F' := by
            intro i hi
            rw [f7]
            refine Nat.dvd_gcd ?_ (j5 i hi)
            have := bdv i hi t t (Nat.le_refl _) htR (Nat.le_refl _) htC
            rw [← Int.toNat_of_nonneg (RW_b f2 htR htC).1] at this
            exact Int.ofNat_dvd.mp this
          let F2 : Nat → Nat := fun i => if i = t then F' else F i
          have F2t : F2 t = F' := if_pos rfl
          have F2o : ∀ i, i < t → F2 i = F i := fun i hi => if_neg (by omega)
          have eW : ∀ i, i < t → W' i i = W i i := fun i hi => f5 i i (by omega) (by omega) (Or.inl hi)
          have cl' : ClE W' t (nR S n) (nC S n) := fun r c hr hc hne hw => by rw [f5 r c hr hc hw]; exact j4 r c hr hc hne hw
          have eq' := EQ_tr j3 f3
          have un2 : unN F2 t = unN F t := un_congr (fun i hi => F2o i hi)
          have rest : ∀ μ7, kT μ μ7 → RW (nR S n) (nC S n) d W' μ7 → ss_i μ7 29 21 = nI (t + 1 - unN F2 (t + 1)) → (∀ j, j < t + 1 - unN F2 (t + 1) → ss_l μ7 41 j = lI (F2 (unN F2 (t + 1) + j) : Nat)) → Good l ω M_X7_layTorsion 111 [.ref 29, .null, .int (nI (rkN S n)), .int (nI (t + 1)), .null, .null] [] μ7 (QT S n μ) := by
            intro μ7 y1 y2 y3 y4
            refine ih μ7 ⟨y1, W', F2, y2, eq', fun r c hr hc hne hw => ?_, fun i hi => ?_, fun i hi => ?_, fun i j hij hj => ?_, fun i hi => ?_, fun t' i hi ht' => ?_, y3, y4⟩
            · by_cases hw' : r < t ∨ c < t
              · exact cl' r c hr hc hne hw'
              · by_cases hrt : r = t
                · rw [hrt]; exact f6.2 c (by omega) hc
                · rw [show c = t by omega]; exact f6.1 r (by omega) hr
            · by_cases hit : i = t
              · rw [hit, F2t]; exact hF'd
              · rw [F2o i (by omega)]; exact j5 i (by omega)
            · by_cases hit : i = t
              · rw [hit, F2t]; exact f7
              · rw [F2o i (by omega), eW i (by omega)]; exact j6 i (by omega)
            · by_cases hjt : j = t
              · rw [hjt, F2t, F2o i (by omega)]; exact hFF i (by omega)
              · rw [F2o i (by omega), F2o j (by omega)]; exact j7 i j hij (by omega)
            · by_cases hit : i = t
              · rw [hit, F2t]; exact fun r c x1 x2 x3 x4 => f8 r c (by omega) x2 (by omega) x4
              · rw [F2o i (by omega)]; exact fun r c x1 x2 x3 x4 => bdv i (by omega) r c (by omega) x2 (by omega) x4
            · by_cases hit : i = t
              · rw [hit, F2t]
                exact fac_iff (G := F) htR htC eq' cl' f6 (fun i h1 h2 => (RW_b f2 h1 h2).1) (fun i hi => ⟨by rw [eW i hi]; exact j6 i hi, hFF i hi⟩) f7 f8 ht'
              · rw [F2o i (by omega)]; exact j9 t' i (by omega) ht'
          have e41 : ∀ j, ss_l μ6 41 j = ss_l μ5 41 j := fun j => f1.2.2 41 j (by decide)
          refine Tr_X7_layTorsion_130 ?_
          rw [lN_I, cmp_le (by omega) (by omega) (by decide) (by decide), kL_i f1, j10]
          refine ⟨fun w => ?_, fun w => ?_⟩
          · rw [nI_add]
            have hF1 : F' = 1 := by omega
            have et : unN F t = t := un_all (fun i hi => Nat.dvd_one.mp (by rw [← hF1]; exact hFF i hi))
            have eu : unN F2 (t + 1) = t + 1 := by rw [unN, un2, et, F2t, if_pos hF1]
            refine rest μ6 (kT_tr j1 (kT_H (kL_H f1))) f2 ?_ ?_
            · rw [eu, kL_i f1, j10, et, Nat.sub_self, Nat.sub_self]
            · intro j hj; rw [eu] at hj; omega
          · have eu : unN F2 (t + 1) = unN F t := by rw [unN, un2, F2t, if_neg (by omega)]; rfl
            have es : t + 1 - unN F2 (t + 1) = t - unN F t + 1 := by rw [eu]; omega
            rw [nI_add, cl_n (by omega), ri_wl, kL_i f1, j10, nI_add]
            refine ⟨inb_n (n := 48) rfl (by omega) (by decide), rest _ (kT_tr j1 (kT_tr (kT_H (kL_H f1)) (kT_tr kT_wl (kT_wi (by decide))))) (RW_wi (RW_wl f2) (by decide)) ?_ (fun j hj => ?_)⟩
            · rw [ri_wi, if_pos ⟨rfl, rfl⟩, es]
            · rw [rl_wi, rl_wl, eu]
              rw [es] at hj
              by_cases hjt : j = t - unN F t
              · rw [if_pos ⟨rfl, hjt⟩, show unN F t + j = t by omega, F2t]
              · rw [if_neg (fun q => hjt q.2), e41, F2o _ (by omega)]; exact j11 j (by omega)
    -- the copy
    refine upto1 (G := fun r μ4 => Good l ω M_X7_layTorsion 45 [.ref 29, .null, .int (nI (rkN S n)), .int (nI r), .null, .null] [] μ4 (QT S n μ)) (I := fun r μ4 => kL 37 μ3 μ4 ∧ ∀ r' c, r' < r → c < nC S n → ss_l μ4 37 (r' * 48 + c) = lI (bdM S n r' c % d)) (nR S n) ?_ ?_ 0 (by omega) μ3 ⟨kL_rf, fun r' c h => absurd h (Nat.not_lt_zero r')⟩
    · intro μ4 ⟨j1, j2⟩
      refine Tr_X7_layTorsion_45 ?_
      rw [kL_i j1, i22]
      exact ⟨fun _ => main μ4 j1 (fun r c h1 h2 => j2 r c h1 h2), fun q => absurd (nI_le (Nat.le_refl _) (by omega)) q⟩
    · intro r μ4 hr ⟨j1, j2⟩ ih
      refine Tr_X7_layTorsion_45 ?_
      rw [kL_i j1, i22]
      refine ⟨fun q => absurd q (nI_ge hr (by omega)), fun _ => ?_⟩
      refine upto1 (G := fun i μ5 => Good l ω M_X7_layTorsion 56 [.ref 29, .null, .int (nI (rkN S n)), .int (nI r), .int (nI i), .null] [] μ5 (QT S n μ)) (I := fun i μ5 => kL 37 μ3 μ5 ∧ ∀ r' c, (r' < r ∨ (r' = r ∧ c < i)) → c < nC S n → ss_l μ5 37 (r' * 48 + c) = lI (bdM S n r' c % d)) (nC S n) ?_ ?_ 0 (by omega) μ4 ⟨j1, fun r' c h hc => j2 r' c (by omega) hc⟩
      · intro μ5 ⟨y1, y2⟩
        refine Tr_X7_layTorsion_56 ?_
        rw [kL_i y1, i23, nI_add]
        exact ⟨fun _ => ih μ5 ⟨y1, fun r' c h hc => y2 r' c (by omega) hc⟩, fun q => absurd (nI_le (Nat.le_refl _) (by omega)) q⟩
      · intro i μ5 hi ⟨y1, y2⟩ ih2
        have m1 := i36 r i hr hi
        have m2 := bd_ab S h4 r i
        refine Tr_X7_layTorsion_56 ?_
        rw [kL_i y1, i23, pk_mul, nI_add, nI_add, nI_add, Nat.mul_comm 48, cl_n (by omega), kL_i y1, m1, y1.2.2 29 19 (by decide), l19, lI_res (by omega) (by omega) (by omega) (by omega)]
        refine ⟨fun q => absurd q (nI_ge hi (by omega)), fun _ => ⟨inb_n (n := 2304) rfl (by omega) (by decide), dz, inb_n (n := 2304) rfl (by omega) (by decide), ih2 _ ⟨kL_tr y1 kL_wl, fun r' c h hc => ?_⟩⟩⟩
        rw [rl_wl]
        by_cases hq : r' = r ∧ c = i
        · rw [if_pos ⟨rfl, by rw [hq.1, hq.2]⟩, hq.1, hq.2]
        · rw [if_neg (fun w => hq (idx_ne (C := 48) (by omega) (by omega) w.2))]
          exact y2 r' c (by omega) hc
  · have g' := Decidable.not_not.mp g
    have tc0 : tcN S n = 0 := by unfold tcN; rw [g']; exact Nat.zero_sub _
    exact ⟨rfl, k1, rk24, by rw [tc0]; exact e21, fun j hj => by rw [tc0] at hj; omega⟩
theorem m_torsionCount (hV : VS S) (hI : IM S T D μ) (a : Int32) : Ctr l ω M_X7_torsionCount [.ref 29, .int a] μ (fun v μ' => v = some (.int (A_tc S a)) ∧ kM μ μ') := by
  refine Ct_X7_torsionCount ?_
  rcases rng_c (lo := 0) (hi := 4) (by decide) (by decide) a with ⟨d, -, hd, rfl⟩ | h | h
  · rw [in_t (by decide) (by omega) hd]
    have eA : A_tc S (nI d) = nI (tcN S (d + 1)) := by unfold A_tc; rw [if_neg (nI_pos (by omega)), if_pos (nI_le hd (by decide)), cl_n (by omega)]
    rw [eA]
    refine ⟨fun _ => ex_q (c_layTorsion hV hI.1 hd) (fun v μ1 hq => ?_), fun g => absurd nI1_ne g⟩
    obtain ⟨rfl, k1, k2, k3, k4⟩ := hq
    refine Tr_X7_torsionCount_17 ?_
    rw [k3]
    exact ⟨rfl, kT_M k1⟩
  · rw [in_f (Or.inl h)]
    exact ⟨fun g => absurd nI0_eq g, fun _ => ⟨by unfold A_tc; rw [if_pos (show a < 0 from h)], kM_rf⟩⟩
  · rw [in_f (Or.inr h)]
    refine ⟨fun g => absurd nI0_eq g, fun _ => ⟨?_, kM_rf⟩⟩
    unfold A_tc
    rw [if_neg (Int32.not_le.mpr h : ¬ a ≤ nI 4)]
    split <;> rfl
theorem m_torsion (hV : VS S) (hI : IM S T D μ) (a b : Int32) : Ctr l ω M_X7_torsion [.ref 29, .int a, .int b] μ (fun v μ' => v = some (.long (A_to S a b)) ∧ kM μ μ') := by
  refine Ct_X7_torsion ?_
  rcases rng_c (lo := 0) (hi := 4) (by decide) (by decide) a with ⟨d, -, hd, rfl⟩ | h | h
  · rw [in_t (by decide) (by omega) hd]
    refine ⟨fun _ => ⟨fun g3 => ?_, fun g3 => ⟨by unfold A_to; rw [if_neg (nI_pos (by omega)), if_pos (nI_le hd (by decide)), if_neg g3], kM_rf⟩⟩, fun g => absurd nI1_ne g⟩
    have eA : A_to S (nI d) b = if nI (tcN S (d + 1)) ≤ b then -109 else lI (facN S (d + 1) (unN (facN S (d + 1)) (rkN S (d + 1)) + b.toNatClampNeg) : Nat) := by unfold A_to; rw [if_neg (nI_pos (by omega)), if_pos (nI_le hd (by decide)), if_pos g3, cl_n (by omega)]
    rw [eA]
    refine ex_q (c_layTorsion hV hI.1 hd) (fun v μ1 hq => ?_)
    obtain ⟨rfl, k1, k2, k3, k4⟩ := hq
    refine Tr_X7_torsion_26 ?_
    rw [k3]
    refine ⟨fun g4 => ⟨by rw [if_pos g4], kT_M k1⟩, fun g4 => ?_⟩
    rw [if_neg g4]
    have htc : tcN S (d + 1) ≤ rkN S (d + 1) := Nat.sub_le _ _
    obtain ⟨j, hj, rfl⟩ : ∃ j, j < tcN S (d + 1) ∧ b = nI j := by
      rcases pk_ix b (n := tcN S (d + 1)) (by omega) with q | q | ⟨j, q1, q2⟩
      · exact absurd q (Int32.not_lt.mpr g3)
      · exact absurd q g4
      · exact ⟨j, q1, q2⟩
    rw [cl_n (by omega), k4 j hj]
    exact ⟨inb_n (n := 48) rfl (by omega) (by decide), rfl, kT_M k1⟩
  · rw [in_f (Or.inl h)]
    exact ⟨fun g => absurd nI0_eq g, fun _ => ⟨by unfold A_to; rw [if_pos (show a < 0 from h)], kM_rf⟩⟩
  · rw [in_f (Or.inr h)]
    refine ⟨fun g => absurd nI0_eq g, fun _ => ⟨?_, kM_rf⟩⟩
    unfold A_to
    rw [if_neg (Int32.not_le.mpr h : ¬ a ≤ nI 4)]
    split <;> rfl
end LT

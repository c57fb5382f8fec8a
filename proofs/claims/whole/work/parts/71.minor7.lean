/-! the reference's minor: both primes -/
theorem crt_f {z : Nat} {x k : Int} (hb : z < 4611685975477714963) (hk : (z : Int) - x = 4611685975477714963 * k) (hx : x.natAbs ≤ 282429536481) : (z ≤ 2305842987738857481 → z = x.natAbs) ∧ (¬ z ≤ 2305842987738857481 → 4611685975477714963 - z = x.natAbs) := by
  have : k = 0 ∨ k = 1 := by omega
  rcases this with rfl | rfl
  · exact ⟨fun _ => by omega, fun g => by omega⟩
  · exact ⟨fun g => by omega, fun g => by omega⟩
theorem crt_1 {x : Int} {d1 tm : Nat} (e1 : ((2147483647 : Nat) : Int) ∣ d1 - x) : (2147483647 : Int) ∣ (d1 + 2147483647 * tm : Nat) - x := by
  obtain ⟨a, ha⟩ := e1
  exact ⟨a + tm, by omega⟩
theorem crt_2 {x : Int} {d1 d2 y tm : Nat} (e2 : ((2147483629 : Nat) : Int) ∣ d2 - x) (hy : ((2147483629 : Nat) : Int) ∣ y - (d2 - d1)) (e3 : ((2147483629 : Nat) : Int) ∣ y - tm * ((18 : Nat) : Int)) : (2147483629 : Int) ∣ (d1 + 2147483647 * tm : Nat) - x := by
  obtain ⟨a, ha⟩ := e2
  obtain ⟨b, hb⟩ := hy
  obtain ⟨c, hc⟩ := e3
  exact ⟨tm + a + b - c, by omega⟩
theorem crt_b {d1 tm q : Nat} (hq : q = 2147483629) (h1 : d1 < 2147483647) (ht : tm < q) : d1 + 2147483647 * tm < 4611685975477714963 := by omega
theorem crt {q : Nat} (hq : q = 2147483629) {x : Int} {d1 d2 y tm : Nat} (h1 : d1 < 2147483647) (e1 : ((2147483647 : Nat) : Int) ∣ d1 - x) (e2 : (q : Int) ∣ d2 - x) (hy : (q : Int) ∣ y - (d2 - d1)) (ht : tm < q) (e3 : (q : Int) ∣ y - tm * ((18 : Nat) : Int)) (hx : x.natAbs ≤ 282429536481) : (d1 + 2147483647 * tm ≤ 2305842987738857481 → d1 + 2147483647 * tm = x.natAbs) ∧ (¬ d1 + 2147483647 * tm ≤ 2305842987738857481 → 4611685975477714963 - (d1 + 2147483647 * tm) = x.natAbs) := by
  have hb := crt_b hq h1 ht
  subst hq
  have n1 := Int.natAbs_dvd_natAbs.mpr (crt_1 (tm := tm) e1)
  have n2 := Int.natAbs_dvd_natAbs.mpr (crt_2 e2 hy e3)
  have n3 := Nat.Coprime.mul_dvd_of_dvd_of_dvd (show Nat.Coprime (2147483647 : Int).natAbs (2147483629 : Int).natAbs by decide) n1 n2
  have n4 : (4611685975477714963 : Int) ∣ (d1 + 2147483647 * tm : Nat) - x := Int.natAbs_dvd_natAbs.mp n3
  obtain ⟨k, hk⟩ := n4
  exact crt_f hb hk hx
section MO
variable {l : Launch} {ω : Wd} {μ : Mm} {s : Nat} {M : MX} {π J : Nat → Nat}
theorem c_minorOf (hs : s ≤ 48) (hπ : ∀ i, i < s → π i < 48 ∧ J i < 48) (hb : ∀ i, i < s → ss_i μ 39 i = nI (π i) ∧ ss_i μ 40 i = nI (J i)) (hM : ∀ i j, i < s → j < s → Int32.toInt64 (ss_i μ 36 (π i * 48 + J j)) = lI (M i j) ∧ -5 ≤ M i j ∧ M i j ≤ 5) (hd : (det s M).natAbs ≤ 282429536481) : Ctr l ω M_X7_minorOf [.ref 29, .int (nI s)] μ (fun v μ' => v = some (.long (lI ((det s M).natAbs : Nat))) ∧ kN μ μ') := by
  refine Ct_X7_minorOf ?_
  rw [lN_I]
  refine ex_q (c_minorBy prm_a (by decide) hs hπ hb hM) (fun v μ1 hq => ?_)
  obtain ⟨d1, a1, a2, rfl, a3⟩ := hq
  refine Tr_X7_minorOf_8 ?_
  rw [lN_I]
  refine ex_q (c_minorBy prm_b (by decide) hs hπ (fun i hi => by rw [a3.1 39 i (by decide) (by omega), a3.1 40 i (by decide) (by omega)]; exact hb i hi) (fun i j hi hj => by rw [a3.1 36 _ (by decide) (by omega)]; exact hM i j hi hj)) (fun v μ2 hq => ?_)
  obtain ⟨d2, b1, b2, rfl, b3⟩ := hq
  obtain ⟨q, hq⟩ : ∃ q, q = 2147483629 := ⟨_, rfl⟩
  have hpq : prm q := by rw [hq]; exact prm_b
  rw [← hq] at b1 b2
  refine Tr_X7_minorOf_17 ?_
  rw [lN_I, lN_I, ← hq, lI_sub, lI_res (by omega) (by omega) (by omega) (by omega)]
  have inv := fun y => inv_dvd (x := 18) y hpq (by decide) (by omega)
  have civ : CtrL l ω M_X7_inverse [.long (lI ((18 : Nat) : Int)), .long (lI q)] μ2 (lI ((18 ^ (q - 2) % q : Nat) : Int)) := c_inverse hpq.1 (by omega) (by omega)
  have il := Nat.mod_lt (18 ^ (q - 2)) (show q > 0 by omega)
  generalize 18 ^ (q - 2) % q = iv at inv civ il
  refine ⟨lI_n0 (by omega) (by omega), ex_l civ (Tr_X7_minorOf_38 ?_)⟩
  have r0 := Int.emod_nonneg ((d2 : Int) - d1) (show (q : Int) ≠ 0 by omega)
  have r1 := Int.emod_lt_of_pos ((d2 : Int) - d1) (show (0 : Int) < q by omega)
  obtain ⟨y, hy⟩ := Int.eq_ofNat_of_zero_le r0
  have yl : y < q := by omega
  have hmul : y * iv < 2 ^ 62 := Nat.lt_of_lt_of_le (Nat.mul_lt_mul'' (show y < 2 ^ 31 by omega) (show iv < 2 ^ 31 by omega)) (by decide)
  have hty : (q : Int) ∣ (y : Int) - (d2 - d1) := by rw [← hy]; exact em_d _ _
  have htl := Nat.mod_lt (y * iv) (show q > 0 by omega)
  have e1 : lI (y : Int) * lI (iv : Int) - lI (y : Int) * lI (iv : Int) / lI (q : Int) * lI (q : Int) = lI ((y * iv % q : Nat) : Int) := by
    rw [lI_mul, ← Int.natCast_mul, lI_mod (by omega) (by omega) (by omega) (by omega), Int.natCast_emod]
  have i3 := inv y
  generalize y * iv % q = tm at htl e1 i3
  have e2 : lI (d1 : Int) + lI ((2147483647 : Nat) : Int) * lI (tm : Int) = lI ((d1 + 2147483647 * tm : Nat) : Int) := by
    rw [lI_mul, lI_add]; congr 1
  have cr := crt hq a1 a2 b2 hty htl i3 hd
  have zb := crt_b hq a1 htl
  clear a2 b2 hty i3 inv
  rw [hy, lN_I, lN_I, lN_I, lN_I, ← hq, e1, e2, cmp_le (by omega) (by omega) (by decide) (by decide)]
  refine ⟨fun g => ⟨?_, kN_tr a3 b3⟩, fun g => ⟨?_, kN_tr a3 b3⟩⟩
  · rw [cr.1 (by omega)]
  · rw [lI_sub, show ((4611685975477714963 : Nat) : Int) - ((d1 + 2147483647 * tm : Nat) : Int) = ((4611685975477714963 - (d1 + 2147483647 * tm) : Nat) : Int) by omega, cr.2 (by omega)]
end MO

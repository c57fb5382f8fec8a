section GDM
variable {l : Launch} {ω : Wd} {M : MD} {pc : Nat} {L st : List Value} {μ : Mm} {Q : Option Value → Mm → Prop}
theorem gd_mmax {idx : Nat} {x y : Int32} (hlink : Jvm.Cond.methodLink (RR M.2.2.2.2.1) idx M_J9_max_7cf53.1 ∈ gt) (hd : decode M.2.1 pc = .ok (.invokestatic idx, 3)) (hfr : 1 ≤ (rmM M).frames) (hlo : (st.map fun v => v.category).sum + 13 ≤ (rmM M).locals) (k : Good l ω M (pc + 3) L (.int (if x < y then y else x) :: st) μ Q) : Good l ω M pc L (.int y :: .int x :: st) μ Q := by
  intro p e s m args below meth c C H locs ls hP hS hl hL
  obtain ⟨hx, hb, hml, hr, hown, hts, hnw, hK, hlk, hap⟩ := id C
  exact va_mmax hx hb (by rw [hml]; exact hl.1.symm) hown (hts _ hlink) (hts _ (sS_0_41).2.2.2) (hts _ (mok_J9_max_7cf53).2.1) (hts _ (mok_J9_max_7cf53).1) hfr (by rw [st_cat]; exact hlo) (Nat.le_refl 0) (Nat.le_refl 0) hd (k p e s m args below meth c C H locs ls hP hS hl hL)
theorem gd_mmin {idx : Nat} {x y : Int32} (hlink : Jvm.Cond.methodLink (RR M.2.2.2.2.1) idx M_J9_min_7cf53.1 ∈ gt) (hd : decode M.2.1 pc = .ok (.invokestatic idx, 3)) (hfr : 1 ≤ (rmM M).frames) (hlo : (st.map fun v => v.category).sum + 13 ≤ (rmM M).locals) (k : Good l ω M (pc + 3) L (.int (if y < x then y else x) :: st) μ Q) : Good l ω M pc L (.int y :: .int x :: st) μ Q := by
  intro p e s m args below meth c C H locs ls hP hS hl hL
  obtain ⟨hx, hb, hml, hr, hown, hts, hnw, hK, hlk, hap⟩ := id C
  exact va_mmin hx hb (by rw [hml]; exact hl.1.symm) hown (hts _ hlink) (hts _ (sS_2_45).2.2.2) (hts _ (mok_J9_min_7cf53).2.1) (hts _ (mok_J9_min_7cf53).1) hfr (by rw [st_cat]; exact hlo) (Nat.le_refl 0) (Nat.le_refl 0) hd (k p e s m args below meth c C H locs ls hP hS hl hL)
theorem gd_mmaxl {idx : Nat} {x y : Int64} (hlink : Jvm.Cond.methodLink (RR M.2.2.2.2.1) idx M_J9_max_f86c9.1 ∈ gt) (hd : decode M.2.1 pc = .ok (.invokestatic idx, 3)) (hfr : 1 ≤ (rmM M).frames) (hlo : (st.map fun v => v.category).sum + 15 ≤ (rmM M).locals) (k : Good l ω M (pc + 3) L (.long (if y < x then x else y) :: st) μ Q) : Good l ω M pc L (.long y :: .long x :: st) μ Q := by
  intro p e s m args below meth c C H locs ls hP hS hl hL
  obtain ⟨hx, hb, hml, hr, hown, hts, hnw, hK, hlk, hap⟩ := id C
  exact va_mmax_long hx hb (by rw [hml]; exact hl.1.symm) hown (hts _ hlink) (hts _ (sS_5_23).2.2.2) (hts _ (mok_J9_max_f86c9).2.1) (hts _ (mok_J9_max_f86c9).1) hfr (by rw [st_cat]; exact hlo) (Nat.le_refl 0) (Nat.le_refl 0) hd (k p e s m args below meth c C H locs ls hP hS hl hL)
theorem gd_mminl {idx : Nat} {x y : Int64} (hlink : Jvm.Cond.methodLink (RR M.2.2.2.2.1) idx M_J9_min_f86c9.1 ∈ gt) (hd : decode M.2.1 pc = .ok (.invokestatic idx, 3)) (hfr : 1 ≤ (rmM M).frames) (hlo : (st.map fun v => v.category).sum + 15 ≤ (rmM M).locals) (k : Good l ω M (pc + 3) L (.long (if y < x then y else x) :: st) μ Q) : Good l ω M pc L (.long y :: .long x :: st) μ Q := by
  intro p e s m args below meth c C H locs ls hP hS hl hL
  obtain ⟨hx, hb, hml, hr, hown, hts, hnw, hK, hlk, hap⟩ := id C
  exact va_mmin_long hx hb (by rw [hml]; exact hl.1.symm) hown (hts _ hlink) (hts _ (sS_2_79).2.2.2) (hts _ (mok_J9_min_f86c9).2.1) (hts _ (mok_J9_min_f86c9).1) hfr (by rw [st_cat]; exact hlo) (Nat.le_refl 0) (Nat.le_refl 0) hd (k p e s m args below meth c C H locs ls hP hS hl hL)
end GDM

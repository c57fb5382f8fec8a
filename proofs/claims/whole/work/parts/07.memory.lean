section GWM
variable {ω : Wd} {M : MD} {p : Program} {l : Launch} {e : Env} {R : Room} {s : State} {m : MethodId} {args : Array Value} {below : List Frame} {meth : Method} {c : Code} {cells slots : Nat} {Z : State → Prop} {pc : Nat}
theorem fl_use {ow idx a b d : Nat} (h : flOk ow idx a b d = true) : flW (ow, idx, a, b) ∈ gt ∧ a < 8 ∧ b < NN.getD a 0 ∧ (fkL.getD a []).getD b 9 = d ∧ (fkL.getD a []).getD b 0 = d := by
  unfold flOk at h
  obtain ⟨h1, h2⟩ := b2 h
  have hm : (ow, idx, a, b) ∈ flT := List.contains_iff_mem.mp h1
  have h3 := flT_lt _ hm
  have h4 : (fkL.getD a []).getD b 9 = d := eq_of_beq h2
  have h5 : b < (fkL.getD a []).length := by rw [cl_len a h3.1]; exact h3.2
  refine ⟨flT_ok _ hm, h3.1, h3.2, h4, ?_⟩
  rw [← h4]
  generalize fkL.getD a [] = F at h5
  rw [List.getD_eq_getElem?_getD, List.getD_eq_getElem?_getD, List.getElem?_eq_getElem h5]
  rfl
theorem gw_Get (C : Cx ω M p s m args meth c) {idx a b d : Nat} {x : Sx} (hd : decode M.2.1 pc = .ok (.getfield idx, 3)) (hw : flOk M.2.2.2.2.1 idx a b d = true) (hf : (xGet a b d x).2.2.2 = true) (k : GW ω M p l e R s m args below meth c cells slots Z (pc + 3) (xGet a b d x).1 (xGet a b d x).2.1 (xGet a b d x).2.2.1) : GW ω M p l e R s m args below meth c cells slots Z pc x.1 x.2.1 x.2.2.1 := by
  obtain ⟨L, st, μ, f⟩ := x
  rcases st with _ | ⟨v, st⟩
  · exact absurd hf Bool.false_ne_true
  cases v <;> try exact absurd hf Bool.false_ne_true
  rename_i q
  obtain ⟨hx, hb, hml, hr, hown, hts, hnw, hK, hlk, hap⟩ := C
  obtain ⟨w1, w2, w3, w4, w5⟩ := fl_use hw
  have ho : shA q = (0, a) := of_decide_eq_true (f2 hf).2
  have hq := shA_lt ho (by decide)
  intro H locs ls hP hS hl hL
  have hkl : b < (fkL.getD a []).length := by rw [cl_len a w2]; exact w3
  refine va_get hx hb hts (cl_in a w2) hown hK hP q (fs := fsV ω μ q a) (by rw [cW_at hq, ceE_o ho]) (cl_at a w2) b w3 (hts _ w1) (fun _ h => h) (fsV_at hkl) hd ?_
  have e1 : fV ω μ q b ((fkL.getD a []).getD b 0) = tv ω (aV μ q b d) := by
    rw [w5]
    rcases d with _ | _ | d <;> rfl
  rw [e1]
  exact k H locs ls hP hS hl hL
theorem gw_Put (C : Cx ω M p s m args meth c) {idx a b d : Nat} {x : Sx} (hd : decode M.2.1 pc = .ok (.putfield idx, 3)) (hw : flOk M.2.2.2.2.1 idx a b d = true) (hfin : (TT a b).2.2.2 = false) (hf : (xPut a b d x).2.2.2 = true) (k : GW ω M p l e R s m args below meth c cells slots Z (pc + 3) (xPut a b d x).1 (xPut a b d x).2.1 (xPut a b d x).2.2.1) : GW ω M p l e R s m args below meth c cells slots Z pc x.1 x.2.1 x.2.2.1 := by
  obtain ⟨L, st, μ, f⟩ := x
  rcases st with _ | ⟨v, _ | ⟨w, st⟩⟩
  · exact absurd hf Bool.false_ne_true
  · cases v <;> exact absurd hf Bool.false_ne_true
  obtain ⟨hx, hb, hml, hr, hown, hts, hnw, hK, hlk, hap⟩ := C
  obtain ⟨w1, w2, w3, w4, w5⟩ := fl_use hw
  have hkl : b < (fkL.getD a []).length := by rw [cl_len a w2]; exact w3
  have kd := cl_kd a w2 b w3
  cases v <;> try exact absurd hf Bool.false_ne_true
  · cases w <;> try exact absurd hf Bool.false_ne_true
    rename_i v q
    obtain ⟨-, f1, f2⟩ := f3 hf
    have ho : shA q = (0, a) := of_decide_eq_true f1
    have hq := shA_lt ho (by decide)
    have hd0 : d = 0 := eq_of_beq f2
    subst hd0
    intro H locs ls hP hS hl hL
    refine va_put hx hb hts (cl_in a w2) (tyT a) (cl_ty a w2) (cl_nm a w2) hown hK hP (cW_D hap) hS q (fs := fsV ω μ q a) (by rw [cW_at hq, ceE_o ho]) (cl_at a w2) b w3 (hts _ w1) (fun _ h => h) hfin (ty := .int) (v := .int v) (by rw [cl_ty a w2 b w3, kd.1 w4]) rfl rfl (by rw [fsV_len]; exact hkl) hd (fun H1 locs1 hP1 hD1 hS1 => ?_)
    rw [cW_wi_o ho hkl w5] at hP1
    exact k H1 locs1 ls hP1 hS1 hl hL
  · cases w <;> try exact absurd hf Bool.false_ne_true
    rename_i v q
    obtain ⟨-, f1, f2⟩ := f3 hf
    have ho : shA q = (0, a) := of_decide_eq_true f1
    have hq := shA_lt ho (by decide)
    have hd0 : d = 1 := eq_of_beq f2
    subst hd0
    intro H locs ls hP hS hl hL
    refine va_put hx hb hts (cl_in a w2) (tyT a) (cl_ty a w2) (cl_nm a w2) hown hK hP (cW_D hap) hS q (fs := fsV ω μ q a) (by rw [cW_at hq, ceE_o ho]) (cl_at a w2) b w3 (hts _ w1) (fun _ h => h) hfin (ty := .long) (v := .long v) (by rw [cl_ty a w2 b w3, kd.2 w4]) rfl rfl (by rw [fsV_len]; exact hkl) hd (fun H1 locs1 hP1 hD1 hS1 => ?_)
    rw [cW_wl_o ho hkl w5] at hP1
    exact k H1 locs1 ls hP1 hS1 hl hL
  · cases w <;> try exact absurd hf Bool.false_ne_true
    rename_i v q
    obtain ⟨-, f1, f2, f3⟩ := f4 hf
    have hq0 : q = 0 := of_decide_eq_true f1
    have ha6 : a = 6 := eq_of_beq f2
    have hb2 : b < 2 := of_decide_eq_true f3
    subst hq0
    subst ha6
    intro H locs ls hP hS hl hL
    refine va_put hx hb hts (cl_in 6 w2) (tyT 6) (cl_ty 6 w2) (cl_nm 6 w2) hown hK hP (cW_D hap) hS 0 (fs := fsV ω μ 0 6) (by rw [cW_at (by decide), ceE_o (ci := 6) (by decide)]) (cl_at 6 w2) b w3 (hts _ w1) (fun _ h => h) hfin (ty := .object "SimplicialSet$Cells") (v := .ref (wa ω v)) (by rw [cl_ty 6 w2 b w3]; rcases (show b = 0 ∨ b = 1 by omega) with rfl | rfl <;> rfl) rfl rfl (by rw [fsV_len]; exact hkl) hd (fun H1 locs1 hP1 hD1 hS1 => ?_)
    rw [cW_wr_o hb2] at hP1
    exact k H1 locs1 ls hP1 hS1 hl hL
theorem inb_use {q t : Nat} {j : Int32} (h : inb q t j = true) : (shA q) = (t, (shA q).2) ∧ vp_in j (shA q).2 := by
  obtain ⟨h1, h2⟩ := b2 h
  have h3 := of_decide_eq_true h1
  exact ⟨by rw [← h3], (of_decide_eq_true h2 : ¬ (j < 0 ∨ (shA q).2 ≤ j.toNatClampNeg))⟩
theorem gw_Ial (C : Cx ω M p s m args meth c) {x : Sx} (hd : decode M.2.1 pc = .ok (.iaload, 1)) (hf : (xIal x).2.2.2 = true) (k : GW ω M p l e R s m args below meth c cells slots Z (pc + 1) (xIal x).1 (xIal x).2.1 (xIal x).2.2.1) : GW ω M p l e R s m args below meth c cells slots Z pc x.1 x.2.1 x.2.2.1 := by
  obtain ⟨L, st, μ, f⟩ := x
  rcases st with _ | ⟨v, _ | ⟨w, st⟩⟩
  · exact absurd hf Bool.false_ne_true
  · cases v <;> exact absurd hf Bool.false_ne_true
  cases v <;> try exact absurd hf Bool.false_ne_true
  cases w <;> try exact absurd hf Bool.false_ne_true
  rename_i j q
  obtain ⟨hx, hb, hml, hr, hown, hts, hnw, hK, hlk, hap⟩ := C
  obtain ⟨h1, h2⟩ := inb_use (f2 hf).2
  have hq := shA_lt h1 (by decide)
  intro H locs ls hP hS hl hL
  exact va_iald hx hb hK hP q 0 (by rw [cW_at hq, ceE_i h1] <;> rfl) rfl h2 hd (k H locs ls hP hS hl hL)
theorem gw_Zal (C : Cx ω M p s m args meth c) {x : Sx} (hd : decode M.2.1 pc = .ok (.baload, 1)) (hf : (xZal x).2.2.2 = true) (k : GW ω M p l e R s m args below meth c cells slots Z (pc + 1) (xZal x).1 (xZal x).2.1 (xZal x).2.2.1) : GW ω M p l e R s m args below meth c cells slots Z pc x.1 x.2.1 x.2.2.1 := by
  obtain ⟨L, st, μ, f⟩ := x
  rcases st with _ | ⟨v, _ | ⟨w, st⟩⟩
  · exact absurd hf Bool.false_ne_true
  · cases v <;> exact absurd hf Bool.false_ne_true
  cases v <;> try exact absurd hf Bool.false_ne_true
  cases w <;> try exact absurd hf Bool.false_ne_true
  rename_i j q
  obtain ⟨hx, hb, hml, hr, hown, hts, hnw, hK, hlk, hap⟩ := C
  obtain ⟨h1, h2⟩ := inb_use (f2 hf).2
  have hq := shA_lt h1 (by decide)
  intro H locs ls hP hS hl hL
  exact va_zald hx hb hK hP q 2 (by rw [cW_at hq, ceE_z h1] <;> rfl) rfl h2 hd (k H locs ls hP hS hl hL)
theorem gw_Lal (C : Cx ω M p s m args meth c) {x : Sx} (hd : decode M.2.1 pc = .ok (.laload, 1)) (hf : (xLal x).2.2.2 = true) (k : GW ω M p l e R s m args below meth c cells slots Z (pc + 1) (xLal x).1 (xLal x).2.1 (xLal x).2.2.1) : GW ω M p l e R s m args below meth c cells slots Z pc x.1 x.2.1 x.2.2.1 := by
  obtain ⟨L, st, μ, f⟩ := x
  rcases st with _ | ⟨v, _ | ⟨w, st⟩⟩
  · exact absurd hf Bool.false_ne_true
  · cases v <;> exact absurd hf Bool.false_ne_true
  cases v <;> try exact absurd hf Bool.false_ne_true
  cases w <;> try exact absurd hf Bool.false_ne_true
  rename_i j q
  obtain ⟨hx, hb, hml, hr, hown, hts, hnw, hK, hlk, hap⟩ := C
  obtain ⟨h1, h2⟩ := inb_use (f2 hf).2
  have hq := shA_lt h1 (by decide)
  intro H locs ls hP hS hl hL
  exact va_lald hx hb hK hP q 1 (by rw [cW_at hq, ceE_l h1] <;> rfl) rfl h2 hd (k H locs ls hP hS hl hL)
theorem gw_Ias (C : Cx ω M p s m args meth c) {x : Sx} (hd : decode M.2.1 pc = .ok (.iastore, 1)) (hf : (xIas x).2.2.2 = true) (k : GW ω M p l e R s m args below meth c cells slots Z (pc + 1) (xIas x).1 (xIas x).2.1 (xIas x).2.2.1) : GW ω M p l e R s m args below meth c cells slots Z pc x.1 x.2.1 x.2.2.1 := by
  obtain ⟨L, st, μ, f⟩ := x
  rcases st with _ | ⟨v, _ | ⟨w, _ | ⟨u, st⟩⟩⟩
  · exact absurd hf Bool.false_ne_true
  · cases v <;> exact absurd hf Bool.false_ne_true
  · cases v <;> first | exact absurd hf Bool.false_ne_true | (cases w <;> exact absurd hf Bool.false_ne_true)
  cases v <;> try exact absurd hf Bool.false_ne_true
  cases w <;> try exact absurd hf Bool.false_ne_true
  cases u <;> try exact absurd hf Bool.false_ne_true
  rename_i v j q
  obtain ⟨hx, hb, hml, hr, hown, hts, hnw, hK, hlk, hap⟩ := C
  obtain ⟨h1, h2⟩ := inb_use (f2 hf).2
  have hq := shA_lt h1 (by decide)
  intro H locs ls hP hS hl hL
  refine va_iast hx hb hK hP (cW_D hap) hS q 0 (by rw [cW_at hq, ceE_i h1] <;> rfl) rfl h2 hd (fun H1 locs1 hP1 hD1 hS1 => ?_)
  rw [cW_wi_a h1] at hP1
  exact k H1 locs1 ls hP1 hS1 hl hL
theorem gw_Zas (C : Cx ω M p s m args meth c) {x : Sx} (hd : decode M.2.1 pc = .ok (.bastore, 1)) (hf : (xZas x).2.2.2 = true) (k : GW ω M p l e R s m args below meth c cells slots Z (pc + 1) (xZas x).1 (xZas x).2.1 (xZas x).2.2.1) : GW ω M p l e R s m args below meth c cells slots Z pc x.1 x.2.1 x.2.2.1 := by
  obtain ⟨L, st, μ, f⟩ := x
  rcases st with _ | ⟨v, _ | ⟨w, _ | ⟨u, st⟩⟩⟩
  · exact absurd hf Bool.false_ne_true
  · cases v <;> exact absurd hf Bool.false_ne_true
  · cases v <;> first | exact absurd hf Bool.false_ne_true | (cases w <;> exact absurd hf Bool.false_ne_true)
  cases v <;> try exact absurd hf Bool.false_ne_true
  cases w <;> try exact absurd hf Bool.false_ne_true
  cases u <;> try exact absurd hf Bool.false_ne_true
  rename_i v j q
  obtain ⟨hx, hb, hml, hr, hown, hts, hnw, hK, hlk, hap⟩ := C
  obtain ⟨h1, h2⟩ := inb_use (f2 hf).2
  have hq := shA_lt h1 (by decide)
  intro H locs ls hP hS hl hL
  refine va_zast hx hb hK hP (cW_D hap) hS q 2 (by rw [cW_at hq, ceE_z h1] <;> rfl) rfl h2 hd (fun H1 locs1 hP1 hD1 hS1 => ?_)
  rw [cW_wi_z h1] at hP1
  exact k H1 locs1 ls hP1 hS1 hl hL
theorem gw_Las (C : Cx ω M p s m args meth c) {x : Sx} (hd : decode M.2.1 pc = .ok (.lastore, 1)) (hf : (xLas x).2.2.2 = true) (k : GW ω M p l e R s m args below meth c cells slots Z (pc + 1) (xLas x).1 (xLas x).2.1 (xLas x).2.2.1) : GW ω M p l e R s m args below meth c cells slots Z pc x.1 x.2.1 x.2.2.1 := by
  obtain ⟨L, st, μ, f⟩ := x
  rcases st with _ | ⟨v, _ | ⟨w, _ | ⟨u, st⟩⟩⟩
  · exact absurd hf Bool.false_ne_true
  · cases v <;> exact absurd hf Bool.false_ne_true
  · cases v <;> first | exact absurd hf Bool.false_ne_true | (cases w <;> exact absurd hf Bool.false_ne_true)
  cases v <;> try exact absurd hf Bool.false_ne_true
  cases w <;> try exact absurd hf Bool.false_ne_true
  cases u <;> try exact absurd hf Bool.false_ne_true
  rename_i v j q
  obtain ⟨hx, hb, hml, hr, hown, hts, hnw, hK, hlk, hap⟩ := C
  obtain ⟨h1, h2⟩ := inb_use (f2 hf).2
  have hq := shA_lt h1 (by decide)
  intro H locs ls hP hS hl hL
  refine va_last hx hb hK hP (cW_D hap) hS q 1 (by rw [cW_at hq, ceE_l h1] <;> rfl) rfl h2 hd (fun H1 locs1 hP1 hD1 hS1 => ?_)
  rw [cW_wl_a h1] at hP1
  exact k H1 locs1 ls hP1 hS1 hl hL
theorem gw_Len (C : Cx ω M p s m args meth c) {x : Sx} (hd : decode M.2.1 pc = .ok (.arraylength, 1)) (hf : (xLen x).2.2.2 = true) (k : GW ω M p l e R s m args below meth c cells slots Z (pc + 1) (xLen x).1 (xLen x).2.1 (xLen x).2.2.1) : GW ω M p l e R s m args below meth c cells slots Z pc x.1 x.2.1 x.2.2.1 := by
  obtain ⟨L, st, μ, f⟩ := x
  rcases st with _ | ⟨v, st⟩
  · exact absurd hf Bool.false_ne_true
  cases v <;> try exact absurd hf Bool.false_ne_true
  rename_i q
  obtain ⟨hx, hb, hml, hr, hown, hts, hnw, hK, hlk, hap⟩ := C
  have h0 := of_decide_eq_true (f2 hf).2
  have h1 : (shA q).1 = 1 ∨ (shA q).1 = 2 ∨ (shA q).1 = 3 := by omega
  intro H locs ls hP hS hl hL
  rcases h1 with h1 | h1 | h1
  · have h2 : shA q = (1, (shA q).2) := by rw [← h1]
    have hq := shA_lt h2 (by decide)
    exact va_alen (x := ((shA q).2, .inl (μ.1 q))) (v := Int32.ofNat (shA q).2) hx hb hK hP q 0 (by rw [cW_at hq, ceE_i h2] <;> rfl) (ty := .int) rfl rfl hd (k H locs ls hP hS hl hL)
  · have h2 : shA q = (2, (shA q).2) := by rw [← h1]
    have hq := shA_lt h2 (by decide)
    exact va_alen (x := ((shA q).2, .inr (.inl (μ.2.1 q)))) (v := Int32.ofNat (shA q).2) hx hb hK hP q 1 (by rw [cW_at hq, ceE_l h2] <;> rfl) (ty := .long) rfl rfl hd (k H locs ls hP hS hl hL)
  · have h2 : shA q = (3, (shA q).2) := by rw [← h1]
    have hq := shA_lt h2 (by decide)
    exact va_alen (x := ((shA q).2, .inl (μ.1 q))) (v := Int32.ofNat (shA q).2) hx hb hK hP q 2 (by rw [cW_at hq, ceE_z h2] <;> rfl) (ty := .boolean) rfl rfl hd (k H locs ls hP hS hl hL)
end GWM

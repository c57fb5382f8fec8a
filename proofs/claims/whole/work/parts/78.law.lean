/-! the claim out of one walk of the law: begun from the skeleton -/
def R_law : String := "SimplicialSetLaw"
def lw_P (b : Addr) (xs : List Int32) (args : Array Value) (s : State) : Prop := args = #[.ref b] ∧ s.IntsAt b xs ∧ xs.length ≤ 2560 ∧ (Jvm.Cond.and given_1 narrow_1).before args s = true
def lw_Q (_ : Array Value) (s : State) (o : Outcome) (t : State) : Prop := o = .returned (some (.int 1)) ∧ Framed s o t [] 51 10977
def lw_Z (below : List Frame) (a : Array Value) (s : State) : State → Prop := fun t => ∃ o, t.status = .running ∧ Ended t below o ∧ lw_Q a s o t
/-- the law's own end, with 1 on the stack, nothing written that was there before, its room as the claim has it -/
theorem lw_ret {p : Program} {l : Launch} {e : Env} {s : State} {m : MethodId} {below : List Frame} {meth : Method} {c : Code} {b : Nat} (hx : p.tables.exec = Jvm.exec) (hb : c.code = code) (hr : meth.sig.returnType = ret) (hlocks : meth.locks = false) {pc : Nat} {H : Heap} {ls : Array Slot} (hdg : decode code pc = .ok (.ireturn, 1)) : W p l e room_1 s m #[Value.ref b] below meth c H [] 51 10977 (lw_Z below #[Value.ref b] s) (F0 m pc ls [.int 1]) := by
  intro T hT X
  obtain ⟨fs, hret, hrun, hended, hW, hframe⟩ := X.leave (v := some (.int 1)) (hlocks := hlocks) (fun h => by rw [hr] at h; cases h)
  have hmeth' : T.vm.method? m = some meth := X.method'
  refine ⟨T.setFrames fs, ?_, .returned (some (.int 1)), hrun, hended, rfl, ⟨_, rfl⟩, hW, hframe⟩
  jvm_step X.here [X.here.top, hx, hb, hdg, hmeth', hr, ret, narrow_b1]
  (try refine ⟨rfl, ?_⟩); (try refine ⟨rfl, ?_⟩)
  first | (intro acts; rw [hret _ acts rfl rfl rfl]) | rw [hret _ _ rfl rfl rfl]
  exact Steps.refl _
/-- what holds at the law's entry: the machine, the code, the tables' words (any of lw_tbl by 'hts w (by decide +kernel)'), the script of L ints xs at the cell b, what the Statement gives of the start (any of its parts by flat_of_before) -/
def lw_At (p : Program) (s : State) (m : MethodId) (meth : Method) (c : Code) (b L : Nat) (xs : Nat → Int32) : Prop :=
  p.tables.exec = Jvm.exec ∧ c.code = code ∧ meth.sig.returnType = ret ∧ c.maxLocals = 4 ∧ s.vm.findClass R_law = some m.cls ∧ (∀ w ∈ lw_tbl, w.before #[Value.ref b] s = true) ∧ va_X b L xs s s.heap ∧ b < s.heap.size ∧ meth.locks = false ∧ (Jvm.Cond.and given_1 narrow_1).before #[Value.ref b] s = true
/-! pairs of calls -/
theorem addV_V {S : SS} (h : VS S) : VS (N_addV S) := by
  unfold N_addV
  by_cases hn : sn S < 48
  · rw [if_pos hn]; exact app_V h hn (by omega) (fun q => by omega)
  · rw [if_neg hn]; exact h
theorem addV_D {S : SS} {D : DD} (h : DV S D) : DV (N_addV S) D := by
  unfold N_addV
  by_cases hn : sn S < 48
  · rw [if_pos hn]
    refine ⟨h.1, fun q => ⟨(h.2 q).1, fun k hk hb => ?_⟩⟩
    obtain ⟨a, b, c⟩ := (h.2 q).2 k hk hb
    refine ⟨Nat.lt_succ_of_lt a, b, ?_⟩
    rw [c]
    show sd S (D.2.2.1 k) = if D.2.2.1 k = sn S then 0 else sd S (D.2.2.1 k)
    rw [if_neg (by omega)]
  · rw [if_neg hn]; exact h
def Jn (μ : Mm) : Prop := ∃ S T D, IV S T D ∧ IC S T D μ ∧ IM S T D μ
def PrI (l : Launch) (ω : Wd) (Mx My : MD) (as : List Value) (μ : Mm) : Prop := ∃ (r : Int32) (Q1 : Option Value → Mm → Prop), Ctr l ω Mx (.ref 0 :: as) μ Q1 ∧ ∀ v μ1, Q1 v μ1 → v = some (.int r) ∧ ∃ Q2 : Option Value → Mm → Prop, Ctr l ω My (.ref 29 :: as) μ1 Q2 ∧ ∀ v' μ2, Q2 v' μ2 → v' = some (.int r) ∧ Jn μ2
def PrL (l : Launch) (ω : Wd) (Mx My : MD) (as : List Value) (μ : Mm) : Prop := ∃ (r : Int64) (Q1 : Option Value → Mm → Prop), Ctr l ω Mx (.ref 0 :: as) μ Q1 ∧ ∀ v μ1, Q1 v μ1 → v = some (.long r) ∧ ∃ Q2 : Option Value → Mm → Prop, Ctr l ω My (.ref 29 :: as) μ1 Q2 ∧ ∀ v' μ2, Q2 v' μ2 → v' = some (.long r) ∧ Jn μ2
section PRS
variable {l : Launch} {ω : Wd} {μ : Mm} {Mx My : MD} {as : List Value} {S T S1 T1 : SS} {D D1 : DD}
theorem pr_k {r : Int32} (hV : IV S T D) (hC : IC S T D μ) (hM : IM S T D μ) (x : Ctr l ω Mx (.ref 0 :: as) μ (fun v μ' => v = some (.int r) ∧ kC μ μ')) (y : ∀ μ1, IM S T D μ1 → Ctr l ω My (.ref 29 :: as) μ1 (fun v μ' => v = some (.int r) ∧ kM μ1 μ')) : PrI l ω Mx My as μ :=
  ⟨r, _, x, fun v μ1 h => ⟨h.1, _, y μ1 (IM_f hM h.2.fM), fun v' μ2 g => ⟨g.1, S, T, D, hV, IC_f (IC_k hC h.2) g.2.fC, IM_k (IM_f hM h.2.fM) g.2⟩⟩⟩
theorem pr_l {r : Int64} (hV : IV S T D) (hC : IC S T D μ) (hM : IM S T D μ) (x : Ctr l ω Mx (.ref 0 :: as) μ (fun v μ' => v = some (.long r) ∧ kC μ μ')) (y : ∀ μ1, IM S T D μ1 → Ctr l ω My (.ref 29 :: as) μ1 (fun v μ' => v = some (.long r) ∧ kM μ1 μ')) : PrL l ω Mx My as μ :=
  ⟨r, _, x, fun v μ1 h => ⟨h.1, _, y μ1 (IM_f hM h.2.fM), fun v' μ2 g => ⟨g.1, S, T, D, hV, IC_f (IC_k hC h.2) g.2.fC, IM_k (IM_f hM h.2.fM) g.2⟩⟩⟩
theorem pr_n {r : Int32} (hM : IM S T D μ) (hV1 : IV S1 T1 D1) (x : Ctr l ω Mx (.ref 0 :: as) μ (fun v μ' => v = some (.int r) ∧ IC S1 T1 D1 μ' ∧ fM μ μ')) (y : ∀ μ1, IM S T D μ1 → Ctr l ω My (.ref 29 :: as) μ1 (fun v μ' => v = some (.int r) ∧ IM S1 T1 D1 μ' ∧ fC μ1 μ')) : PrI l ω Mx My as μ :=
  ⟨r, _, x, fun v μ1 h => ⟨h.1, _, y μ1 (IM_f hM h.2.2), fun v' μ2 g => ⟨g.1, S1, T1, D1, hV1, IC_f h.2.1 g.2.2, g.2.1⟩⟩⟩
theorem p2x {r : Int32} (h : CtrP l ω Mx as μ r) : Ctr l ω Mx as μ (fun v μ' => v = some (.int r) ∧ kC μ μ') := ctr_mono h (fun v μ' q => ⟨q.1, by rw [q.2]; exact kC_rf⟩)
theorem p2m {r : Int32} (h : CtrP l ω Mx as μ r) : Ctr l ω Mx as μ (fun v μ' => v = some (.int r) ∧ kM μ μ') := ctr_mono h (fun v μ' q => ⟨q.1, by rw [q.2]; exact kM_rf⟩)
end PRS
section PRC
variable {l : Launch} {ω : Wd} {μ : Mm}
theorem pr_addVertex (h : Jn μ) : PrI l ω M_X6_addVertex M_X7_addVertex [] μ := by
  obtain ⟨S, T, D, ⟨h1, h2, h3⟩, hC, hM⟩ := h
  exact pr_n (S1 := (N_addV S)) (T1 := T) (D1 := D) hM ⟨addV_V h1, h2, addV_D h3⟩ (x_addVertex h1 hC ) (fun μ1 hq => m_addVertex h1 hq )
theorem pr_beginCell (h : Jn μ) (a1 : Int32) : PrI l ω M_X6_beginCell M_X7_beginCell [.int a1] μ := by
  obtain ⟨S, T, D, ⟨h1, h2, h3⟩, hC, hM⟩ := h
  exact pr_n (S1 := S) (T1 := T) (D1 := (N_beg D a1)) hM ⟨h1, h2, beg_D h3⟩ (x_beginCell h1 hC a1) (fun μ1 hq => m_beginCell  hq a1)
theorem pr_setFace (h : Jn μ) (a1 a2 a3 : Int32) : PrI l ω M_X6_setFace M_X7_setFace [.int a1, .int a2, .int a3] μ := by
  obtain ⟨S, T, D, ⟨h1, h2, h3⟩, hC, hM⟩ := h
  exact pr_n (S1 := S) (T1 := T) (D1 := (N_setF S D a1 a2 a3)) hM ⟨h1, h2, setF_D h1 h3 a1 a2 a3⟩ (x_setFace h1 h3 hC a1 a2 a3) (fun μ1 hq => m_setFace h1 h3 hq a1 a2 a3)
theorem pr_endCell (h : Jn μ) : PrI l ω M_X6_endCell M_X7_endCell [] μ := by
  obtain ⟨S, T, D, ⟨h1, h2, h3⟩, hC, hM⟩ := h
  exact pr_n (S1 := (N_endS S D)) (T1 := T) (D1 := (N_endD S D)) hM ⟨(end_V h1 h3).1, h2, (end_V h1 h3).2⟩ (x_endCell h1 h3 hC ) (fun μ1 hq => m_endCell h1 h3 hq )
theorem pr_clear (h : Jn μ) : PrI l ω M_X6_clear M_X7_clear [] μ := by
  obtain ⟨S, T, D, ⟨h1, h2, h3⟩, hC, hM⟩ := h
  exact pr_n (S1 := eS) (T1 := T) (D1 := eD) hM ⟨eS_V, h2, eD_V⟩ (x_clear  hC ) (fun μ1 hq => m_clear  hq )
theorem pr_cellCount (h : Jn μ) (a1 : Int32) : PrI l ω M_X6_cellCount M_X7_cellCount [.int a1] μ := by
  obtain ⟨S, T, D, ⟨h1, h2, h3⟩, hC, hM⟩ := h
  exact pr_k ⟨h1, h2, h3⟩ hC hM (p2x (x_cellCount h1 hC a1)) (fun μ1 hq => p2m (m_cellCount h1 hq a1))
theorem pr_dimension (h : Jn μ) (a1 : Int32) : PrI l ω M_X6_dimension M_X7_dimension [.int a1] μ := by
  obtain ⟨S, T, D, ⟨h1, h2, h3⟩, hC, hM⟩ := h
  exact pr_k ⟨h1, h2, h3⟩ hC hM (p2x (x_dimension h1 hC a1)) (fun μ1 hq => p2m (m_dimension h1 hq a1))
theorem pr_faceCell (h : Jn μ) (a1 a2 a3 a4 : Int32) : PrI l ω M_X6_faceCell M_X7_faceCell [.int a1, .int a2, .int a3, .int a4] μ := by
  obtain ⟨S, T, D, ⟨h1, h2, h3⟩, hC, hM⟩ := h
  exact pr_k ⟨h1, h2, h3⟩ hC hM (p2x (x_faceCell h1 hC a1 a2 a3 a4)) (fun μ1 hq => m_faceCell h1 hq a1 a2 a3 a4)
theorem pr_faceMask (h : Jn μ) (a1 a2 a3 a4 : Int32) : PrI l ω M_X6_faceMask M_X7_faceMask [.int a1, .int a2, .int a3, .int a4] μ := by
  obtain ⟨S, T, D, ⟨h1, h2, h3⟩, hC, hM⟩ := h
  exact pr_k ⟨h1, h2, h3⟩ hC hM (p2x (x_faceMask h1 hC a1 a2 a3 a4)) (fun μ1 hq => m_faceMask h1 hq a1 a2 a3 a4)
theorem pr_degeneracyMask (h : Jn μ) (a1 a2 a3 a4 : Int32) : PrI l ω M_X6_degeneracyMask M_X7_degeneracyMask [.int a1, .int a2, .int a3, .int a4] μ := by
  obtain ⟨S, T, D, ⟨h1, h2, h3⟩, hC, hM⟩ := h
  exact pr_k ⟨h1, h2, h3⟩ hC hM (p2x (x_degeneracyMask h1 hC a1 a2 a3 a4)) (fun μ1 hq => p2m (m_degeneracyMask h1 hq a1 a2 a3 a4))
theorem pr_vertex (h : Jn μ) (a1 a2 a3 a4 : Int32) : PrI l ω M_X6_vertex M_X7_vertex [.int a1, .int a2, .int a3, .int a4] μ := by
  obtain ⟨S, T, D, ⟨h1, h2, h3⟩, hC, hM⟩ := h
  exact pr_k ⟨h1, h2, h3⟩ hC hM (p2x (x_vertex h1 hC a1 a2 a3 a4)) (fun μ1 hq => m_vertex h1 hq a1 a2 a3 a4)
theorem pr_simplexCount (h : Jn μ) (a1 : Int32) : PrI l ω M_X6_simplexCount M_X7_simplexCount [.int a1] μ := by
  obtain ⟨S, T, D, ⟨h1, h2, h3⟩, hC, hM⟩ := h
  exact pr_k ⟨h1, h2, h3⟩ hC hM (p2x (x_simplexCount h1 hC a1)) (fun μ1 hq => p2m (m_simplexCount h1 hq a1))
theorem pr_eulerCharacteristic (h : Jn μ) : PrI l ω M_X6_eulerCharacteristic M_X7_eulerCharacteristic [] μ := by
  obtain ⟨S, T, D, ⟨h1, h2, h3⟩, hC, hM⟩ := h
  exact pr_k ⟨h1, h2, h3⟩ hC hM (p2x (x_euler h1 hC )) (fun μ1 hq => p2m (m_euler h1 hq ))
theorem pr_partCount (h : Jn μ) : PrI l ω M_X6_partCount M_X7_partCount [] μ := by
  obtain ⟨S, T, D, ⟨h1, h2, h3⟩, hC, hM⟩ := h
  exact pr_k ⟨h1, h2, h3⟩ hC hM ((x_partCount h1 hC )) (fun μ1 hq => m_partCount h1 hq )
theorem pr_incidence (h : Jn μ) (a1 a2 : Int32) : PrI l ω M_X6_incidence M_X7_incidence [.int a1, .int a2] μ := by
  obtain ⟨S, T, D, ⟨h1, h2, h3⟩, hC, hM⟩ := h
  exact pr_k ⟨h1, h2, h3⟩ hC hM (p2x (x_incidence h1 hC a1 a2)) (fun μ1 hq => p2m (m_incidence h1 hq a1 a2))
theorem pr_betti (h : Jn μ) (a1 : Int32) : PrI l ω M_X6_betti M_X7_betti [.int a1] μ := by
  obtain ⟨S, T, D, ⟨h1, h2, h3⟩, hC, hM⟩ := h
  exact pr_k ⟨h1, h2, h3⟩ hC hM ((x_betti h1 hC a1)) (fun μ1 hq => m_betti h1 hq a1)
theorem pr_torsionCount (h : Jn μ) (a1 : Int32) : PrI l ω M_X6_torsionCount M_X7_torsionCount [.int a1] μ := by
  obtain ⟨S, T, D, ⟨h1, h2, h3⟩, hC, hM⟩ := h
  exact pr_k ⟨h1, h2, h3⟩ hC hM ((x_torsionCount h1 hC a1)) (fun μ1 hq => m_torsionCount h1 hq a1)
theorem pr_torsion (h : Jn μ) (a1 a2 : Int32) : PrL l ω M_X6_torsion M_X7_torsion [.int a1, .int a2] μ := by
  obtain ⟨S, T, D, ⟨h1, h2, h3⟩, hC, hM⟩ := h
  exact pr_l ⟨h1, h2, h3⟩ hC hM ((x_torsion h1 hC a1 a2)) (fun μ1 hq => m_torsion h1 hq a1 a2)
theorem pr_hornCount (h : Jn μ) (a1 : Int32) : PrI l ω M_X6_hornCount M_X7_hornCount [.int a1] μ := by
  obtain ⟨S, T, D, ⟨h1, h2, h3⟩, hC, hM⟩ := h
  exact pr_k ⟨h1, h2, h3⟩ hC hM ((x_hornCount h1 hC a1)) (fun μ1 hq => m_hornCount h1 hq a1)
theorem pr_unfilledCount (h : Jn μ) (a1 : Int32) : PrI l ω M_X6_unfilledCount M_X7_unfilledCount [.int a1] μ := by
  obtain ⟨S, T, D, ⟨h1, h2, h3⟩, hC, hM⟩ := h
  exact pr_k ⟨h1, h2, h3⟩ hC hM ((x_unfilledCount h1 hC a1)) (fun μ1 hq => m_unfilledCount h1 hq a1)
theorem pr_loadSimplex (h : Jn μ) (a1 : Int32) : PrI l ω M_X6_loadSimplex M_X7_loadSimplex [.int a1] μ := by
  obtain ⟨S, T, D, ⟨h1, h2, h3⟩, hC, hM⟩ := h
  exact pr_n (S1 := (N_smpS S a1)) (T1 := T) (D1 := (N_smpD D a1)) hM ⟨smp_N h1, h2, smp_D h3⟩ (x_loadSimplex  hC a1) (fun μ1 hq => m_loadSimplex  hq a1)
theorem pr_loadSphere (h : Jn μ) (a1 : Int32) : PrI l ω M_X6_loadSphere M_X7_loadSphere [.int a1] μ := by
  obtain ⟨S, T, D, ⟨h1, h2, h3⟩, hC, hM⟩ := h
  exact pr_n (S1 := (N_sphS S a1)) (T1 := T) (D1 := (N_sphD D a1)) hM ⟨sph_N h1, h2, sph_D h3⟩ (x_loadSphere  hC a1) (fun μ1 hq => m_loadSphere  hq a1)
theorem pr_save (h : Jn μ) : PrI l ω M_X6_save M_X7_save [] μ := by
  obtain ⟨S, T, D, ⟨h1, h2, h3⟩, hC, hM⟩ := h
  exact pr_n (S1 := S) (T1 := S) (D1 := D) hM ⟨h1, h1, h3⟩ (x_save h1 hC ) (fun μ1 hq => m_save h1 hq )
theorem pr_product (h : Jn μ) : PrI l ω M_X6_product M_X7_product [] μ := by
  obtain ⟨S, T, D, ⟨h1, h2, h3⟩, hC, hM⟩ := h
  exact pr_n (S1 := (N_prdS S T)) (T1 := T) (D1 := (N_prdD S T D)) hM ⟨prd_V h1 h2, h2, prd_D h3⟩ (x_product h1 h2 hC ) (fun μ1 hq => m_product h1 h2 hq )
end PRC
/-! the law's own steps -/
abbrev M_law : MD := (x, code, 4, ret, 11, 9, 348)
abbrev lawL (i : Nat) : List Value := [.ref 51, .ref 0, .ref 29, .int (nI i)]
def argl (xs : Nat → Int32) (i : Nat) : Nat → Nat → List Value
  | _, 0 => []
  | k, n + 1 => .int (xs (i + k + 1)) :: argl xs i (k + 1) n
def argOk (pc k : Nat) : Prop := decode code pc = .ok (.aload_n 0, 1) ∧ decode code (pc + 1) = .ok (.iload_n 3, 1) ∧ decode code (pc + 2) = .ok (.iconst (((k + 1 : Nat) : Int)), 1) ∧ decode code (pc + 3) = .ok (.iadd, 1) ∧ decode code (pc + 4) = .ok (.iaload, 1)
section LW
variable {l : Launch} {ω : Wd} {p : Program} {e : Env} {s : State} {m : MethodId} {below : List Frame} {meth : Method} {c : Code} {b L : Nat} {xs : Nat → Int32} {pc i : Nat} {st : List Value} {μ : Mm}
/-- the law's place of the script, and what its walk stands on -/
def CL (ω : Wd) (p : Program) (s : State) (m : MethodId) (meth : Method) (c : Code) (b L : Nat) (xs : Nat → Int32) : Prop := Cx ω M_law p s m #[Value.ref b] meth c ∧ va_X b L xs s s.heap ∧ b < s.heap.size ∧ ¬ wA ω b ∧ wa ω 51 = b ∧ (∀ q, wA ω q → s.heap.size ≤ q) ∧ L ≤ 2560
def GL (l : Launch) (ω : Wd) (p : Program) (e : Env) (s : State) (m : MethodId) (below : List Frame) (meth : Method) (c : Code) (b i pc : Nat) (st : List Value) (μ : Mm) : Prop := GW ω M_law p l e room_1 s m #[Value.ref b] below meth c 51 10977 (lw_Z below #[Value.ref b] s) pc (lawL i) st μ
theorem gl_ref (C : CL ω p s m meth c b L xs) {k : Fin 4} {q : Nat} (hk : (lawL i)[(k : Nat)]? = some (.ref q)) (d : decode code pc = .ok (.aload_n k, 1)) (k' : GL l ω p e s m below meth c b i (pc + 1) (.ref q :: st) μ) : GL l ω p e s m below meth c b i pc st μ := by
  intro H locs ls hP hS hl hL
  exact lv_aload_n C.1.1 C.1.2.1 d rfl (la_has hl hk rfl) (k' H locs ls hP hS hl hL)
theorem gl_arg (C : CL ω p s m meth c b L xs) {k : Nat} (hok : argOk pc k) (hk : i + k + 1 < L) (k' : GL l ω p e s m below meth c b i (pc + 5) (.int (xs (i + k + 1)) :: st) μ) : GL l ω p e s m below meth c b i pc st μ := by
  obtain ⟨d0, d1, d2, d3, d4⟩ := hok
  have hLb := C.2.2.2.2.2.2
  refine gl_ref C (k := 0) (q := 51) rfl d0 ?_
  intro H locs ls hP hS hl hL
  refine lv_iload_n C.1.1 C.1.2.1 d1 rfl (la_has hl (i := 3) (v := .int (nI i)) rfl rfl) ?_
  refine lv_iconst (v := nI (k + 1)) C.1.1 C.1.2.1 d2 rfl ?_
  refine lv_iadd C.1.1 C.1.2.1 d3 ?_
  have e51 : tv ω (.ref 51) = .ref b := by show Value.ref (wa ω 51) = _; rw [C.2.2.2.2.1]
  show W p l e room_1 s m #[Value.ref b] below meth c H locs 51 10977 (lw_Z below #[Value.ref b] s) (F0 m (pc + 1 + 1 + 1 + 1) ls (.int (nI i + nI (k + 1)) :: tv ω (.ref 51) :: st.map (tv ω)))
  rw [e51, nI_add]
  refine va_sld C.1.1 C.1.2.1 C.2.1 C.2.2.1 C.2.2.2.1 hS (vp_in_nI (show i + (k + 1) < L by omega) (by omega)) d4 ?_
  rw [cl_n (by omega)]
  exact k' H locs ls hP hS hl hL
theorem gl_args (C : CL ω p s m meth c b L xs) : ∀ (n k pc : Nat) (st : List Value), (∀ j, j < n → argOk (pc + 5 * j) (k + j)) → i + k + n < L → GL l ω p e s m below meth c b i (pc + 5 * n) ((argl xs i k n).reverse ++ st) μ → GL l ω p e s m below meth c b i pc st μ
  | 0, _, _, _, _, _, h => h
  | n + 1, k, pc, st, hok, hk, h => by
    refine gl_arg C (hok 0 (by omega)) (by omega) ?_
    refine gl_args C n (k + 1) (pc + 5) _ (fun j hj => ?_) (by omega) ?_
    · have := hok (j + 1) (by omega)
      rw [show pc + 5 + 5 * j = pc + 5 * (j + 1) by omega, show k + 1 + j = k + (j + 1) by omega]; exact this
    · rw [show pc + 5 + 5 * n = pc + 5 * (n + 1) by omega]
      rw [argl, List.reverse_cons, List.append_assoc] at h
      exact h
theorem argl_len : ∀ (n k : Nat), (argl xs i k n).length = n
  | 0, _ => rfl
  | n + 1, k => by rw [argl, List.length_cons, argl_len n (k + 1)]
def csOk (a n ix iy : Nat) : Prop := decode code a = .ok (.aload_n 1, 1) ∧ (∀ j, j < n → argOk (a + 1 + 5 * j) (0 + j)) ∧ decode code (a + 1 + 5 * n) = .ok (.invokevirtual ix, 3) ∧ decode code (a + 1 + 5 * n + 3) = .ok (.aload_n 2, 1) ∧ (∀ j, j < n → argOk (a + 1 + 5 * n + 3 + 1 + 5 * j) (0 + j)) ∧ decode code (a + 1 + 5 * n + 3 + 1 + 5 * n) = .ok (.invokevirtual iy, 3)
theorem gl_pair (C : CL ω p s m meth c b L xs) {a n ix iy : Nat} {Mx My : MD} {Q1 : Option Value → Mm → Prop} {r : Value} (hr : r.category ≤ 2) (hsx : StV 11 ix Mx n) (hsy : StV 11 iy My n) (hox : oCl 0 Mx.2.2.2.2.1 = true) (hoy : oCl 29 My.2.2.2.2.1 = true) (hRx : rmOk room_1 Mx [] = true) (hRy : decide (My.2.2.2.2.2.1 + 1 ≤ room_1.frames) = true) (hRy2 : decide (8 + (My.2.2.1 + 11) + My.2.2.2.2.2.2 ≤ room_1.locals) = true) (ok : csOk a n ix iy) (hi : i + n < L) (K1 : Ctr l ω Mx (.ref 0 :: argl xs i 0 n) μ Q1) (K2 : ∀ v μ1, Q1 v μ1 → v = some r ∧ ∃ Q2 : Option Value → Mm → Prop, Ctr l ω My (.ref 29 :: argl xs i 0 n) μ1 Q2 ∧ ∀ v' μ2, Q2 v' μ2 → v' = some r ∧ Jn μ2) (k' : ∀ μ2, Jn μ2 → GL l ω p e s m below meth c b i (a + 1 + 5 * n + 3 + 1 + 5 * n + 3) [r, r] μ2) : GL l ω p e s m below meth c b i a [] μ := by
  obtain ⟨d0, o1, d1, d2, o2, d3⟩ := ok
  refine gl_ref C (k := 1) (q := 0) rfl d0 ?_
  refine gl_args C n 0 (a + 1) _ o1 (by omega) ?_
  refine gw_callV C.1 ⟨Nat.le_refl _, Nat.le_refl _⟩ hsx d1 hox (argl_len n 0) hRx K1 (fun v μ1 hq => ?_)
  obtain ⟨rfl, Q2, K3, K4⟩ := K2 v μ1 hq
  refine gl_ref C (k := 2) (q := 29) rfl d2 ?_
  refine gl_args C n 0 (a + 1 + 5 * n + 3 + 1) _ o2 (by omega) ?_
  refine gw_callV C.1 ⟨Nat.le_refl _, Nat.le_refl _⟩ hsy d3 hoy (argl_len n 0) ?_ K3 (fun v μ2 hq => ?_)
  · unfold rmOk
    rw [hRy, hRy2]
    show (true && true && decide (([r].map fun v => v.category).sum ≤ 8)) = true
    simp
    omega
  · obtain ⟨rfl, hJ⟩ := K4 v μ2 hq
    exact k' μ2 hJ
theorem gl_int (C : CL ω p s m meth c b L xs) {a n ix iy : Nat} {off : Int} {Mx My : MD} (hsx : StV 11 ix Mx n) (hsy : StV 11 iy My n) (hox : oCl 0 Mx.2.2.2.2.1 = true) (hoy : oCl 29 My.2.2.2.2.1 = true) (hRx : rmOk room_1 Mx [] = true) (hRy : decide (My.2.2.2.2.2.1 + 1 ≤ room_1.frames) = true) (hRy2 : decide (8 + (My.2.2.1 + 11) + My.2.2.2.2.2.2 ≤ room_1.locals) = true) (ok : csOk a n ix iy) (d : decode code (a + 1 + 5 * n + 3 + 1 + 5 * n + 3) = .ok (.if_icmp .eq off, 3)) (ht : ((a + 1 + 5 * n + 3 + 1 + 5 * n + 3 : Nat) : Int) + off = ((787 : Nat) : Int)) (hi : i + n < L) (K : PrI l ω Mx My (argl xs i 0 n) μ) (k' : ∀ μ2, Jn μ2 → GL l ω p e s m below meth c b i 787 [] μ2) : GL l ω p e s m below meth c b i a [] μ := by
  obtain ⟨r, Q1, K1, K2⟩ := K
  refine gl_pair C (r := .int r) (Nat.le_of_ble_eq_true rfl) hsx hsy hox hoy hRx hRy hRy2 ok hi K1 K2 (fun μ2 hJ => ?_)
  exact gw_icmp C.1 d ht (fun _ => k' μ2 hJ) (fun h => absurd rfl h)
theorem gl_long (C : CL ω p s m meth c b L xs) {a n ix iy : Nat} {off : Int} {Mx My : MD} (hsx : StV 11 ix Mx n) (hsy : StV 11 iy My n) (hox : oCl 0 Mx.2.2.2.2.1 = true) (hoy : oCl 29 My.2.2.2.2.1 = true) (hRx : rmOk room_1 Mx [] = true) (hRy : decide (My.2.2.2.2.2.1 + 1 ≤ room_1.frames) = true) (hRy2 : decide (8 + (My.2.2.1 + 11) + My.2.2.2.2.2.2 ≤ room_1.locals) = true) (ok : csOk a n ix iy) (d : decode code (a + 1 + 5 * n + 3 + 1 + 5 * n + 3) = .ok (.lcmp, 1)) (d' : decode code (a + 1 + 5 * n + 3 + 1 + 5 * n + 3 + 1) = .ok (.ifCond .eq off, 3)) (ht : ((a + 1 + 5 * n + 3 + 1 + 5 * n + 3 + 1 : Nat) : Int) + off = ((787 : Nat) : Int)) (hi : i + n < L) (K : PrL l ω Mx My (argl xs i 0 n) μ) (k' : ∀ μ2, Jn μ2 → GL l ω p e s m below meth c b i 787 [] μ2) : GL l ω p e s m below meth c b i a [] μ := by
  obtain ⟨r, Q1, K1, K2⟩ := K
  refine gl_pair C (r := .long r) (Nat.le_of_ble_eq_true rfl) hsx hsy hox hoy hRx hRy hRy2 ok hi K1 K2 (fun μ2 hJ => ?_)
  have hz : lg_cmp r r = 0 := by unfold lg_cmp; simp
  have k2 : GL l ω p e s m below meth c b i (a + 1 + 5 * n + 3 + 1 + 5 * n + 3 + 1) [.int (lg_cmp r r)] μ2 := gw_if C.1 d' ht (fun _ => k' μ2 hJ) (fun h => absurd hz h)
  intro H locs ls hP hS hl hL
  exact W.lcmp C.1.1 C.1.2.1 d (k2 H locs ls hP hS hl hL)
end LW
theorem sl_X6_addVertex : StV 11 13 M_X6_addVertex 0 := ⟨mok_X6_addVertex, by decide +kernel, gt_at 229 (by decide +kernel) (by decide +kernel), gt_at 230 (by decide +kernel) (by decide +kernel), gt_at 231 (by decide +kernel) (by decide +kernel), by decide⟩
theorem sl_X7_addVertex : StV 11 17 M_X7_addVertex 0 := ⟨mok_X7_addVertex, by decide +kernel, gt_at 765 (by decide +kernel) (by decide +kernel), gt_at 766 (by decide +kernel) (by decide +kernel), gt_at 767 (by decide +kernel) (by decide +kernel), by decide⟩
theorem sl_X6_beginCell : StV 11 18 M_X6_beginCell 1 := ⟨mok_X6_beginCell, by decide +kernel, gt_at 240 (by decide +kernel) (by decide +kernel), gt_at 241 (by decide +kernel) (by decide +kernel), gt_at 242 (by decide +kernel) (by decide +kernel), by decide⟩
theorem sl_X7_beginCell : StV 11 22 M_X7_beginCell 1 := ⟨mok_X7_beginCell, by decide +kernel, gt_at 773 (by decide +kernel) (by decide +kernel), gt_at 774 (by decide +kernel) (by decide +kernel), gt_at 775 (by decide +kernel) (by decide +kernel), by decide⟩
theorem sl_X6_setFace : StV 11 23 M_X6_setFace 3 := ⟨mok_X6_setFace, by decide +kernel, gt_at 251 (by decide +kernel) (by decide +kernel), gt_at 252 (by decide +kernel) (by decide +kernel), gt_at 253 (by decide +kernel) (by decide +kernel), by decide⟩
theorem sl_X7_setFace : StV 11 27 M_X7_setFace 3 := ⟨mok_X7_setFace, by decide +kernel, gt_at 780 (by decide +kernel) (by decide +kernel), gt_at 781 (by decide +kernel) (by decide +kernel), gt_at 782 (by decide +kernel) (by decide +kernel), by decide⟩
theorem sl_X6_endCell : StV 11 28 M_X6_endCell 0 := ⟨mok_X6_endCell, by decide +kernel, gt_at 279 (by decide +kernel) (by decide +kernel), gt_at 280 (by decide +kernel) (by decide +kernel), gt_at 281 (by decide +kernel) (by decide +kernel), by decide⟩
theorem sl_X7_endCell : StV 11 31 M_X7_endCell 0 := ⟨mok_X7_endCell, by decide +kernel, gt_at 798 (by decide +kernel) (by decide +kernel), gt_at 799 (by decide +kernel) (by decide +kernel), gt_at 800 (by decide +kernel) (by decide +kernel), by decide⟩
theorem sl_X6_clear : StV 11 32 M_X6_clear 0 := ⟨mok_X6_clear, by decide +kernel, gt_at 327 (by decide +kernel) (by decide +kernel), gt_at 328 (by decide +kernel) (by decide +kernel), gt_at 329 (by decide +kernel) (by decide +kernel), by decide⟩
theorem sl_X7_clear : StV 11 35 M_X7_clear 0 := ⟨mok_X7_clear, by decide +kernel, gt_at 820 (by decide +kernel) (by decide +kernel), gt_at 821 (by decide +kernel) (by decide +kernel), gt_at 822 (by decide +kernel) (by decide +kernel), by decide⟩
theorem sl_X6_cellCount : StV 11 36 M_X6_cellCount 1 := ⟨mok_X6_cellCount, by decide +kernel, gt_at 335 (by decide +kernel) (by decide +kernel), gt_at 336 (by decide +kernel) (by decide +kernel), gt_at 337 (by decide +kernel) (by decide +kernel), by decide⟩
theorem sl_X7_cellCount : StV 11 39 M_X7_cellCount 1 := ⟨mok_X7_cellCount, by decide +kernel, gt_at 824 (by decide +kernel) (by decide +kernel), gt_at 825 (by decide +kernel) (by decide +kernel), gt_at 826 (by decide +kernel) (by decide +kernel), by decide⟩
theorem sl_X6_dimension : StV 11 40 M_X6_dimension 1 := ⟨mok_X6_dimension, by decide +kernel, gt_at 343 (by decide +kernel) (by decide +kernel), gt_at 344 (by decide +kernel) (by decide +kernel), gt_at 345 (by decide +kernel) (by decide +kernel), by decide⟩
theorem sl_X7_dimension : StV 11 43 M_X7_dimension 1 := ⟨mok_X7_dimension, by decide +kernel, gt_at 832 (by decide +kernel) (by decide +kernel), gt_at 833 (by decide +kernel) (by decide +kernel), gt_at 834 (by decide +kernel) (by decide +kernel), by decide⟩
theorem sl_X6_faceCell : StV 11 44 M_X6_faceCell 4 := ⟨mok_X6_faceCell, by decide +kernel, gt_at 347 (by decide +kernel) (by decide +kernel), gt_at 348 (by decide +kernel) (by decide +kernel), gt_at 349 (by decide +kernel) (by decide +kernel), by decide⟩
theorem sl_X7_faceCell : StV 11 48 M_X7_faceCell 4 := ⟨mok_X7_faceCell, by decide +kernel, gt_at 836 (by decide +kernel) (by decide +kernel), gt_at 837 (by decide +kernel) (by decide +kernel), gt_at 838 (by decide +kernel) (by decide +kernel), by decide⟩
theorem sl_X6_faceMask : StV 11 49 M_X6_faceMask 4 := ⟨mok_X6_faceMask, by decide +kernel, gt_at 357 (by decide +kernel) (by decide +kernel), gt_at 358 (by decide +kernel) (by decide +kernel), gt_at 359 (by decide +kernel) (by decide +kernel), by decide⟩
theorem sl_X7_faceMask : StV 11 52 M_X7_faceMask 4 := ⟨mok_X7_faceMask, by decide +kernel, gt_at 844 (by decide +kernel) (by decide +kernel), gt_at 845 (by decide +kernel) (by decide +kernel), gt_at 846 (by decide +kernel) (by decide +kernel), by decide⟩
theorem sl_X6_degeneracyMask : StV 11 53 M_X6_degeneracyMask 4 := ⟨mok_X6_degeneracyMask, by decide +kernel, gt_at 362 (by decide +kernel) (by decide +kernel), gt_at 363 (by decide +kernel) (by decide +kernel), gt_at 364 (by decide +kernel) (by decide +kernel), by decide⟩
theorem sl_X7_degeneracyMask : StV 11 56 M_X7_degeneracyMask 4 := ⟨mok_X7_degeneracyMask, by decide +kernel, gt_at 848 (by decide +kernel) (by decide +kernel), gt_at 849 (by decide +kernel) (by decide +kernel), gt_at 850 (by decide +kernel) (by decide +kernel), by decide⟩
theorem sl_X6_vertex : StV 11 57 M_X6_vertex 4 := ⟨mok_X6_vertex, by decide +kernel, gt_at 369 (by decide +kernel) (by decide +kernel), gt_at 370 (by decide +kernel) (by decide +kernel), gt_at 371 (by decide +kernel) (by decide +kernel), by decide⟩
theorem sl_X7_vertex : StV 11 60 M_X7_vertex 4 := ⟨mok_X7_vertex, by decide +kernel, gt_at 852 (by decide +kernel) (by decide +kernel), gt_at 853 (by decide +kernel) (by decide +kernel), gt_at 854 (by decide +kernel) (by decide +kernel), by decide⟩
theorem sl_X6_simplexCount : StV 11 61 M_X6_simplexCount 1 := ⟨mok_X6_simplexCount, by decide +kernel, gt_at 377 (by decide +kernel) (by decide +kernel), gt_at 378 (by decide +kernel) (by decide +kernel), gt_at 379 (by decide +kernel) (by decide +kernel), by decide⟩
theorem sl_X7_simplexCount : StV 11 64 M_X7_simplexCount 1 := ⟨mok_X7_simplexCount, by decide +kernel, gt_at 856 (by decide +kernel) (by decide +kernel), gt_at 857 (by decide +kernel) (by decide +kernel), gt_at 858 (by decide +kernel) (by decide +kernel), by decide⟩
theorem sl_X6_eulerCharacteristic : StV 11 65 M_X6_eulerCharacteristic 0 := ⟨mok_X6_eulerCharacteristic, by decide +kernel, gt_at 384 (by decide +kernel) (by decide +kernel), gt_at 385 (by decide +kernel) (by decide +kernel), gt_at 386 (by decide +kernel) (by decide +kernel), by decide⟩
theorem sl_X7_eulerCharacteristic : StV 11 68 M_X7_eulerCharacteristic 0 := ⟨mok_X7_eulerCharacteristic, by decide +kernel, gt_at 863 (by decide +kernel) (by decide +kernel), gt_at 864 (by decide +kernel) (by decide +kernel), gt_at 865 (by decide +kernel) (by decide +kernel), by decide⟩
theorem sl_X6_partCount : StV 11 69 M_X6_partCount 0 := ⟨mok_X6_partCount, by decide +kernel, gt_at 391 (by decide +kernel) (by decide +kernel), gt_at 392 (by decide +kernel) (by decide +kernel), gt_at 393 (by decide +kernel) (by decide +kernel), by decide⟩
theorem sl_X7_partCount : StV 11 72 M_X7_partCount 0 := ⟨mok_X7_partCount, by decide +kernel, gt_at 867 (by decide +kernel) (by decide +kernel), gt_at 868 (by decide +kernel) (by decide +kernel), gt_at 869 (by decide +kernel) (by decide +kernel), by decide⟩
theorem sl_X6_incidence : StV 11 73 M_X6_incidence 2 := ⟨mok_X6_incidence, by decide +kernel, gt_at 400 (by decide +kernel) (by decide +kernel), gt_at 401 (by decide +kernel) (by decide +kernel), gt_at 402 (by decide +kernel) (by decide +kernel), by decide⟩
theorem sl_X7_incidence : StV 11 77 M_X7_incidence 2 := ⟨mok_X7_incidence, by decide +kernel, gt_at 871 (by decide +kernel) (by decide +kernel), gt_at 872 (by decide +kernel) (by decide +kernel), gt_at 873 (by decide +kernel) (by decide +kernel), by decide⟩
theorem sl_X6_betti : StV 11 78 M_X6_betti 1 := ⟨mok_X6_betti, by decide +kernel, gt_at 404 (by decide +kernel) (by decide +kernel), gt_at 405 (by decide +kernel) (by decide +kernel), gt_at 406 (by decide +kernel) (by decide +kernel), by decide⟩
theorem sl_X7_betti : StV 11 81 M_X7_betti 1 := ⟨mok_X7_betti, by decide +kernel, gt_at 879 (by decide +kernel) (by decide +kernel), gt_at 880 (by decide +kernel) (by decide +kernel), gt_at 881 (by decide +kernel) (by decide +kernel), by decide⟩
theorem sl_X6_torsionCount : StV 11 82 M_X6_torsionCount 1 := ⟨mok_X6_torsionCount, by decide +kernel, gt_at 486 (by decide +kernel) (by decide +kernel), gt_at 487 (by decide +kernel) (by decide +kernel), gt_at 488 (by decide +kernel) (by decide +kernel), by decide⟩
theorem sl_X7_torsionCount : StV 11 85 M_X7_torsionCount 1 := ⟨mok_X7_torsionCount, by decide +kernel, gt_at 908 (by decide +kernel) (by decide +kernel), gt_at 909 (by decide +kernel) (by decide +kernel), gt_at 910 (by decide +kernel) (by decide +kernel), by decide⟩
theorem sl_X6_torsion : StV 11 86 M_X6_torsion 2 := ⟨mok_X6_torsion, by decide +kernel, gt_at 537 (by decide +kernel) (by decide +kernel), gt_at 538 (by decide +kernel) (by decide +kernel), gt_at 539 (by decide +kernel) (by decide +kernel), by decide⟩
theorem sl_X7_torsion : StV 11 90 M_X7_torsion 2 := ⟨mok_X7_torsion, by decide +kernel, gt_at 960 (by decide +kernel) (by decide +kernel), gt_at 961 (by decide +kernel) (by decide +kernel), gt_at 962 (by decide +kernel) (by decide +kernel), by decide⟩
theorem sl_X6_hornCount : StV 11 91 M_X6_hornCount 1 := ⟨mok_X6_hornCount, by decide +kernel, gt_at 544 (by decide +kernel) (by decide +kernel), gt_at 545 (by decide +kernel) (by decide +kernel), gt_at 546 (by decide +kernel) (by decide +kernel), by decide⟩
theorem sl_X7_hornCount : StV 11 94 M_X7_hornCount 1 := ⟨mok_X7_hornCount, by decide +kernel, gt_at 967 (by decide +kernel) (by decide +kernel), gt_at 968 (by decide +kernel) (by decide +kernel), gt_at 969 (by decide +kernel) (by decide +kernel), by decide⟩
theorem sl_X6_unfilledCount : StV 11 95 M_X6_unfilledCount 1 := ⟨mok_X6_unfilledCount, by decide +kernel, gt_at 571 (by decide +kernel) (by decide +kernel), gt_at 572 (by decide +kernel) (by decide +kernel), gt_at 573 (by decide +kernel) (by decide +kernel), by decide⟩
theorem sl_X7_unfilledCount : StV 11 98 M_X7_unfilledCount 1 := ⟨mok_X7_unfilledCount, by decide +kernel, gt_at 983 (by decide +kernel) (by decide +kernel), gt_at 984 (by decide +kernel) (by decide +kernel), gt_at 985 (by decide +kernel) (by decide +kernel), by decide⟩
theorem sl_X6_loadSimplex : StV 11 99 M_X6_loadSimplex 1 := ⟨mok_X6_loadSimplex, by decide +kernel, gt_at 581 (by decide +kernel) (by decide +kernel), gt_at 582 (by decide +kernel) (by decide +kernel), gt_at 583 (by decide +kernel) (by decide +kernel), by decide⟩
theorem sl_X7_loadSimplex : StV 11 102 M_X7_loadSimplex 1 := ⟨mok_X7_loadSimplex, by decide +kernel, gt_at 987 (by decide +kernel) (by decide +kernel), gt_at 988 (by decide +kernel) (by decide +kernel), gt_at 989 (by decide +kernel) (by decide +kernel), by decide⟩
theorem sl_X6_loadSphere : StV 11 103 M_X6_loadSphere 1 := ⟨mok_X6_loadSphere, by decide +kernel, gt_at 601 (by decide +kernel) (by decide +kernel), gt_at 602 (by decide +kernel) (by decide +kernel), gt_at 603 (by decide +kernel) (by decide +kernel), by decide⟩
theorem sl_X7_loadSphere : StV 11 106 M_X7_loadSphere 1 := ⟨mok_X7_loadSphere, by decide +kernel, gt_at 999 (by decide +kernel) (by decide +kernel), gt_at 1000 (by decide +kernel) (by decide +kernel), gt_at 1001 (by decide +kernel) (by decide +kernel), by decide⟩
theorem sl_X6_save : StV 11 107 M_X6_save 0 := ⟨mok_X6_save, by decide +kernel, gt_at 606 (by decide +kernel) (by decide +kernel), gt_at 607 (by decide +kernel) (by decide +kernel), gt_at 608 (by decide +kernel) (by decide +kernel), by decide⟩
theorem sl_X7_save : StV 11 110 M_X7_save 0 := ⟨mok_X7_save, by decide +kernel, gt_at 1003 (by decide +kernel) (by decide +kernel), gt_at 1004 (by decide +kernel) (by decide +kernel), gt_at 1005 (by decide +kernel) (by decide +kernel), by decide⟩
theorem sl_X6_product : StV 11 111 M_X6_product 0 := ⟨mok_X6_product, by decide +kernel, gt_at 614 (by decide +kernel) (by decide +kernel), gt_at 615 (by decide +kernel) (by decide +kernel), gt_at 616 (by decide +kernel) (by decide +kernel), by decide⟩
theorem sl_X7_product : StV 11 114 M_X7_product 0 := ⟨mok_X7_product, by decide +kernel, gt_at 1007 (by decide +kernel) (by decide +kernel), gt_at 1008 (by decide +kernel) (by decide +kernel), gt_at 1009 (by decide +kernel) (by decide +kernel), by decide⟩
section LC
variable {l : Launch} {ω : Wd} {p : Program} {e : Env} {s : State} {m : MethodId} {below : List Frame} {meth : Method} {c : Code} {b L : Nat} {xs : Nat → Int32} {i : Nat} {μ : Mm}
theorem cs_0 : csOk 144 0 13 17 := ⟨by decide +kernel, fun j hj => by unfold argOk; revert j; decide +kernel, by decide +kernel, by decide +kernel, fun j hj => by unfold argOk; revert j; decide +kernel, by decide +kernel⟩
theorem gc_0 (C : CL ω p s m meth c b L xs) (hi : i + 5 ≤ L) (hJ : Jn μ) (k : ∀ μ2, Jn μ2 → GL l ω p e s m below meth c b i 787 [] μ2) : GL l ω p e s m below meth c b i 144 [] μ := gl_int (off := 635) C sl_X6_addVertex sl_X7_addVertex (by decide +kernel) (by decide +kernel) (by decide +kernel) (by decide +kernel) (by decide +kernel) cs_0 (by decide +kernel) (by decide) (by omega) (pr_addVertex hJ ) k
theorem cs_1 : csOk 157 1 18 22 := ⟨by decide +kernel, fun j hj => by unfold argOk; revert j; decide +kernel, by decide +kernel, by decide +kernel, fun j hj => by unfold argOk; revert j; decide +kernel, by decide +kernel⟩
theorem gc_1 (C : CL ω p s m meth c b L xs) (hi : i + 5 ≤ L) (hJ : Jn μ) (k : ∀ μ2, Jn μ2 → GL l ω p e s m below meth c b i 787 [] μ2) : GL l ω p e s m below meth c b i 157 [] μ := gl_int (off := 612) C sl_X6_beginCell sl_X7_beginCell (by decide +kernel) (by decide +kernel) (by decide +kernel) (by decide +kernel) (by decide +kernel) cs_1 (by decide +kernel) (by decide) (by omega) (pr_beginCell hJ (xs (i + 0 + 1))) k
theorem cs_2 : csOk 180 3 23 27 := ⟨by decide +kernel, fun j hj => by unfold argOk; revert j; decide +kernel, by decide +kernel, by decide +kernel, fun j hj => by unfold argOk; revert j; decide +kernel, by decide +kernel⟩
theorem gc_2 (C : CL ω p s m meth c b L xs) (hi : i + 5 ≤ L) (hJ : Jn μ) (k : ∀ μ2, Jn μ2 → GL l ω p e s m below meth c b i 787 [] μ2) : GL l ω p e s m below meth c b i 180 [] μ := gl_int (off := 569) C sl_X6_setFace sl_X7_setFace (by decide +kernel) (by decide +kernel) (by decide +kernel) (by decide +kernel) (by decide +kernel) cs_2 (by decide +kernel) (by decide) (by omega) (pr_setFace hJ (xs (i + 0 + 1)) (xs (i + 0 + 1 + 1)) (xs (i + 0 + 1 + 1 + 1))) k
theorem cs_3 : csOk 223 0 28 31 := ⟨by decide +kernel, fun j hj => by unfold argOk; revert j; decide +kernel, by decide +kernel, by decide +kernel, fun j hj => by unfold argOk; revert j; decide +kernel, by decide +kernel⟩
theorem gc_3 (C : CL ω p s m meth c b L xs) (hi : i + 5 ≤ L) (hJ : Jn μ) (k : ∀ μ2, Jn μ2 → GL l ω p e s m below meth c b i 787 [] μ2) : GL l ω p e s m below meth c b i 223 [] μ := gl_int (off := 556) C sl_X6_endCell sl_X7_endCell (by decide +kernel) (by decide +kernel) (by decide +kernel) (by decide +kernel) (by decide +kernel) cs_3 (by decide +kernel) (by decide) (by omega) (pr_endCell hJ ) k
theorem cs_4 : csOk 236 0 32 35 := ⟨by decide +kernel, fun j hj => by unfold argOk; revert j; decide +kernel, by decide +kernel, by decide +kernel, fun j hj => by unfold argOk; revert j; decide +kernel, by decide +kernel⟩
theorem gc_4 (C : CL ω p s m meth c b L xs) (hi : i + 5 ≤ L) (hJ : Jn μ) (k : ∀ μ2, Jn μ2 → GL l ω p e s m below meth c b i 787 [] μ2) : GL l ω p e s m below meth c b i 236 [] μ := gl_int (off := 543) C sl_X6_clear sl_X7_clear (by decide +kernel) (by decide +kernel) (by decide +kernel) (by decide +kernel) (by decide +kernel) cs_4 (by decide +kernel) (by decide) (by omega) (pr_clear hJ ) k
theorem cs_5 : csOk 249 1 36 39 := ⟨by decide +kernel, fun j hj => by unfold argOk; revert j; decide +kernel, by decide +kernel, by decide +kernel, fun j hj => by unfold argOk; revert j; decide +kernel, by decide +kernel⟩
theorem gc_5 (C : CL ω p s m meth c b L xs) (hi : i + 5 ≤ L) (hJ : Jn μ) (k : ∀ μ2, Jn μ2 → GL l ω p e s m below meth c b i 787 [] μ2) : GL l ω p e s m below meth c b i 249 [] μ := gl_int (off := 520) C sl_X6_cellCount sl_X7_cellCount (by decide +kernel) (by decide +kernel) (by decide +kernel) (by decide +kernel) (by decide +kernel) cs_5 (by decide +kernel) (by decide) (by omega) (pr_cellCount hJ (xs (i + 0 + 1))) k
theorem cs_6 : csOk 272 1 40 43 := ⟨by decide +kernel, fun j hj => by unfold argOk; revert j; decide +kernel, by decide +kernel, by decide +kernel, fun j hj => by unfold argOk; revert j; decide +kernel, by decide +kernel⟩
theorem gc_6 (C : CL ω p s m meth c b L xs) (hi : i + 5 ≤ L) (hJ : Jn μ) (k : ∀ μ2, Jn μ2 → GL l ω p e s m below meth c b i 787 [] μ2) : GL l ω p e s m below meth c b i 272 [] μ := gl_int (off := 497) C sl_X6_dimension sl_X7_dimension (by decide +kernel) (by decide +kernel) (by decide +kernel) (by decide +kernel) (by decide +kernel) cs_6 (by decide +kernel) (by decide) (by omega) (pr_dimension hJ (xs (i + 0 + 1))) k
theorem cs_7 : csOk 295 4 44 48 := ⟨by decide +kernel, fun j hj => by unfold argOk; revert j; decide +kernel, by decide +kernel, by decide +kernel, fun j hj => by unfold argOk; revert j; decide +kernel, by decide +kernel⟩
theorem gc_7 (C : CL ω p s m meth c b L xs) (hi : i + 5 ≤ L) (hJ : Jn μ) (k : ∀ μ2, Jn μ2 → GL l ω p e s m below meth c b i 787 [] μ2) : GL l ω p e s m below meth c b i 295 [] μ := gl_int (off := 444) C sl_X6_faceCell sl_X7_faceCell (by decide +kernel) (by decide +kernel) (by decide +kernel) (by decide +kernel) (by decide +kernel) cs_7 (by decide +kernel) (by decide) (by omega) (pr_faceCell hJ (xs (i + 0 + 1)) (xs (i + 0 + 1 + 1)) (xs (i + 0 + 1 + 1 + 1)) (xs (i + 0 + 1 + 1 + 1 + 1))) k
theorem cs_8 : csOk 348 4 49 52 := ⟨by decide +kernel, fun j hj => by unfold argOk; revert j; decide +kernel, by decide +kernel, by decide +kernel, fun j hj => by unfold argOk; revert j; decide +kernel, by decide +kernel⟩
theorem gc_8 (C : CL ω p s m meth c b L xs) (hi : i + 5 ≤ L) (hJ : Jn μ) (k : ∀ μ2, Jn μ2 → GL l ω p e s m below meth c b i 787 [] μ2) : GL l ω p e s m below meth c b i 348 [] μ := gl_int (off := 391) C sl_X6_faceMask sl_X7_faceMask (by decide +kernel) (by decide +kernel) (by decide +kernel) (by decide +kernel) (by decide +kernel) cs_8 (by decide +kernel) (by decide) (by omega) (pr_faceMask hJ (xs (i + 0 + 1)) (xs (i + 0 + 1 + 1)) (xs (i + 0 + 1 + 1 + 1)) (xs (i + 0 + 1 + 1 + 1 + 1))) k
theorem cs_9 : csOk 401 4 53 56 := ⟨by decide +kernel, fun j hj => by unfold argOk; revert j; decide +kernel, by decide +kernel, by decide +kernel, fun j hj => by unfold argOk; revert j; decide +kernel, by decide +kernel⟩
theorem gc_9 (C : CL ω p s m meth c b L xs) (hi : i + 5 ≤ L) (hJ : Jn μ) (k : ∀ μ2, Jn μ2 → GL l ω p e s m below meth c b i 787 [] μ2) : GL l ω p e s m below meth c b i 401 [] μ := gl_int (off := 338) C sl_X6_degeneracyMask sl_X7_degeneracyMask (by decide +kernel) (by decide +kernel) (by decide +kernel) (by decide +kernel) (by decide +kernel) cs_9 (by decide +kernel) (by decide) (by omega) (pr_degeneracyMask hJ (xs (i + 0 + 1)) (xs (i + 0 + 1 + 1)) (xs (i + 0 + 1 + 1 + 1)) (xs (i + 0 + 1 + 1 + 1 + 1))) k
theorem cs_10 : csOk 454 4 57 60 := ⟨by decide +kernel, fun j hj => by unfold argOk; revert j; decide +kernel, by decide +kernel, by decide +kernel, fun j hj => by unfold argOk; revert j; decide +kernel, by decide +kernel⟩
theorem gc_10 (C : CL ω p s m meth c b L xs) (hi : i + 5 ≤ L) (hJ : Jn μ) (k : ∀ μ2, Jn μ2 → GL l ω p e s m below meth c b i 787 [] μ2) : GL l ω p e s m below meth c b i 454 [] μ := gl_int (off := 285) C sl_X6_vertex sl_X7_vertex (by decide +kernel) (by decide +kernel) (by decide +kernel) (by decide +kernel) (by decide +kernel) cs_10 (by decide +kernel) (by decide) (by omega) (pr_vertex hJ (xs (i + 0 + 1)) (xs (i + 0 + 1 + 1)) (xs (i + 0 + 1 + 1 + 1)) (xs (i + 0 + 1 + 1 + 1 + 1))) k
theorem cs_11 : csOk 507 1 61 64 := ⟨by decide +kernel, fun j hj => by unfold argOk; revert j; decide +kernel, by decide +kernel, by decide +kernel, fun j hj => by unfold argOk; revert j; decide +kernel, by decide +kernel⟩
theorem gc_11 (C : CL ω p s m meth c b L xs) (hi : i + 5 ≤ L) (hJ : Jn μ) (k : ∀ μ2, Jn μ2 → GL l ω p e s m below meth c b i 787 [] μ2) : GL l ω p e s m below meth c b i 507 [] μ := gl_int (off := 262) C sl_X6_simplexCount sl_X7_simplexCount (by decide +kernel) (by decide +kernel) (by decide +kernel) (by decide +kernel) (by decide +kernel) cs_11 (by decide +kernel) (by decide) (by omega) (pr_simplexCount hJ (xs (i + 0 + 1))) k
theorem cs_12 : csOk 530 0 65 68 := ⟨by decide +kernel, fun j hj => by unfold argOk; revert j; decide +kernel, by decide +kernel, by decide +kernel, fun j hj => by unfold argOk; revert j; decide +kernel, by decide +kernel⟩
theorem gc_12 (C : CL ω p s m meth c b L xs) (hi : i + 5 ≤ L) (hJ : Jn μ) (k : ∀ μ2, Jn μ2 → GL l ω p e s m below meth c b i 787 [] μ2) : GL l ω p e s m below meth c b i 530 [] μ := gl_int (off := 249) C sl_X6_eulerCharacteristic sl_X7_eulerCharacteristic (by decide +kernel) (by decide +kernel) (by decide +kernel) (by decide +kernel) (by decide +kernel) cs_12 (by decide +kernel) (by decide) (by omega) (pr_eulerCharacteristic hJ ) k
theorem cs_13 : csOk 543 0 69 72 := ⟨by decide +kernel, fun j hj => by unfold argOk; revert j; decide +kernel, by decide +kernel, by decide +kernel, fun j hj => by unfold argOk; revert j; decide +kernel, by decide +kernel⟩
theorem gc_13 (C : CL ω p s m meth c b L xs) (hi : i + 5 ≤ L) (hJ : Jn μ) (k : ∀ μ2, Jn μ2 → GL l ω p e s m below meth c b i 787 [] μ2) : GL l ω p e s m below meth c b i 543 [] μ := gl_int (off := 236) C sl_X6_partCount sl_X7_partCount (by decide +kernel) (by decide +kernel) (by decide +kernel) (by decide +kernel) (by decide +kernel) cs_13 (by decide +kernel) (by decide) (by omega) (pr_partCount hJ ) k
theorem cs_14 : csOk 556 2 73 77 := ⟨by decide +kernel, fun j hj => by unfold argOk; revert j; decide +kernel, by decide +kernel, by decide +kernel, fun j hj => by unfold argOk; revert j; decide +kernel, by decide +kernel⟩
theorem gc_14 (C : CL ω p s m meth c b L xs) (hi : i + 5 ≤ L) (hJ : Jn μ) (k : ∀ μ2, Jn μ2 → GL l ω p e s m below meth c b i 787 [] μ2) : GL l ω p e s m below meth c b i 556 [] μ := gl_int (off := 203) C sl_X6_incidence sl_X7_incidence (by decide +kernel) (by decide +kernel) (by decide +kernel) (by decide +kernel) (by decide +kernel) cs_14 (by decide +kernel) (by decide) (by omega) (pr_incidence hJ (xs (i + 0 + 1)) (xs (i + 0 + 1 + 1))) k
theorem cs_15 : csOk 589 1 78 81 := ⟨by decide +kernel, fun j hj => by unfold argOk; revert j; decide +kernel, by decide +kernel, by decide +kernel, fun j hj => by unfold argOk; revert j; decide +kernel, by decide +kernel⟩
theorem gc_15 (C : CL ω p s m meth c b L xs) (hi : i + 5 ≤ L) (hJ : Jn μ) (k : ∀ μ2, Jn μ2 → GL l ω p e s m below meth c b i 787 [] μ2) : GL l ω p e s m below meth c b i 589 [] μ := gl_int (off := 180) C sl_X6_betti sl_X7_betti (by decide +kernel) (by decide +kernel) (by decide +kernel) (by decide +kernel) (by decide +kernel) cs_15 (by decide +kernel) (by decide) (by omega) (pr_betti hJ (xs (i + 0 + 1))) k
theorem cs_16 : csOk 612 1 82 85 := ⟨by decide +kernel, fun j hj => by unfold argOk; revert j; decide +kernel, by decide +kernel, by decide +kernel, fun j hj => by unfold argOk; revert j; decide +kernel, by decide +kernel⟩
theorem gc_16 (C : CL ω p s m meth c b L xs) (hi : i + 5 ≤ L) (hJ : Jn μ) (k : ∀ μ2, Jn μ2 → GL l ω p e s m below meth c b i 787 [] μ2) : GL l ω p e s m below meth c b i 612 [] μ := gl_int (off := 157) C sl_X6_torsionCount sl_X7_torsionCount (by decide +kernel) (by decide +kernel) (by decide +kernel) (by decide +kernel) (by decide +kernel) cs_16 (by decide +kernel) (by decide) (by omega) (pr_torsionCount hJ (xs (i + 0 + 1))) k
theorem cs_17 : csOk 635 2 86 90 := ⟨by decide +kernel, fun j hj => by unfold argOk; revert j; decide +kernel, by decide +kernel, by decide +kernel, fun j hj => by unfold argOk; revert j; decide +kernel, by decide +kernel⟩
theorem gc_17 (C : CL ω p s m meth c b L xs) (hi : i + 5 ≤ L) (hJ : Jn μ) (k : ∀ μ2, Jn μ2 → GL l ω p e s m below meth c b i 787 [] μ2) : GL l ω p e s m below meth c b i 635 [] μ := gl_long (off := 123) C sl_X6_torsion sl_X7_torsion (by decide +kernel) (by decide +kernel) (by decide +kernel) (by decide +kernel) (by decide +kernel) cs_17 (by decide +kernel) (by decide +kernel) (by decide) (by omega) (pr_torsion hJ (xs (i + 0 + 1)) (xs (i + 0 + 1 + 1))) k
theorem cs_18 : csOk 669 1 91 94 := ⟨by decide +kernel, fun j hj => by unfold argOk; revert j; decide +kernel, by decide +kernel, by decide +kernel, fun j hj => by unfold argOk; revert j; decide +kernel, by decide +kernel⟩
theorem gc_18 (C : CL ω p s m meth c b L xs) (hi : i + 5 ≤ L) (hJ : Jn μ) (k : ∀ μ2, Jn μ2 → GL l ω p e s m below meth c b i 787 [] μ2) : GL l ω p e s m below meth c b i 669 [] μ := gl_int (off := 100) C sl_X6_hornCount sl_X7_hornCount (by decide +kernel) (by decide +kernel) (by decide +kernel) (by decide +kernel) (by decide +kernel) cs_18 (by decide +kernel) (by decide) (by omega) (pr_hornCount hJ (xs (i + 0 + 1))) k
theorem cs_19 : csOk 692 1 95 98 := ⟨by decide +kernel, fun j hj => by unfold argOk; revert j; decide +kernel, by decide +kernel, by decide +kernel, fun j hj => by unfold argOk; revert j; decide +kernel, by decide +kernel⟩
theorem gc_19 (C : CL ω p s m meth c b L xs) (hi : i + 5 ≤ L) (hJ : Jn μ) (k : ∀ μ2, Jn μ2 → GL l ω p e s m below meth c b i 787 [] μ2) : GL l ω p e s m below meth c b i 692 [] μ := gl_int (off := 77) C sl_X6_unfilledCount sl_X7_unfilledCount (by decide +kernel) (by decide +kernel) (by decide +kernel) (by decide +kernel) (by decide +kernel) cs_19 (by decide +kernel) (by decide) (by omega) (pr_unfilledCount hJ (xs (i + 0 + 1))) k
theorem cs_20 : csOk 715 1 99 102 := ⟨by decide +kernel, fun j hj => by unfold argOk; revert j; decide +kernel, by decide +kernel, by decide +kernel, fun j hj => by unfold argOk; revert j; decide +kernel, by decide +kernel⟩
theorem gc_20 (C : CL ω p s m meth c b L xs) (hi : i + 5 ≤ L) (hJ : Jn μ) (k : ∀ μ2, Jn μ2 → GL l ω p e s m below meth c b i 787 [] μ2) : GL l ω p e s m below meth c b i 715 [] μ := gl_int (off := 54) C sl_X6_loadSimplex sl_X7_loadSimplex (by decide +kernel) (by decide +kernel) (by decide +kernel) (by decide +kernel) (by decide +kernel) cs_20 (by decide +kernel) (by decide) (by omega) (pr_loadSimplex hJ (xs (i + 0 + 1))) k
theorem cs_21 : csOk 738 1 103 106 := ⟨by decide +kernel, fun j hj => by unfold argOk; revert j; decide +kernel, by decide +kernel, by decide +kernel, fun j hj => by unfold argOk; revert j; decide +kernel, by decide +kernel⟩
theorem gc_21 (C : CL ω p s m meth c b L xs) (hi : i + 5 ≤ L) (hJ : Jn μ) (k : ∀ μ2, Jn μ2 → GL l ω p e s m below meth c b i 787 [] μ2) : GL l ω p e s m below meth c b i 738 [] μ := gl_int (off := 31) C sl_X6_loadSphere sl_X7_loadSphere (by decide +kernel) (by decide +kernel) (by decide +kernel) (by decide +kernel) (by decide +kernel) cs_21 (by decide +kernel) (by decide) (by omega) (pr_loadSphere hJ (xs (i + 0 + 1))) k
theorem cs_22 : csOk 761 0 107 110 := ⟨by decide +kernel, fun j hj => by unfold argOk; revert j; decide +kernel, by decide +kernel, by decide +kernel, fun j hj => by unfold argOk; revert j; decide +kernel, by decide +kernel⟩
theorem gc_22 (C : CL ω p s m meth c b L xs) (hi : i + 5 ≤ L) (hJ : Jn μ) (k : ∀ μ2, Jn μ2 → GL l ω p e s m below meth c b i 787 [] μ2) : GL l ω p e s m below meth c b i 761 [] μ := gl_int (off := 18) C sl_X6_save sl_X7_save (by decide +kernel) (by decide +kernel) (by decide +kernel) (by decide +kernel) (by decide +kernel) cs_22 (by decide +kernel) (by decide) (by omega) (pr_save hJ ) k
theorem cs_23 : csOk 774 0 111 114 := ⟨by decide +kernel, fun j hj => by unfold argOk; revert j; decide +kernel, by decide +kernel, by decide +kernel, fun j hj => by unfold argOk; revert j; decide +kernel, by decide +kernel⟩
theorem gc_23 (C : CL ω p s m meth c b L xs) (hi : i + 5 ≤ L) (hJ : Jn μ) (k : ∀ μ2, Jn μ2 → GL l ω p e s m below meth c b i 787 [] μ2) : GL l ω p e s m below meth c b i 774 [] μ := gl_int (off := 5) C sl_X6_product sl_X7_product (by decide +kernel) (by decide +kernel) (by decide +kernel) (by decide +kernel) (by decide +kernel) cs_23 (by decide +kernel) (by decide) (by omega) (pr_product hJ ) k
end LC
